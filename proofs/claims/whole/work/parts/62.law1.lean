abbrev q_md_init (G : hG) (y : Nat) (M : hM) : Option Value → hM → Prop := fun rv M' => rv = none ∧ ∃ d be sg nu fi le pl rw va : Nat, (M d = none ∧ M be = none ∧ M sg = none ∧ M nu = none ∧ M fi = none ∧ M le = none ∧ M pl = none ∧ M rw = none ∧ M va = none) ∧ hm_has M' [(y, .inr (4, [.int (nI 0), .int (nI 0), .ref d, .int (nI 0), .ref be, .ref sg, .ref nu, .int (nI 0), .int (nI 0), .ref fi, .ref le, .ref pl, .int (nI 2), .int (nI 3), .int (nI 0), .ref rw, .ref va, .int (bI false)])), (d, aI G 200 (fun _ => 0)), (be, aI G 8194 (fun _ => 0)), (sg, aI G 40000 (fun _ => 0)), (nu, aI G 48200 (fun _ => 0)), (fi, aI G 2050 (fun _ => 0)), (le, aI G 40000 (fun _ => 0)), (pl, aJ G 2048 (fun _ => 0)), (rw, aI G 66 (fun _ => 0)), (va, aI G 66 (fun _ => 0))] ∧ hm_kp (fun a => a ∈ [y]) M M'
set_option maxHeartbeats 4000000 in
set_option maxRecDepth 100000 in
theorem c_md_init (l : Launch) (G : hG) (y : Nat) (M : hM) (hw : hm_has M [(y, .inr (4, [.int 0, .int 0, .null, .int 0, .null, .null, .null, .int 0, .int 0, .null, .null, .null, .int 0, .int 0, .int 0, .null, .null, .int 0]))]) : Ct (gk G) l G.1 vwC y_md_init w_md_init { frames := 1, cells := 9, slots := 140824, locals := 12 } ([.ref y] : List Value) M (q_md_init G y M) 9 140824 := by
  refine Ct.ofW (cc := b_md_init) (maxL := 1) (ret := (Option.none : Option Jvm.ClassFile.FieldType)) (by decide) rfl (Nat.le_of_ble_eq_true rfl) (fun p e s m below meth c A ls E hr hlk hin hg hH hl => ?_)
  have hl : lv_has ls 1 [(0, .ref y)] := hl
  have hx := E.1; have hb := E.2.1; have hml := E.2.2.1; have hown := E.2.2.2.1; have hts := E.2.2.2.2; have hK := hg.1
  obtain ⟨M0, hM0⟩ : ∃ M0 : hM, M0 = M := ⟨M, rfl⟩
  rw [show q_md_init G y M = q_md_init G y M0 by rw [hM0]]
  have hk : hm_kp (fun a => a ∈ [y]) M0 M := by rw [hM0]; exact hm_kp.rf
  refine lv_aload_n hx hb d_md_init_0 rfl (lv_at hl 0 rfl) ?_
  refine W.objInit hx hb hown (hts _ (tC wm_364)) (hts _ (tC wm_18)) (hts _ (tC wm_19)) rfl (by rw [hml]; exact hl.1) rfl d_md_init_1 (Nat.le_of_ble_eq_true rfl) (Nat.le_of_ble_eq_true rfl) ?_
  refine W.eq (g2 := F0 m 4 ls []) rfl ?_
  refine lv_aload_n hx hb d_md_init_4 rfl (lv_at hl 0 rfl) ?_
  refine lv_sipush (v := 200) hx hb d_md_init_5 (by decide) ?_
  refine hm_newaI E (tC wm_46) hK hH 0 rfl (n := 200) (by decide) (by show _ ≤ 9; omega) (by show _ ≤ 140824; omega) d_md_init_8 (fun d H hqd hH => ?_)
  have hnd : M0 d = none := hk.nq hqd (fun a h => by simp at h; subst h; exact ⟨_, hw.at 0 rfl⟩)
  have hw := hw.push (ws' := [(y, .inr (4, [.int 0, .int 0, .null, .int 0, .null, .null, .null, .int 0, .int 0, .null, .null, .null, .int 0, .int 0, .int 0, .null, .null, .int 0])), (d, aI G 200 (fun _ => 0))]) hqd rfl
  have hk := hk.tr (hm_kp.new (S := fun a => a ∈ [y]) (v := some (aI G 200 (fun _ => 0))) hqd) (fun _ h => h)
  generalize va_up M d (some (aI G 200 (fun _ => 0))) = M at hH hw hk ⊢
  refine hm_putF E (tB in_md) t_md tk_md nm_md hK hH (hw.at 0 rfl) rfl 2 (by decide) (tC wm_369) rfl hin rfl rfl rfl (Nat.le_of_ble_eq_true rfl) (fs' := [.int 0, .int 0, .ref d, .int 0, .null, .null, .null, .int 0, .int 0, .null, .null, .null, .int 0, .int 0, .int 0, .null, .null, .int 0]) rfl d_md_init_10 (fun H locs hH => ?_)
  have hw := hw.set (ws' := [(y, .inr (4, [.int 0, .int 0, .ref d, .int 0, .null, .null, .null, .int 0, .int 0, .null, .null, .null, .int 0, .int 0, .int 0, .null, .null, .int 0])), (d, aI G 200 (fun _ => 0))]) (k := 0) rfl rfl
  have hk := hk.wr (a := y) (v := some (.inr (4, [.int 0, .int 0, .ref d, .int 0, .null, .null, .null, .int 0, .int 0, .null, .null, .null, .int 0, .int 0, .int 0, .null, .null, .int 0]))) (by first | (right; assumption) | (left; simp; done))
  generalize va_up M y (some (.inr (4, [.int 0, .int 0, .ref d, .int 0, .null, .null, .null, .int 0, .int 0, .null, .null, .null, .int 0, .int 0, .int 0, .null, .null, .int 0]))) = M at hH hw hk ⊢
  refine lv_aload_n hx hb d_md_init_13 rfl (lv_at hl 0 rfl) ?_
  refine lv_sipush (v := 8194) hx hb d_md_init_14 (by decide) ?_
  refine hm_newaI E (tC wm_46) hK hH 0 rfl (n := 8194) (by decide) (by show _ ≤ 9; omega) (by show _ ≤ 140824; omega) d_md_init_17 (fun be H hqbe hH => ?_)
  have hnbe : M0 be = none := hk.nq hqbe (fun a h => by simp at h; subst h; exact ⟨_, hw.at 0 rfl⟩)
  have hw := hw.push (ws' := [(y, .inr (4, [.int 0, .int 0, .ref d, .int 0, .null, .null, .null, .int 0, .int 0, .null, .null, .null, .int 0, .int 0, .int 0, .null, .null, .int 0])), (d, aI G 200 (fun _ => 0)), (be, aI G 8194 (fun _ => 0))]) hqbe rfl
  have hk := hk.tr (hm_kp.new (S := fun a => a ∈ [y]) (v := some (aI G 8194 (fun _ => 0))) hqbe) (fun _ h => h)
  generalize va_up M be (some (aI G 8194 (fun _ => 0))) = M at hH hw hk ⊢
  refine hm_putF E (tB in_md) t_md tk_md nm_md hK hH (hw.at 0 rfl) rfl 4 (by decide) (tC wm_371) rfl hin rfl rfl rfl (Nat.le_of_ble_eq_true rfl) (fs' := [.int 0, .int 0, .ref d, .int 0, .ref be, .null, .null, .int 0, .int 0, .null, .null, .null, .int 0, .int 0, .int 0, .null, .null, .int 0]) rfl d_md_init_19 (fun H locs hH => ?_)
  have hw := hw.set (ws' := [(y, .inr (4, [.int 0, .int 0, .ref d, .int 0, .ref be, .null, .null, .int 0, .int 0, .null, .null, .null, .int 0, .int 0, .int 0, .null, .null, .int 0])), (d, aI G 200 (fun _ => 0)), (be, aI G 8194 (fun _ => 0))]) (k := 0) rfl rfl
  have hk := hk.wr (a := y) (v := some (.inr (4, [.int 0, .int 0, .ref d, .int 0, .ref be, .null, .null, .int 0, .int 0, .null, .null, .null, .int 0, .int 0, .int 0, .null, .null, .int 0]))) (by first | (right; assumption) | (left; simp; done))
  generalize va_up M y (some (.inr (4, [.int 0, .int 0, .ref d, .int 0, .ref be, .null, .null, .int 0, .int 0, .null, .null, .null, .int 0, .int 0, .int 0, .null, .null, .int 0]))) = M at hH hw hk ⊢
  refine lv_aload_n hx hb d_md_init_22 rfl (lv_at hl 0 rfl) ?_
  refine lv_ldc (v := 40000) hx hb hown (hts _ (tC wm_365)) d_md_init_23 ?_
  refine hm_newaI E (tC wm_46) hK hH 0 rfl (n := 40000) (by decide) (by show _ ≤ 9; omega) (by show _ ≤ 140824; omega) d_md_init_25 (fun sg H hqsg hH => ?_)
  have hnsg : M0 sg = none := hk.nq hqsg (fun a h => by simp at h; subst h; exact ⟨_, hw.at 0 rfl⟩)
  have hw := hw.push (ws' := [(y, .inr (4, [.int 0, .int 0, .ref d, .int 0, .ref be, .null, .null, .int 0, .int 0, .null, .null, .null, .int 0, .int 0, .int 0, .null, .null, .int 0])), (d, aI G 200 (fun _ => 0)), (be, aI G 8194 (fun _ => 0)), (sg, aI G 40000 (fun _ => 0))]) hqsg rfl
  have hk := hk.tr (hm_kp.new (S := fun a => a ∈ [y]) (v := some (aI G 40000 (fun _ => 0))) hqsg) (fun _ h => h)
  generalize va_up M sg (some (aI G 40000 (fun _ => 0))) = M at hH hw hk ⊢
  refine hm_putF E (tB in_md) t_md tk_md nm_md hK hH (hw.at 0 rfl) rfl 5 (by decide) (tC wm_372) rfl hin rfl rfl rfl (Nat.le_of_ble_eq_true rfl) (fs' := [.int 0, .int 0, .ref d, .int 0, .ref be, .ref sg, .null, .int 0, .int 0, .null, .null, .null, .int 0, .int 0, .int 0, .null, .null, .int 0]) rfl d_md_init_27 (fun H locs hH => ?_)
  have hw := hw.set (ws' := [(y, .inr (4, [.int 0, .int 0, .ref d, .int 0, .ref be, .ref sg, .null, .int 0, .int 0, .null, .null, .null, .int 0, .int 0, .int 0, .null, .null, .int 0])), (d, aI G 200 (fun _ => 0)), (be, aI G 8194 (fun _ => 0)), (sg, aI G 40000 (fun _ => 0))]) (k := 0) rfl rfl
  have hk := hk.wr (a := y) (v := some (.inr (4, [.int 0, .int 0, .ref d, .int 0, .ref be, .ref sg, .null, .int 0, .int 0, .null, .null, .null, .int 0, .int 0, .int 0, .null, .null, .int 0]))) (by first | (right; assumption) | (left; simp; done))
  generalize va_up M y (some (.inr (4, [.int 0, .int 0, .ref d, .int 0, .ref be, .ref sg, .null, .int 0, .int 0, .null, .null, .null, .int 0, .int 0, .int 0, .null, .null, .int 0]))) = M at hH hw hk ⊢
  refine lv_aload_n hx hb d_md_init_30 rfl (lv_at hl 0 rfl) ?_
  refine lv_ldc (v := 48200) hx hb hown (hts _ (tC wm_366)) d_md_init_31 ?_
  refine hm_newaI E (tC wm_46) hK hH 0 rfl (n := 48200) (by decide) (by show _ ≤ 9; omega) (by show _ ≤ 140824; omega) d_md_init_33 (fun nu H hqnu hH => ?_)
  have hnnu : M0 nu = none := hk.nq hqnu (fun a h => by simp at h; subst h; exact ⟨_, hw.at 0 rfl⟩)
  have hw := hw.push (ws' := [(y, .inr (4, [.int 0, .int 0, .ref d, .int 0, .ref be, .ref sg, .null, .int 0, .int 0, .null, .null, .null, .int 0, .int 0, .int 0, .null, .null, .int 0])), (d, aI G 200 (fun _ => 0)), (be, aI G 8194 (fun _ => 0)), (sg, aI G 40000 (fun _ => 0)), (nu, aI G 48200 (fun _ => 0))]) hqnu rfl
  have hk := hk.tr (hm_kp.new (S := fun a => a ∈ [y]) (v := some (aI G 48200 (fun _ => 0))) hqnu) (fun _ h => h)
  generalize va_up M nu (some (aI G 48200 (fun _ => 0))) = M at hH hw hk ⊢
  refine hm_putF E (tB in_md) t_md tk_md nm_md hK hH (hw.at 0 rfl) rfl 6 (by decide) (tC wm_373) rfl hin rfl rfl rfl (Nat.le_of_ble_eq_true rfl) (fs' := [.int 0, .int 0, .ref d, .int 0, .ref be, .ref sg, .ref nu, .int 0, .int 0, .null, .null, .null, .int 0, .int 0, .int 0, .null, .null, .int 0]) rfl d_md_init_35 (fun H locs hH => ?_)
  have hw := hw.set (ws' := [(y, .inr (4, [.int 0, .int 0, .ref d, .int 0, .ref be, .ref sg, .ref nu, .int 0, .int 0, .null, .null, .null, .int 0, .int 0, .int 0, .null, .null, .int 0])), (d, aI G 200 (fun _ => 0)), (be, aI G 8194 (fun _ => 0)), (sg, aI G 40000 (fun _ => 0)), (nu, aI G 48200 (fun _ => 0))]) (k := 0) rfl rfl
  have hk := hk.wr (a := y) (v := some (.inr (4, [.int 0, .int 0, .ref d, .int 0, .ref be, .ref sg, .ref nu, .int 0, .int 0, .null, .null, .null, .int 0, .int 0, .int 0, .null, .null, .int 0]))) (by first | (right; assumption) | (left; simp; done))
  generalize va_up M y (some (.inr (4, [.int 0, .int 0, .ref d, .int 0, .ref be, .ref sg, .ref nu, .int 0, .int 0, .null, .null, .null, .int 0, .int 0, .int 0, .null, .null, .int 0]))) = M at hH hw hk ⊢
  refine lv_aload_n hx hb d_md_init_38 rfl (lv_at hl 0 rfl) ?_
  refine lv_sipush (v := 2050) hx hb d_md_init_39 (by decide) ?_
  refine hm_newaI E (tC wm_46) hK hH 0 rfl (n := 2050) (by decide) (by show _ ≤ 9; omega) (by show _ ≤ 140824; omega) d_md_init_42 (fun fi H hqfi hH => ?_)
  have hnfi : M0 fi = none := hk.nq hqfi (fun a h => by simp at h; subst h; exact ⟨_, hw.at 0 rfl⟩)
  have hw := hw.push (ws' := [(y, .inr (4, [.int 0, .int 0, .ref d, .int 0, .ref be, .ref sg, .ref nu, .int 0, .int 0, .null, .null, .null, .int 0, .int 0, .int 0, .null, .null, .int 0])), (d, aI G 200 (fun _ => 0)), (be, aI G 8194 (fun _ => 0)), (sg, aI G 40000 (fun _ => 0)), (nu, aI G 48200 (fun _ => 0)), (fi, aI G 2050 (fun _ => 0))]) hqfi rfl
  have hk := hk.tr (hm_kp.new (S := fun a => a ∈ [y]) (v := some (aI G 2050 (fun _ => 0))) hqfi) (fun _ h => h)
  generalize va_up M fi (some (aI G 2050 (fun _ => 0))) = M at hH hw hk ⊢
  refine hm_putF E (tB in_md) t_md tk_md nm_md hK hH (hw.at 0 rfl) rfl 9 (by decide) (tC wm_376) rfl hin rfl rfl rfl (Nat.le_of_ble_eq_true rfl) (fs' := [.int 0, .int 0, .ref d, .int 0, .ref be, .ref sg, .ref nu, .int 0, .int 0, .ref fi, .null, .null, .int 0, .int 0, .int 0, .null, .null, .int 0]) rfl d_md_init_44 (fun H locs hH => ?_)
  have hw := hw.set (ws' := [(y, .inr (4, [.int 0, .int 0, .ref d, .int 0, .ref be, .ref sg, .ref nu, .int 0, .int 0, .ref fi, .null, .null, .int 0, .int 0, .int 0, .null, .null, .int 0])), (d, aI G 200 (fun _ => 0)), (be, aI G 8194 (fun _ => 0)), (sg, aI G 40000 (fun _ => 0)), (nu, aI G 48200 (fun _ => 0)), (fi, aI G 2050 (fun _ => 0))]) (k := 0) rfl rfl
  have hk := hk.wr (a := y) (v := some (.inr (4, [.int 0, .int 0, .ref d, .int 0, .ref be, .ref sg, .ref nu, .int 0, .int 0, .ref fi, .null, .null, .int 0, .int 0, .int 0, .null, .null, .int 0]))) (by first | (right; assumption) | (left; simp; done))
  generalize va_up M y (some (.inr (4, [.int 0, .int 0, .ref d, .int 0, .ref be, .ref sg, .ref nu, .int 0, .int 0, .ref fi, .null, .null, .int 0, .int 0, .int 0, .null, .null, .int 0]))) = M at hH hw hk ⊢
  refine lv_aload_n hx hb d_md_init_47 rfl (lv_at hl 0 rfl) ?_
  refine lv_ldc (v := 40000) hx hb hown (hts _ (tC wm_365)) d_md_init_48 ?_
  refine hm_newaI E (tC wm_46) hK hH 0 rfl (n := 40000) (by decide) (by show _ ≤ 9; omega) (by show _ ≤ 140824; omega) d_md_init_50 (fun le H hqle hH => ?_)
  have hnle : M0 le = none := hk.nq hqle (fun a h => by simp at h; subst h; exact ⟨_, hw.at 0 rfl⟩)
  have hw := hw.push (ws' := [(y, .inr (4, [.int 0, .int 0, .ref d, .int 0, .ref be, .ref sg, .ref nu, .int 0, .int 0, .ref fi, .null, .null, .int 0, .int 0, .int 0, .null, .null, .int 0])), (d, aI G 200 (fun _ => 0)), (be, aI G 8194 (fun _ => 0)), (sg, aI G 40000 (fun _ => 0)), (nu, aI G 48200 (fun _ => 0)), (fi, aI G 2050 (fun _ => 0)), (le, aI G 40000 (fun _ => 0))]) hqle rfl
  have hk := hk.tr (hm_kp.new (S := fun a => a ∈ [y]) (v := some (aI G 40000 (fun _ => 0))) hqle) (fun _ h => h)
  generalize va_up M le (some (aI G 40000 (fun _ => 0))) = M at hH hw hk ⊢
  refine hm_putF E (tB in_md) t_md tk_md nm_md hK hH (hw.at 0 rfl) rfl 10 (by decide) (tC wm_377) rfl hin rfl rfl rfl (Nat.le_of_ble_eq_true rfl) (fs' := [.int 0, .int 0, .ref d, .int 0, .ref be, .ref sg, .ref nu, .int 0, .int 0, .ref fi, .ref le, .null, .int 0, .int 0, .int 0, .null, .null, .int 0]) rfl d_md_init_52 (fun H locs hH => ?_)
  have hw := hw.set (ws' := [(y, .inr (4, [.int 0, .int 0, .ref d, .int 0, .ref be, .ref sg, .ref nu, .int 0, .int 0, .ref fi, .ref le, .null, .int 0, .int 0, .int 0, .null, .null, .int 0])), (d, aI G 200 (fun _ => 0)), (be, aI G 8194 (fun _ => 0)), (sg, aI G 40000 (fun _ => 0)), (nu, aI G 48200 (fun _ => 0)), (fi, aI G 2050 (fun _ => 0)), (le, aI G 40000 (fun _ => 0))]) (k := 0) rfl rfl
  have hk := hk.wr (a := y) (v := some (.inr (4, [.int 0, .int 0, .ref d, .int 0, .ref be, .ref sg, .ref nu, .int 0, .int 0, .ref fi, .ref le, .null, .int 0, .int 0, .int 0, .null, .null, .int 0]))) (by first | (right; assumption) | (left; simp; done))
  generalize va_up M y (some (.inr (4, [.int 0, .int 0, .ref d, .int 0, .ref be, .ref sg, .ref nu, .int 0, .int 0, .ref fi, .ref le, .null, .int 0, .int 0, .int 0, .null, .null, .int 0]))) = M at hH hw hk ⊢
  refine lv_aload_n hx hb d_md_init_55 rfl (lv_at hl 0 rfl) ?_
  refine lv_sipush (v := 2048) hx hb d_md_init_56 (by decide) ?_
  refine hm_newaJ E (tC wm_422) hK hH 1 rfl (n := 2048) (by decide) (by show _ ≤ 9; omega) (by show _ ≤ 140824; omega) d_md_init_59 (fun pl H hqpl hH => ?_)
  have hnpl : M0 pl = none := hk.nq hqpl (fun a h => by simp at h; subst h; exact ⟨_, hw.at 0 rfl⟩)
  have hw := hw.push (ws' := [(y, .inr (4, [.int 0, .int 0, .ref d, .int 0, .ref be, .ref sg, .ref nu, .int 0, .int 0, .ref fi, .ref le, .null, .int 0, .int 0, .int 0, .null, .null, .int 0])), (d, aI G 200 (fun _ => 0)), (be, aI G 8194 (fun _ => 0)), (sg, aI G 40000 (fun _ => 0)), (nu, aI G 48200 (fun _ => 0)), (fi, aI G 2050 (fun _ => 0)), (le, aI G 40000 (fun _ => 0)), (pl, aJ G 2048 (fun _ => 0))]) hqpl rfl
  have hk := hk.tr (hm_kp.new (S := fun a => a ∈ [y]) (v := some (aJ G 2048 (fun _ => 0))) hqpl) (fun _ h => h)
  generalize va_up M pl (some (aJ G 2048 (fun _ => 0))) = M at hH hw hk ⊢
  refine hm_putF E (tB in_md) t_md tk_md nm_md hK hH (hw.at 0 rfl) rfl 11 (by decide) (tC wm_378) rfl hin rfl rfl rfl (Nat.le_of_ble_eq_true rfl) (fs' := [.int 0, .int 0, .ref d, .int 0, .ref be, .ref sg, .ref nu, .int 0, .int 0, .ref fi, .ref le, .ref pl, .int 0, .int 0, .int 0, .null, .null, .int 0]) rfl d_md_init_61 (fun H locs hH => ?_)
  have hw := hw.set (ws' := [(y, .inr (4, [.int 0, .int 0, .ref d, .int 0, .ref be, .ref sg, .ref nu, .int 0, .int 0, .ref fi, .ref le, .ref pl, .int 0, .int 0, .int 0, .null, .null, .int 0])), (d, aI G 200 (fun _ => 0)), (be, aI G 8194 (fun _ => 0)), (sg, aI G 40000 (fun _ => 0)), (nu, aI G 48200 (fun _ => 0)), (fi, aI G 2050 (fun _ => 0)), (le, aI G 40000 (fun _ => 0)), (pl, aJ G 2048 (fun _ => 0))]) (k := 0) rfl rfl
  have hk := hk.wr (a := y) (v := some (.inr (4, [.int 0, .int 0, .ref d, .int 0, .ref be, .ref sg, .ref nu, .int 0, .int 0, .ref fi, .ref le, .ref pl, .int 0, .int 0, .int 0, .null, .null, .int 0]))) (by first | (right; assumption) | (left; simp; done))
  generalize va_up M y (some (.inr (4, [.int 0, .int 0, .ref d, .int 0, .ref be, .ref sg, .ref nu, .int 0, .int 0, .ref fi, .ref le, .ref pl, .int 0, .int 0, .int 0, .null, .null, .int 0]))) = M at hH hw hk ⊢
  refine lv_aload_n hx hb d_md_init_64 rfl (lv_at hl 0 rfl) ?_
  refine lv_iconst (v := 2) hx hb d_md_init_65 (by decide) ?_
  refine hm_put E (tB in_md) t_md tk_md nm_md hK hH (hw.at 0 rfl) rfl 12 (by decide) (tC wm_379) rfl rfl rfl (Nat.le_of_ble_eq_true rfl) (fs' := [.int 0, .int 0, .ref d, .int 0, .ref be, .ref sg, .ref nu, .int 0, .int 0, .ref fi, .ref le, .ref pl, .int 2, .int 0, .int 0, .null, .null, .int 0]) rfl d_md_init_66 (fun H locs hH => ?_)
  have hw := hw.set (ws' := [(y, .inr (4, [.int 0, .int 0, .ref d, .int 0, .ref be, .ref sg, .ref nu, .int 0, .int 0, .ref fi, .ref le, .ref pl, .int 2, .int 0, .int 0, .null, .null, .int 0])), (d, aI G 200 (fun _ => 0)), (be, aI G 8194 (fun _ => 0)), (sg, aI G 40000 (fun _ => 0)), (nu, aI G 48200 (fun _ => 0)), (fi, aI G 2050 (fun _ => 0)), (le, aI G 40000 (fun _ => 0)), (pl, aJ G 2048 (fun _ => 0))]) (k := 0) rfl rfl
  have hk := hk.wr (a := y) (v := some (.inr (4, [.int 0, .int 0, .ref d, .int 0, .ref be, .ref sg, .ref nu, .int 0, .int 0, .ref fi, .ref le, .ref pl, .int 2, .int 0, .int 0, .null, .null, .int 0]))) (by first | (right; assumption) | (left; simp; done))
  generalize va_up M y (some (.inr (4, [.int 0, .int 0, .ref d, .int 0, .ref be, .ref sg, .ref nu, .int 0, .int 0, .ref fi, .ref le, .ref pl, .int 2, .int 0, .int 0, .null, .null, .int 0]))) = M at hH hw hk ⊢
  refine lv_aload_n hx hb d_md_init_69 rfl (lv_at hl 0 rfl) ?_
  refine lv_iconst (v := 3) hx hb d_md_init_70 (by decide) ?_
  refine hm_put E (tB in_md) t_md tk_md nm_md hK hH (hw.at 0 rfl) rfl 13 (by decide) (tC wm_380) rfl rfl rfl (Nat.le_of_ble_eq_true rfl) (fs' := [.int 0, .int 0, .ref d, .int 0, .ref be, .ref sg, .ref nu, .int 0, .int 0, .ref fi, .ref le, .ref pl, .int 2, .int 3, .int 0, .null, .null, .int 0]) rfl d_md_init_71 (fun H locs hH => ?_)
  have hw := hw.set (ws' := [(y, .inr (4, [.int 0, .int 0, .ref d, .int 0, .ref be, .ref sg, .ref nu, .int 0, .int 0, .ref fi, .ref le, .ref pl, .int 2, .int 3, .int 0, .null, .null, .int 0])), (d, aI G 200 (fun _ => 0)), (be, aI G 8194 (fun _ => 0)), (sg, aI G 40000 (fun _ => 0)), (nu, aI G 48200 (fun _ => 0)), (fi, aI G 2050 (fun _ => 0)), (le, aI G 40000 (fun _ => 0)), (pl, aJ G 2048 (fun _ => 0))]) (k := 0) rfl rfl
  have hk := hk.wr (a := y) (v := some (.inr (4, [.int 0, .int 0, .ref d, .int 0, .ref be, .ref sg, .ref nu, .int 0, .int 0, .ref fi, .ref le, .ref pl, .int 2, .int 3, .int 0, .null, .null, .int 0]))) (by first | (right; assumption) | (left; simp; done))
  generalize va_up M y (some (.inr (4, [.int 0, .int 0, .ref d, .int 0, .ref be, .ref sg, .ref nu, .int 0, .int 0, .ref fi, .ref le, .ref pl, .int 2, .int 3, .int 0, .null, .null, .int 0]))) = M at hH hw hk ⊢
  refine lv_aload_n hx hb d_md_init_74 rfl (lv_at hl 0 rfl) ?_
  refine lv_bipush (v := 66) hx hb d_md_init_75 (by decide) ?_
  refine hm_newaI E (tC wm_46) hK hH 0 rfl (n := 66) (by decide) (by show _ ≤ 9; omega) (by show _ ≤ 140824; omega) d_md_init_77 (fun rw H hqrw hH => ?_)
  have hnrw : M0 rw = none := hk.nq hqrw (fun a h => by simp at h; subst h; exact ⟨_, hw.at 0 rfl⟩)
  have hw := hw.push (ws' := [(y, .inr (4, [.int 0, .int 0, .ref d, .int 0, .ref be, .ref sg, .ref nu, .int 0, .int 0, .ref fi, .ref le, .ref pl, .int 2, .int 3, .int 0, .null, .null, .int 0])), (d, aI G 200 (fun _ => 0)), (be, aI G 8194 (fun _ => 0)), (sg, aI G 40000 (fun _ => 0)), (nu, aI G 48200 (fun _ => 0)), (fi, aI G 2050 (fun _ => 0)), (le, aI G 40000 (fun _ => 0)), (pl, aJ G 2048 (fun _ => 0)), (rw, aI G 66 (fun _ => 0))]) hqrw rfl
  have hk := hk.tr (hm_kp.new (S := fun a => a ∈ [y]) (v := some (aI G 66 (fun _ => 0))) hqrw) (fun _ h => h)
  generalize va_up M rw (some (aI G 66 (fun _ => 0))) = M at hH hw hk ⊢
  refine hm_putF E (tB in_md) t_md tk_md nm_md hK hH (hw.at 0 rfl) rfl 15 (by decide) (tC wm_382) rfl hin rfl rfl rfl (Nat.le_of_ble_eq_true rfl) (fs' := [.int 0, .int 0, .ref d, .int 0, .ref be, .ref sg, .ref nu, .int 0, .int 0, .ref fi, .ref le, .ref pl, .int 2, .int 3, .int 0, .ref rw, .null, .int 0]) rfl d_md_init_79 (fun H locs hH => ?_)
  have hw := hw.set (ws' := [(y, .inr (4, [.int 0, .int 0, .ref d, .int 0, .ref be, .ref sg, .ref nu, .int 0, .int 0, .ref fi, .ref le, .ref pl, .int 2, .int 3, .int 0, .ref rw, .null, .int 0])), (d, aI G 200 (fun _ => 0)), (be, aI G 8194 (fun _ => 0)), (sg, aI G 40000 (fun _ => 0)), (nu, aI G 48200 (fun _ => 0)), (fi, aI G 2050 (fun _ => 0)), (le, aI G 40000 (fun _ => 0)), (pl, aJ G 2048 (fun _ => 0)), (rw, aI G 66 (fun _ => 0))]) (k := 0) rfl rfl
  have hk := hk.wr (a := y) (v := some (.inr (4, [.int 0, .int 0, .ref d, .int 0, .ref be, .ref sg, .ref nu, .int 0, .int 0, .ref fi, .ref le, .ref pl, .int 2, .int 3, .int 0, .ref rw, .null, .int 0]))) (by first | (right; assumption) | (left; simp; done))
  generalize va_up M y (some (.inr (4, [.int 0, .int 0, .ref d, .int 0, .ref be, .ref sg, .ref nu, .int 0, .int 0, .ref fi, .ref le, .ref pl, .int 2, .int 3, .int 0, .ref rw, .null, .int 0]))) = M at hH hw hk ⊢
  refine lv_aload_n hx hb d_md_init_82 rfl (lv_at hl 0 rfl) ?_
  refine lv_bipush (v := 66) hx hb d_md_init_83 (by decide) ?_
  refine hm_newaI E (tC wm_46) hK hH 0 rfl (n := 66) (by decide) (by show _ ≤ 9; omega) (by show _ ≤ 140824; omega) d_md_init_85 (fun va H hqva hH => ?_)
  have hnva : M0 va = none := hk.nq hqva (fun a h => by simp at h; subst h; exact ⟨_, hw.at 0 rfl⟩)
  have hw := hw.push (ws' := [(y, .inr (4, [.int 0, .int 0, .ref d, .int 0, .ref be, .ref sg, .ref nu, .int 0, .int 0, .ref fi, .ref le, .ref pl, .int 2, .int 3, .int 0, .ref rw, .null, .int 0])), (d, aI G 200 (fun _ => 0)), (be, aI G 8194 (fun _ => 0)), (sg, aI G 40000 (fun _ => 0)), (nu, aI G 48200 (fun _ => 0)), (fi, aI G 2050 (fun _ => 0)), (le, aI G 40000 (fun _ => 0)), (pl, aJ G 2048 (fun _ => 0)), (rw, aI G 66 (fun _ => 0)), (va, aI G 66 (fun _ => 0))]) hqva rfl
  have hk := hk.tr (hm_kp.new (S := fun a => a ∈ [y]) (v := some (aI G 66 (fun _ => 0))) hqva) (fun _ h => h)
  generalize va_up M va (some (aI G 66 (fun _ => 0))) = M at hH hw hk ⊢
  refine hm_putF E (tB in_md) t_md tk_md nm_md hK hH (hw.at 0 rfl) rfl 16 (by decide) (tC wm_383) rfl hin rfl rfl rfl (Nat.le_of_ble_eq_true rfl) (fs' := [.int 0, .int 0, .ref d, .int 0, .ref be, .ref sg, .ref nu, .int 0, .int 0, .ref fi, .ref le, .ref pl, .int 2, .int 3, .int 0, .ref rw, .ref va, .int 0]) rfl d_md_init_87 (fun H locs hH => ?_)
  have hw := hw.set (ws' := [(y, .inr (4, [.int 0, .int 0, .ref d, .int 0, .ref be, .ref sg, .ref nu, .int 0, .int 0, .ref fi, .ref le, .ref pl, .int 2, .int 3, .int 0, .ref rw, .ref va, .int 0])), (d, aI G 200 (fun _ => 0)), (be, aI G 8194 (fun _ => 0)), (sg, aI G 40000 (fun _ => 0)), (nu, aI G 48200 (fun _ => 0)), (fi, aI G 2050 (fun _ => 0)), (le, aI G 40000 (fun _ => 0)), (pl, aJ G 2048 (fun _ => 0)), (rw, aI G 66 (fun _ => 0)), (va, aI G 66 (fun _ => 0))]) (k := 0) rfl rfl
  have hk := hk.wr (a := y) (v := some (.inr (4, [.int 0, .int 0, .ref d, .int 0, .ref be, .ref sg, .ref nu, .int 0, .int 0, .ref fi, .ref le, .ref pl, .int 2, .int 3, .int 0, .ref rw, .ref va, .int 0]))) (by first | (right; assumption) | (left; simp; done))
  generalize va_up M y (some (.inr (4, [.int 0, .int 0, .ref d, .int 0, .ref be, .ref sg, .ref nu, .int 0, .int 0, .ref fi, .ref le, .ref pl, .int 2, .int 3, .int 0, .ref rw, .ref va, .int 0]))) = M at hH hw hk ⊢
  exact hm_vret E hr hlk hH (⟨rfl, d, be, sg, nu, fi, le, pl, rw, va, ⟨hnd, hnbe, hnsg, hnnu, hnfi, hnle, hnpl, hnrw, hnva⟩, hw, hk⟩) (by omega) (by omega) d_md_init_90

abbrev q_lw_pattern (G : hG) (x : Nat) (K : Nat → Prop) (dr : Nat → Int32) (dn lf rt : Nat) (P : List rwT) (bg : Nat) (X : List rwT) (ak : Bool) (an : Nat) (av : Nat → Int32) (out : Nat) (fo : Nat → Int64) (M : hM) : Option Value → hM → Prop := fun rv M' => hm_kp (fun a => ¬ K a ∨ a = out) M M' ∧ ((∃ (f9 : Nat → Int32) (dp : Nat), rv = some (.int (nI 0)) ∧ pOk dr dn ∧ ag f9 (psg dr dn) (pz dr dn) ∧ (∀ r ∈ P, ¬ sm r (pz dr dn) f9) ∧ dpS P (pz dr dn) f9 dp ∧ M' out = some (aJ G 1 (vp_updL fo 0 (nI (P.length + 1)).toInt64)) ∧ bkR G K x dr 0 lf rt (P ++ [(pz dr dn, f9, pN dr dn)]) (bg + (pz dr dn - dp)) X ak an av M') ∨ (rv = some (.int (nI 1)) ∧ ¬ pOk dr dn ∧ M' out = some (aJ G 1 fo) ∧ bkR G K x dr 0 lf rt P bg X ak an av M') ∨ (rv = some (.int (nI 2)) ∧ pOk dr dn ∧ (∃ r ∈ P, sm r (pz dr dn) (psg dr dn)) ∧ M' out = some (aJ G 1 fo) ∧ bkR G K x dr 0 lf rt P bg X ak an av M'))
set_option maxHeartbeats 4000000 in
set_option maxRecDepth 100000 in
theorem c_lw_pattern (l : Launch) (hst : l.stackTraces = false) (G : hG) (x : Nat) (K : Nat → Prop) (dr : Nat → Int32) (dn lf rt : Nat) (P : List rwT) (bg : Nat) (X : List rwT) (ak : Bool) (an : Nat) (av : Nat → Int32) (out : Nat) (fo : Nat → Int64) (M : hM) (hR : bkR G K x dr dn lf rt P bg X ak an av M) (hKM : ∀ a, K a → ∃ e, M a = some e) (hdn : dn ≤ 200) (hPl : P.length ≤ 600) (hbg : bg ≤ 30000) (hXl : X.length ≤ 600) (ho : M out = some (aJ G 1 fo)) (hKo : K out) : CtY l G y_lw_pattern w_lw_pattern { frames := 7, cells := 66, slots := 326, locals := 108 } ([.ref x, .ref out] : List Value) M (q_lw_pattern G x K dr dn lf rt P bg X ak an av out fo M) 66 326 := by
  refine CtY.ofW (cc := b_lw_pattern) (maxL := 3) (ret := (Option.some Jvm.ClassFile.FieldType.int)) (hh := [((0 : Nat), (8 : Nat), (11 : Nat), (13 : Nat)), ((0 : Nat), (8 : Nat), (14 : Nat), (15 : Nat))]) (by decide) rfl (Nat.le_of_ble_eq_true rfl) (fun p e s m below meth c A ls E hr hlk hin hgy htab hZ hH hl => ?_)
  have hgx := hgy.1; have hg := hgx.1
  have hl : lv_has ls 3 [(0, .ref x), (1, .ref out)] := hl
  have hx := E.1; have hb := E.2.1; have hml := E.2.2.1; have hown := E.2.2.2.1; have hts := E.2.2.2.2; have hK := hg.1
  obtain ⟨M0, hM0⟩ : ∃ M0 : hM, M0 = M := ⟨M, rfl⟩
  rw [show q_lw_pattern G x K dr dn lf rt P bg X ak an av out fo M = q_lw_pattern G x K dr dn lf rt P bg X ak an av out fo M0 by rw [hM0]]
  have hk : hm_kp (fun a => ¬ K a ∨ a = out) M0 M := by rw [hM0]; exact hm_kp.rf
  obtain ⟨fsx, hxx⟩ := hR.at
  have hw : hm_has M [(out, aJ G 1 fo)] := ⟨by simp, by simp only [List.mem_singleton, forall_eq]; exact ho⟩
  refine lv_aload_n hx hb d_lw_pattern_0 rfl (lv_at hl 1 rfl) ?_
  refine lv_iconst (v := 0) hx hb d_lw_pattern_1 (by decide) ?_
  refine lv_aload_n hx hb d_lw_pattern_2 rfl (lv_at hl 0 rfl) ?_
  have hM1 := c_bk_pattern l hst G x K dr dn lf rt P bg X ak an av M hR hKM hdn hPl hbg hXl s.heap.size
  have hG1 : GoodIn w_lw_pattern (wsV "HyphenBookLaw" 7 R_bk y_bk_pattern w_bk_pattern) := gB_V wm_145 wm_146 wm_147 wm_1 wm_148
  refine hm_callX (vx_runV (y := y_bk_pattern) (bytes := b_bk_pattern) (maxL := 2) (ws := w_bk_pattern) (rm := { frames := 6, cells := 66, slots := 326, locals := 87 }) (own := "HyphenBookLaw") (index := 7) (ret := (Option.some Jvm.ClassFile.FieldType.int)) (C := R_bk) (As := []) (rest := [.int 0, .ref out]) E hM1 (cwV (y := y_bk_pattern) (bytes := b_bk_pattern) (maxL := 2) (ws := w_bk_pattern) (rm := { frames := 6, cells := 66, slots := 326, locals := 87 }) (own := "HyphenBookLaw") (index := 7) (ret := (Option.some Jvm.ClassFile.FieldType.int)) (C := R_bk) 0 hts hG1 rfl rfl rfl (by decide +kernel) ⟨Nat.le_of_ble_eq_true rfl, Nat.le_of_ble_eq_true rfl⟩) (hm_preXV hH hgx hZ hK hxx rfl []) rfl rfl hl.1 rfl (lv_room (Nat.le_of_ble_eq_true rfl)) d_lw_pattern_3 ⟨(by show _ ≤ 66; omega), (by show _ ≤ 326; omega)⟩) hH (fun E9 ce9 q9 M1 H1 locs1 hp1 hH1 hc9 hv9 hf9 => ?_) (fun r1 M1 H1 locs1 hq1 hH1 => ?_)
  · skip
    replace hH := hH1; clear hH1; generalize H1 = H at hH hc9 ⊢; generalize locs1 = locs at hH ⊢
    obtain ⟨hB, hk1, halt⟩ := hp1
    have hw : hm_has M1 [(out, aJ G 1 fo)] := ⟨by simp, by simp only [List.mem_singleton, forall_eq]; exact hk1 out _ (hw.at 0 rfl) (fun z => z hKo)⟩
    have hk := hk.tr hk1 (fun a h => Or.inl h)
    generalize M1 = M at hH hw hk hB
    rcases halt with ⟨rfl, hno⟩ | ⟨rfl, hok, hsm⟩
    · skip
      refine vx_catch (own := y_lw_pattern.cls) (name := IAE) hown [] ⟨0, 8, 11, 13⟩ [⟨0, 8, 14, 15⟩] (htab.trans rfl) (fun z hz => nomatch hz) (by decide) (by decide) (hts _ (tC wm_143)) (va_Nw.use rfl (hgx.2.1 _ (by simp [wXB]))) hc9 hv9 hf9 ?_
      refine W.eq (g2 := F0 m 11 ls [.ref q9]) rfl ?_
      refine lv_astore_n (lv' := [(2, .ref q9), (0, .ref x), (1, .ref out)]) hx hb d_lw_pattern_11 rfl hl (by decide) rfl (fun ls hl => ?_)
      refine lv_iconst (v := 1) hx hb d_lw_pattern_12 (by decide) ?_
      exact hm_iret E hr hlk hH (⟨hk, Or.inr (Or.inl ⟨rfl, hno, hw.at 0 rfl, hB⟩)⟩) (by omega) (by omega) d_lw_pattern_13
    · skip
      refine vx_catch (own := y_lw_pattern.cls) (name := ISE) hown [⟨0, 8, 11, 13⟩] ⟨0, 8, 14, 15⟩ [] (htab.trans rfl) (fun z hz => by rw [List.mem_singleton] at hz; subst hz; exact Or.inr ⟨by decide, IAE, hts _ (tC wm_143), hgy.2⟩) (by decide) (by decide) (hts _ (tC wm_144)) (va_Nw.use rfl (hgx.2.1 _ (by simp [wXB]))) hc9 hv9 hf9 ?_
      refine W.eq (g2 := F0 m 14 ls [.ref q9]) rfl ?_
      refine lv_astore_n (lv' := [(2, .ref q9), (0, .ref x), (1, .ref out)]) hx hb d_lw_pattern_14 rfl hl (by decide) rfl (fun ls hl => ?_)
      refine lv_iconst (v := 2) hx hb d_lw_pattern_15 (by decide) ?_
      exact hm_iret E hr hlk hH (⟨hk, Or.inr (Or.inr ⟨rfl, hok, hsm, hw.at 0 rfl, hB⟩)⟩) (by omega) (by omega) d_lw_pattern_16
  · skip
    replace hH := hH1; clear hH1; generalize H1 = H at hH ⊢; generalize locs1 = locs at hH ⊢
    obtain ⟨f9, dp, hok, hag, hns, hdp, rfl, hB, hk1⟩ := hq1
    have hw : hm_has M1 [(out, aJ G 1 fo)] := ⟨by simp, by simp only [List.mem_singleton, forall_eq]; exact hk1 out _ (hw.at 0 rfl) (fun z => z hKo)⟩
    have hk := hk.tr hk1 (fun a h => Or.inl h)
    generalize M1 = M at hH hw hk hB
    refine lv_i2l hx hb d_lw_pattern_6 rfl ?_
    refine hm_last E hK hH 1 (hw.at 0 rfl) rfl (i := 0) (by omega) (by decide) d_lw_pattern_7 (fun H locs hH => ?_)
    have hB := hB.kept (hm_kp.up (v := (some (aJ G 1 (vp_updL fo 0 ((nI (P.length + 1)).toInt64))))) hKo)
    have hw := hw.set (ws' := [(out, aJ G 1 (vp_updL fo 0 ((nI (P.length + 1)).toInt64)))]) (k := 0) rfl rfl
    have hk := hk.wr (a := out) (v := some (aJ G 1 (vp_updL fo 0 ((nI (P.length + 1)).toInt64)))) (Or.inl (Or.inr rfl))
    generalize va_up M out (some (aJ G 1 (vp_updL fo 0 ((nI (P.length + 1)).toInt64)))) = M at hH hw hk hB ⊢
    refine lv_goto (tgt := 17) hx hb d_lw_pattern_8 (by decide) ?_
    refine lv_iconst (v := 0) hx hb d_lw_pattern_17 (by decide) ?_
    exact hm_iret E hr hlk hH (⟨hk, Or.inl ⟨f9, dp, rfl, hok, hag, hns, hdp, hw.at 0 rfl, hB⟩⟩) (by omega) (by omega) d_lw_pattern_18

abbrev q_lw_exception (G : hG) (x : Nat) (K : Nat → Prop) (dr : Nat → Int32) (dn lf rt : Nat) (P : List rwT) (bg : Nat) (X : List rwT) (ak : Bool) (an : Nat) (av : Nat → Int32) (out : Nat) (fo : Nat → Int64) (M : hM) : Option Value → hM → Prop := fun rv M' => hm_kp (fun a => ¬ K a ∨ a = out) M M' ∧ ((∃ (f9 : Nat → Int32) (X9 : List rwT), rv = some (.int (nI 0)) ∧ xOk dr dn ∧ ag f9 (wrow (xsg dr dn) (xz dr dn)) (xz dr dn + 2) ∧ (((∀ r ∈ X, ¬ sm r (xz dr dn + 2) f9) ∧ X9 = X ++ [(xz dr dn + 2, f9, xnm dr dn)]) ∨ ∃ e8 r8, X[e8]? = some r8 ∧ sm r8 (xz dr dn + 2) f9 ∧ X9 = X.set e8 (xz dr dn + 2, f9, xnm dr dn)) ∧ M' out = some (aJ G 1 (vp_updL fo 0 (nI X9.length).toInt64)) ∧ bkR G K x dr 0 lf rt P bg X9 ak an av M') ∨ (rv = some (.int (nI 1)) ∧ ¬ xOk dr dn ∧ M' out = some (aJ G 1 fo) ∧ bkR G K x dr 0 lf rt P bg X ak an av M'))
set_option maxHeartbeats 4000000 in
set_option maxRecDepth 100000 in
theorem c_lw_exception (l : Launch) (hst : l.stackTraces = false) (G : hG) (x : Nat) (K : Nat → Prop) (dr : Nat → Int32) (dn lf rt : Nat) (P : List rwT) (bg : Nat) (X : List rwT) (ak : Bool) (an : Nat) (av : Nat → Int32) (out : Nat) (fo : Nat → Int64) (M : hM) (hR : bkR G K x dr dn lf rt P bg X ak an av M) (hKM : ∀ a, K a → ∃ e, M a = some e) (hdn : dn ≤ 200) (hPl : P.length ≤ 600) (hbg : bg ≤ 30000) (hXl : X.length ≤ 600) (ho : M out = some (aJ G 1 fo)) (hKo : K out) : CtY l G y_lw_exception w_lw_exception { frames := 7, cells := 66, slots := 326, locals := 103 } ([.ref x, .ref out] : List Value) M (q_lw_exception G x K dr dn lf rt P bg X ak an av out fo M) 66 326 := by
  refine CtY.ofW (cc := b_lw_exception) (maxL := 3) (ret := (Option.some Jvm.ClassFile.FieldType.int)) (hh := [((0 : Nat), (8 : Nat), (11 : Nat), (13 : Nat)), ((0 : Nat), (8 : Nat), (14 : Nat), (15 : Nat))]) (by decide) rfl (Nat.le_of_ble_eq_true rfl) (fun p e s m below meth c A ls E hr hlk hin hgy htab hZ hH hl => ?_)
  have hgx := hgy.1; have hg := hgx.1
  have hl : lv_has ls 3 [(0, .ref x), (1, .ref out)] := hl
  have hx := E.1; have hb := E.2.1; have hml := E.2.2.1; have hown := E.2.2.2.1; have hts := E.2.2.2.2; have hK := hg.1
  obtain ⟨M0, hM0⟩ : ∃ M0 : hM, M0 = M := ⟨M, rfl⟩
  rw [show q_lw_exception G x K dr dn lf rt P bg X ak an av out fo M = q_lw_exception G x K dr dn lf rt P bg X ak an av out fo M0 by rw [hM0]]
  have hk : hm_kp (fun a => ¬ K a ∨ a = out) M0 M := by rw [hM0]; exact hm_kp.rf
  obtain ⟨fsx, hxx⟩ := hR.at
  have hw : hm_has M [(out, aJ G 1 fo)] := ⟨by simp, by simp only [List.mem_singleton, forall_eq]; exact ho⟩
  refine lv_aload_n hx hb d_lw_exception_0 rfl (lv_at hl 1 rfl) ?_
  refine lv_iconst (v := 0) hx hb d_lw_exception_1 (by decide) ?_
  refine lv_aload_n hx hb d_lw_exception_2 rfl (lv_at hl 0 rfl) ?_
  have hM1 := c_bk_exception l hst G x K dr dn lf rt P bg X ak an av M hR hKM hdn hPl hbg hXl s.heap.size
  have hG1 : GoodIn w_lw_exception (wsV "HyphenBookLaw" 17 R_bk y_bk_exception w_bk_exception) := gB_V wm_311 wm_312 wm_313 wm_1 wm_314
  refine hm_callX (vx_runV (y := y_bk_exception) (bytes := b_bk_exception) (maxL := 2) (ws := w_bk_exception) (rm := { frames := 6, cells := 66, slots := 326, locals := 82 }) (own := "HyphenBookLaw") (index := 17) (ret := (Option.some Jvm.ClassFile.FieldType.int)) (C := R_bk) (As := []) (rest := [.int 0, .ref out]) E hM1 (cwV (y := y_bk_exception) (bytes := b_bk_exception) (maxL := 2) (ws := w_bk_exception) (rm := { frames := 6, cells := 66, slots := 326, locals := 82 }) (own := "HyphenBookLaw") (index := 17) (ret := (Option.some Jvm.ClassFile.FieldType.int)) (C := R_bk) 0 hts hG1 rfl rfl rfl (by decide +kernel) ⟨Nat.le_of_ble_eq_true rfl, Nat.le_of_ble_eq_true rfl⟩) (hm_preXV hH hgx hZ hK hxx rfl []) rfl rfl hl.1 rfl (lv_room (Nat.le_of_ble_eq_true rfl)) d_lw_exception_3 ⟨(by show _ ≤ 66; omega), (by show _ ≤ 326; omega)⟩) hH (fun E9 ce9 q9 M1 H1 locs1 hp1 hH1 hc9 hv9 hf9 => ?_) (fun r1 M1 H1 locs1 hq1 hH1 => ?_)
  · skip
    replace hH := hH1; clear hH1; generalize H1 = H at hH hc9 ⊢; generalize locs1 = locs at hH ⊢
    obtain ⟨hB, hk1, rfl, hno⟩ := hp1
    have hw : hm_has M1 [(out, aJ G 1 fo)] := ⟨by simp, by simp only [List.mem_singleton, forall_eq]; exact hk1 out _ (hw.at 0 rfl) (fun z => z hKo)⟩
    have hk := hk.tr hk1 (fun a h => Or.inl h)
    generalize M1 = M at hH hw hk hB
    refine vx_catch (own := y_lw_exception.cls) (name := IAE) hown [] ⟨0, 8, 11, 13⟩ [⟨0, 8, 14, 15⟩] (htab.trans rfl) (fun z hz => nomatch hz) (by decide) (by decide) (hts _ (tC wm_143)) (va_Nw.use rfl (hgx.2.1 _ (by simp [wXB]))) hc9 hv9 hf9 ?_
    refine W.eq (g2 := F0 m 11 ls [.ref q9]) rfl ?_
    refine lv_astore_n (lv' := [(2, .ref q9), (0, .ref x), (1, .ref out)]) hx hb d_lw_exception_11 rfl hl (by decide) rfl (fun ls hl => ?_)
    refine lv_iconst (v := 1) hx hb d_lw_exception_12 (by decide) ?_
    exact hm_iret E hr hlk hH (⟨hk, Or.inr ⟨rfl, hno, hw.at 0 rfl, hB⟩⟩) (by omega) (by omega) d_lw_exception_13
  · skip
    replace hH := hH1; clear hH1; generalize H1 = H at hH ⊢; generalize locs1 = locs at hH ⊢
    obtain ⟨f9, X9, hok, hag, hX9, rfl, hB, hk1⟩ := hq1
    have hw : hm_has M1 [(out, aJ G 1 fo)] := ⟨by simp, by simp only [List.mem_singleton, forall_eq]; exact hk1 out _ (hw.at 0 rfl) (fun z => z hKo)⟩
    have hk := hk.tr hk1 (fun a h => Or.inl h)
    generalize M1 = M at hH hw hk hB
    refine lv_i2l hx hb d_lw_exception_6 rfl ?_
    refine hm_last E hK hH 1 (hw.at 0 rfl) rfl (i := 0) (by omega) (by decide) d_lw_exception_7 (fun H locs hH => ?_)
    have hB := hB.kept (hm_kp.up (v := (some (aJ G 1 (vp_updL fo 0 ((nI X9.length).toInt64))))) hKo)
    have hw := hw.set (ws' := [(out, aJ G 1 (vp_updL fo 0 ((nI X9.length).toInt64)))]) (k := 0) rfl rfl
    have hk := hk.wr (a := out) (v := some (aJ G 1 (vp_updL fo 0 ((nI X9.length).toInt64)))) (Or.inl (Or.inr rfl))
    generalize va_up M out (some (aJ G 1 (vp_updL fo 0 ((nI X9.length).toInt64)))) = M at hH hw hk hB ⊢
    refine lv_goto (tgt := 17) hx hb d_lw_exception_8 (by decide) ?_
    refine lv_iconst (v := 0) hx hb d_lw_exception_17 (by decide) ?_
    exact hm_iret E hr hlk hH (⟨hk, Or.inl ⟨f9, X9, rfl, hok, hag, hX9, hw.at 0 rfl, hB⟩⟩) (by omega) (by omega) d_lw_exception_18

abbrev q_lw_word (G : hG) (x : Nat) (K : Nat → Prop) (dr : Nat → Int32) (dn lf rt : Nat) (P : List rwT) (bg : Nat) (X : List rwT) (ak : Bool) (an : Nat) (av : Nat → Int32) (out : Nat) (fo : Nat → Int64) (M : hM) : Option Value → hM → Prop := fun rv M' => hm_kp (fun a => ¬ K a ∨ a = out) M M' ∧ ((∃ (v9 w9 : Nat → Int32), rv = some (.int (nI 0)) ∧ wOk dr dn ∧ vMax (fun pl x => ∃ i, i < dn + 2 ∧ ctr P (wrow dr dn) (dn + 2) i (dn + 2) pl x) (dn + 2) v9 ∧ (((∀ r ∈ X, ¬ sm r (dn + 2) (wrow dr dn)) ∧ w9 = v9) ∨ ∃ r ∈ X, sm r (dn + 2) (wrow dr dn) ∧ g66 w9 r.2.2) ∧ M' out = some (aJ G 1 (vp_updL fo 0 (cutN (cutQ lf rt dn w9) 64))) ∧ bkR G K x dr 0 lf rt P bg X true dn v9 M') ∨ (rv = some (.int (nI 1)) ∧ ¬ wOk dr dn ∧ M' out = some (aJ G 1 fo) ∧ bkR G K x dr 0 lf rt P bg X ak an av M'))
set_option maxHeartbeats 4000000 in
set_option maxRecDepth 100000 in
theorem c_lw_word (l : Launch) (hst : l.stackTraces = false) (G : hG) (x : Nat) (K : Nat → Prop) (dr : Nat → Int32) (dn lf rt : Nat) (P : List rwT) (bg : Nat) (X : List rwT) (ak : Bool) (an : Nat) (av : Nat → Int32) (out : Nat) (fo : Nat → Int64) (M : hM) (hR : bkR G K x dr dn lf rt P bg X ak an av M) (hKM : ∀ a, K a → ∃ e, M a = some e) (hdn : dn ≤ 200) (hPl : P.length ≤ 600) (hbg : bg ≤ 30000) (hXl : X.length ≤ 600) (hlf : lf ≤ 63) (hrt : rt ≤ 63) (hr1 : 1 ≤ rt) (hU : unE P) (hnn : nnE P) (ho : M out = some (aJ G 1 fo)) (hKo : K out) : CtY l G y_lw_word w_lw_word { frames := 7, cells := 1, slots := 6, locals := 155 } ([.ref x, .ref out] : List Value) M (q_lw_word G x K dr dn lf rt P bg X ak an av out fo M) 1 6 := by
  refine CtY.ofW (cc := b_lw_word) (maxL := 3) (ret := (Option.some Jvm.ClassFile.FieldType.int)) (hh := [((0 : Nat), (7 : Nat), (10 : Nat), (13 : Nat))]) (by decide) rfl (Nat.le_of_ble_eq_true rfl) (fun p e s m below meth c A ls E hr hlk hin hgy htab hZ hH hl => ?_)
  have hgx := hgy.1; have hg := hgx.1
  have hl : lv_has ls 3 [(0, .ref x), (1, .ref out)] := hl
  have hx := E.1; have hb := E.2.1; have hml := E.2.2.1; have hown := E.2.2.2.1; have hts := E.2.2.2.2; have hK := hg.1
  obtain ⟨M0, hM0⟩ : ∃ M0 : hM, M0 = M := ⟨M, rfl⟩
  rw [show q_lw_word G x K dr dn lf rt P bg X ak an av out fo M = q_lw_word G x K dr dn lf rt P bg X ak an av out fo M0 by rw [hM0]]
  have hk : hm_kp (fun a => ¬ K a ∨ a = out) M0 M := by rw [hM0]; exact hm_kp.rf
  obtain ⟨fsx, hxx⟩ := hR.at
  have hw : hm_has M [(out, aJ G 1 fo)] := ⟨by simp, by simp only [List.mem_singleton, forall_eq]; exact ho⟩
  refine lv_aload_n hx hb d_lw_word_0 rfl (lv_at hl 1 rfl) ?_
  refine lv_iconst (v := 0) hx hb d_lw_word_1 (by decide) ?_
  refine lv_aload_n hx hb d_lw_word_2 rfl (lv_at hl 0 rfl) ?_
  have hM1 := c_bk_word l hst G x K dr dn lf rt P bg X ak an av M hR hKM hdn hPl hbg hXl hlf hrt hr1 hU hnn s.heap.size
  have hG1 : GoodIn w_lw_word (wsV "HyphenBookLaw" 20 R_bk y_bk_word w_bk_word) := gB_V wm_324 wm_325 wm_326 wm_1 wm_327
  refine hm_callX (vx_runV (y := y_bk_word) (bytes := b_bk_word) (maxL := 2) (ws := w_bk_word) (rm := { frames := 6, cells := 1, slots := 6, locals := 134 }) (own := "HyphenBookLaw") (index := 20) (ret := (Option.some Jvm.ClassFile.FieldType.long)) (C := R_bk) (As := []) (rest := [.int 0, .ref out]) E hM1 (cwV (y := y_bk_word) (bytes := b_bk_word) (maxL := 2) (ws := w_bk_word) (rm := { frames := 6, cells := 1, slots := 6, locals := 134 }) (own := "HyphenBookLaw") (index := 20) (ret := (Option.some Jvm.ClassFile.FieldType.long)) (C := R_bk) 0 hts hG1 rfl rfl rfl (by decide +kernel) ⟨Nat.le_of_ble_eq_true rfl, Nat.le_of_ble_eq_true rfl⟩) (hm_preXV hH hgx hZ hK hxx rfl []) rfl rfl hl.1 rfl (lv_room (Nat.le_of_ble_eq_true rfl)) d_lw_word_3 ⟨(by show _ ≤ 1; omega), (by show _ ≤ 6; omega)⟩) hH (fun E9 ce9 q9 M1 H1 locs1 hp1 hH1 hc9 hv9 hf9 => ?_) (fun r1 M1 H1 locs1 hq1 hH1 => ?_)
  · skip
    replace hH := hH1; clear hH1; generalize H1 = H at hH hc9 ⊢; generalize locs1 = locs at hH ⊢
    obtain ⟨hB, hk1, rfl, hno⟩ := hp1
    have hw : hm_has M1 [(out, aJ G 1 fo)] := ⟨by simp, by simp only [List.mem_singleton, forall_eq]; exact hk1 out _ (hw.at 0 rfl) (fun z => z hKo)⟩
    have hk := hk.tr hk1 (fun a h => Or.inl h)
    generalize M1 = M at hH hw hk hB
    refine vx_catch (own := y_lw_word.cls) (name := IAE) hown [] ⟨0, 7, 10, 13⟩ [] (htab.trans rfl) (fun z hz => nomatch hz) (by decide) (by decide) (hts _ (tC wm_143)) (va_Nw.use rfl (hgx.2.1 _ (by simp [wXB]))) hc9 hv9 hf9 ?_
    refine W.eq (g2 := F0 m 10 ls [.ref q9]) rfl ?_
    refine lv_astore_n (lv' := [(2, .ref q9), (0, .ref x), (1, .ref out)]) hx hb d_lw_word_10 rfl hl (by decide) rfl (fun ls hl => ?_)
    refine lv_iconst (v := 1) hx hb d_lw_word_11 (by decide) ?_
    exact hm_iret E hr hlk hH (⟨hk, Or.inr ⟨rfl, hno, hw.at 0 rfl, hB⟩⟩) (by omega) (by omega) d_lw_word_12
  · skip
    replace hH := hH1; clear hH1; generalize H1 = H at hH ⊢; generalize locs1 = locs at hH ⊢
    obtain ⟨v9, w9, hok, hv9, hw9, rfl, hB, hk1⟩ := hq1
    have hw : hm_has M1 [(out, aJ G 1 fo)] := ⟨by simp, by simp only [List.mem_singleton, forall_eq]; exact hk1 out _ (hw.at 0 rfl) (fun z => z hKo)⟩
    have hk := hk.tr hk1 (fun a h => Or.inl h)
    generalize M1 = M at hH hw hk hB
    refine hm_last E hK hH 1 (hw.at 0 rfl) rfl (i := 0) (by omega) (by decide) d_lw_word_6 (fun H locs hH => ?_)
    have hB := hB.kept (hm_kp.up (v := (some (aJ G 1 (vp_updL fo 0 (cutN (cutQ lf rt dn w9) 64))))) hKo)
    have hw := hw.set (ws' := [(out, aJ G 1 (vp_updL fo 0 (cutN (cutQ lf rt dn w9) 64)))]) (k := 0) rfl rfl
    have hk := hk.wr (a := out) (v := some (aJ G 1 (vp_updL fo 0 (cutN (cutQ lf rt dn w9) 64)))) (Or.inl (Or.inr rfl))
    generalize va_up M out (some (aJ G 1 (vp_updL fo 0 (cutN (cutQ lf rt dn w9) 64)))) = M at hH hw hk hB ⊢
    refine lv_goto (tgt := 13) hx hb d_lw_word_7 (by decide) ?_
    refine lv_iconst (v := 0) hx hb d_lw_word_13 (by decide) ?_
    exact hm_iret E hr hlk hH (⟨hk, Or.inl ⟨v9, w9, rfl, hok, hv9, hw9, hw.at 0 rfl, hB⟩⟩) (by omega) (by omega) d_lw_word_14
