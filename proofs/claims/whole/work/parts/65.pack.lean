/-! THE LAW'S STATE: the class and the model side by side -/
theorem has_keep {M M1 : hM} {ws : va_W} {S : Nat → Prop} (hw : hm_has M ws) (hk : hm_kp S M M1) (hS : ∀ a ∈ ws.map (fun q => q.1), ¬ S a) : hm_has M1 ws := hw.keptS hk (fun q hq => hS _ (List.mem_map_of_mem (f := fun q : Nat × va_E => q.1) hq))
theorem has_last {M M1 : hM} {ws ws' ws2 : va_W} {S : Nat → Prop} {q : Nat} {e e1 : va_E} (hw : hm_has M ws') (h1 : ws' = ws ++ [(q, e)]) (hk : hm_kp S M M1) (hS : ∀ a ∈ ws.map (fun q => q.1), S a → a = q) (hq : M1 q = some e1) (h2 : ws2 = ws ++ [(q, e1)]) : hm_has M1 ws2 := by
  subst h1 h2
  have hn := hw.1
  rw [List.map_append] at hn
  refine ⟨by rw [List.map_append]; exact hn, fun z hz => ?_⟩
  rcases List.mem_append.mp hz with hz | hz
  · refine hk _ _ (hw.2 z (List.mem_append_left _ hz)) (fun hs => ?_)
    have e9 := hS z.1 (List.mem_map_of_mem (f := fun q : Nat × va_E => q.1) hz) hs
    exact (List.nodup_append.mp hn).2.2 z.1 (List.mem_map_of_mem (f := fun q : Nat × va_E => q.1) hz) q (by simp) e9
  · rw [List.mem_singleton] at hz
    subst hz
    exact hq
theorem bkB.upd {G : hG} {K : Nat → Prop} {x : Nat} {dr : Nat → Int32} {dn lf rt : Nat} {P : List rwT} {bg : Nat} {X : List rwT} {ak : Bool} {an : Nat} {av : Nat → Int32} {dB pt xt rr ar pro xro xbg rsg rnm rsz asg anm : Nat} {rf rg af : Nat → Int32} {τp τx : tau} {M M1 : hM} {dr1 : Nat → Int32} {dn1 lf1 rt1 : Nat} (h : bkB G K dr dn lf rt P bg X ak an av x dB pt xt rr ar pro xro xbg rsg rnm rsz asg anm rf rg af τp τx M) (hk : hm_kp (fun a => a ∈ [x, dB]) M M1) (h1 : M1 x = some (cBk dB dn1 lf1 rt1 pt xt rr ar)) (h2 : M1 dB = some (aI G 200 dr1)) : bkR G K x dr1 dn1 lf1 rt1 P bg X ak an av M1 ∧ hm_kp (fun a => ¬ K a) M M1 := by
  obtain ⟨hw, hp, hx, s1, s2, hd, hn, hb⟩ := h
  have key : ∀ {root : Nat} {τ : tau} {E : List rwT}, bt G M root τ E → bt G M1 root τ E := fun ht => ht.keptL hk (fun b hb => by
    simp only [List.mem_cons, List.not_mem_nil, or_false] at hb
    rcases hb with rfl | rfl
    · exact ht.ok (hw.at 0 rfl) ne_bk
    · exact ht.ok (hw.at 1 rfl) ne_200)
  have hw1 : hm_has M1 [(x, cBk dB dn1 lf1 rt1 pt xt rr ar), (dB, aI G 200 dr1)] := ⟨by simpa using hw.ne 0 1 rfl rfl (by decide), by simp [h1, h2]⟩
  refine ⟨⟨dB, pt, xt, rr, ar, pro, xro, xbg, rsg, rnm, rsz, asg, anm, rf, rg, af, τp, τx, ?_, key hp, key hx, s1, s2, hd, hn, hb⟩, hk.mono (fun a ha => hn a ?_)⟩
  · exact hm_join (wc := [(x, cBk dB dn lf rt pt xt rr ar), (dB, aI G 200 dr)]) hw hw1 hk [0, 1] rfl rfl (fun _ h => h) rfl (by
      intro k9 h9
      match k9, h9 with
      | 0, _ => exact Or.inr ⟨0, rfl, rfl⟩
      | 1, _ => exact Or.inr ⟨1, rfl, rfl⟩
      | 2, _ => exact Or.inl ⟨by decide, rfl⟩
      | 3, _ => exact Or.inl ⟨by decide, rfl⟩
      | 4, _ => exact Or.inl ⟨by decide, rfl⟩
      | 5, _ => exact Or.inl ⟨by decide, rfl⟩
      | 6, _ => exact Or.inl ⟨by decide, rfl⟩
      | 7, _ => exact Or.inl ⟨by decide, rfl⟩
      | 8, _ => exact Or.inl ⟨by decide, rfl⟩
      | 9, _ => exact Or.inl ⟨by decide, rfl⟩
      | k9 + 10, h9 => exact absurd h9 (Nat.not_lt_of_le (Nat.le_add_left _ _)))
  · simp only [List.mem_cons, List.not_mem_nil, or_false] at ha ⊢
    rcases ha with rfl | rfl <;> simp
def putS (dr : Nat → Int32) (dn : Nat) (v : Int64) (n0 : Int32) (bo : Bool) (dr1 : Nat → Int32) (dn1 : Nat) : Prop := (∃ n : Nat, n0 = nI n ∧ 1 ≤ n ∧ n ≤ 8 ∧ dn + n ≤ 200 ∧ bo = true ∧ dn1 = dn + n ∧ dr1 = drF dr dn v n n) ∨ (¬ (1 ≤ n0.toInt ∧ n0.toInt ≤ 8 ∧ (dn : Int) + n0.toInt ≤ 200) ∧ bo = false ∧ dn1 = dn ∧ dr1 = dr)
theorem putS_un {dr dr1 dr2 : Nat → Int32} {dn dn1 dn2 : Nat} {v : Int64} {n0 : Int32} {b1 b2 : Bool} (h1 : putS dr dn v n0 b1 dr1 dn1) (h2 : putS dr dn v n0 b2 dr2 dn2) : b2 = b1 ∧ dr2 = dr1 ∧ dn2 = dn1 := by
  rcases h1 with ⟨n, e1, a1, a2, a3, rfl, rfl, rfl⟩ | ⟨hn, rfl, rfl, rfl⟩
  · rcases h2 with ⟨n2, e2, c1, c2, c3, rfl, rfl, rfl⟩ | ⟨hn, -⟩
    · have h := congrArg Int32.toInt (e1.symm.trans e2)
      rw [nI_toInt (by omega), nI_toInt (by omega)] at h
      obtain rfl : n = n2 := by omega
      exact ⟨rfl, rfl, rfl⟩
    · have h := congrArg Int32.toInt e1
      rw [nI_toInt (by omega)] at h
      exact absurd ⟨by omega, by omega, by omega⟩ hn
  · rcases h2 with ⟨n, e1, a1, a2, a3, -⟩ | ⟨-, rfl, rfl, rfl⟩
    · have h := congrArg Int32.toInt e1
      rw [nI_toInt (by omega)] at h
      exact absurd ⟨by omega, by omega, by omega⟩ hn
    · exact ⟨rfl, rfl, rfl⟩
def lsS (a1 a2 : Int32) (lf rt : Nat) (bo : Bool) (lf1 rt1 : Nat) : Prop := (∃ jl jr : Nat, a1 = nI jl ∧ a2 = nI jr ∧ 1 ≤ jl ∧ jl ≤ 63 ∧ 1 ≤ jr ∧ jr ≤ 63 ∧ bo = true ∧ lf1 = jl ∧ rt1 = jr) ∨ (¬ (1 ≤ a1.toInt ∧ a1.toInt ≤ 63 ∧ 1 ≤ a2.toInt ∧ a2.toInt ≤ 63) ∧ bo = false ∧ lf1 = lf ∧ rt1 = rt)
theorem lsS_un {a1 a2 : Int32} {lf rt lf1 rt1 lf2 rt2 : Nat} {b1 b2 : Bool} (h1 : lsS a1 a2 lf rt b1 lf1 rt1) (h2 : lsS a1 a2 lf rt b2 lf2 rt2) : b2 = b1 ∧ lf2 = lf1 ∧ rt2 = rt1 := by
  rcases h1 with ⟨jl, jr, e1, e2, c1, c2, c3, c4, rfl, rfl, rfl⟩ | ⟨hn, rfl, rfl, rfl⟩
  · rcases h2 with ⟨kl, kr, f1, f2, d1, d2, d3, d4, rfl, rfl, rfl⟩ | ⟨hn, -⟩
    · have h := congrArg Int32.toInt (e1.symm.trans f1)
      have h' := congrArg Int32.toInt (e2.symm.trans f2)
      rw [nI_toInt (by omega), nI_toInt (by omega)] at h h'
      exact ⟨rfl, by omega, by omega⟩
    · have h := congrArg Int32.toInt e1
      have h' := congrArg Int32.toInt e2
      rw [nI_toInt (by omega)] at h h'
      exact absurd ⟨by omega, by omega, by omega, by omega⟩ hn
  · rcases h2 with ⟨jl, jr, e1, e2, c1, c2, c3, c4, -⟩ | ⟨-, rfl, rfl, rfl⟩
    · have h := congrArg Int32.toInt e1
      have h' := congrArg Int32.toInt e2
      rw [nI_toInt (by omega)] at h h'
      exact absurd ⟨by omega, by omega, by omega, by omega⟩ hn
    · exact ⟨rfl, rfl, rfl⟩
theorem drF_by {dr : Nat → Int32} {dn n : Nat} {v : Int64} (h : ∀ k, isBy (dr k)) : ∀ c k, isBy (drF dr dn v n c k) := by
  intro c
  induction c with
  | zero => exact h
  | succ c ih =>
    intro k
    simp only [drF, upd]
    split
    · exact byt_by _ _
    · exact ih k
def hbI (T : Nat) (dr : Nat → Int32) (dn lf rt : Nat) (P X : List rwT) (ak : Bool) (an : Nat) : Prop := dn ≤ 200 ∧ (∀ k, isBy (dr k)) ∧ 1 ≤ lf ∧ lf ≤ 63 ∧ 1 ≤ rt ∧ rt ≤ 63 ∧ P.length ≤ T ∧ X.length ≤ T ∧ (∀ r ∈ P, 1 ≤ r.1 ∧ ∀ j, 0 ≤ r.2.2 j ∧ (r.2.2 j).toInt ≤ 9) ∧ unE P ∧ (∀ r ∈ X, xrow r) ∧ unX X ∧ (ak = true → an ≤ 63)
def mdV (T dn : Nat) (P X : List rwT) (bg : Nat) (ak : Bool) (an : Nat) (av : Nat → Int32) (ln : Nat) (fb fs fn ff fl fv : Nat → Int32) (fp : Nat → Int64) (o ox : Nat → Nat) : Prop := mdp P fb fs fn o ∧ mdx X ff fl fp ox ∧ ln ≤ 63 ∧ (ak = true → ln = an ∧ ∀ j, j ≤ an + 2 → fv j = av j) ∧ o P.length + dn ≤ 8 * T ∧ ox X.length + dn ≤ 8 * T ∧ bg ≤ o P.length
theorem hbI.same {T dn lf rt an : Nat} {dr : Nat → Int32} {P X : List rwT} {ak : Bool} (h : hbI T dr dn lf rt P X ak an) {dn2 : Nat} (hd : dn2 ≤ dn) : hbI (T + 1) dr dn2 lf rt P X ak an := by
  obtain ⟨a1, a2, a3, a4, a5, a6, a7, a8, a9⟩ := h
  exact ⟨by omega, a2, a3, a4, a5, a6, by omega, by omega, a9⟩
theorem mdV.same {T dn bg an ln : Nat} {P X : List rwT} {ak : Bool} {av fb fs fn ff fl fv : Nat → Int32} {fp : Nat → Int64} {o ox : Nat → Nat} (h : mdV T dn P X bg ak an av ln fb fs fn ff fl fv fp o ox) {dn2 : Nat} (hd : dn2 ≤ dn) : mdV (T + 1) dn2 P X bg ak an av ln fb fs fn ff fl fv fp o ox := by
  obtain ⟨a1, a2, a3, a4, a5, a6, a7⟩ := h
  exact ⟨a1, a2, a3, a4, by omega, by omega, a7⟩
theorem put_hb {T dn lf rt an bg ln : Nat} {dr : Nat → Int32} {P X : List rwT} {ak : Bool} {av fb fs fn ff fl fv : Nat → Int32} {fp : Nat → Int64} {o ox : Nat → Nat} {v : Int64} {n0 : Int32} {bo : Bool} {dr1 : Nat → Int32} {dn1 : Nat} (hS : putS dr dn v n0 bo dr1 dn1) (h : hbI T dr dn lf rt P X ak an) (hV : mdV T dn P X bg ak an av ln fb fs fn ff fl fv fp o ox) : hbI (T + 1) dr1 dn1 lf rt P X ak an ∧ mdV (T + 1) dn1 P X bg ak an av ln fb fs fn ff fl fv fp o ox := by
  rcases hS with ⟨n, e1, h1, h2, h3, rfl, rfl, rfl⟩ | ⟨hn, rfl, rfl, rfl⟩
  · obtain ⟨a1, a2, a3, a4, a5, a6, a7, a8, a9⟩ := h
    obtain ⟨b1, b2, b3, b4, b5, b6, b7⟩ := hV
    exact ⟨⟨h3, drF_by a2 n, a3, a4, a5, a6, by omega, by omega, a9⟩, b1, b2, b3, b4, by omega, by omega, b7⟩
  · exact ⟨h.same (Nat.le_refl _), hV.same (Nat.le_refl _)⟩
theorem ls_hb {T dn lf rt an lf1 rt1 : Nat} {dr : Nat → Int32} {P X : List rwT} {ak : Bool} {a1 a2 : Int32} {bo : Bool} (hS : lsS a1 a2 lf rt bo lf1 rt1) (h : hbI T dr dn lf rt P X ak an) : hbI (T + 1) dr dn lf1 rt1 P X ak an := by
  rcases hS with ⟨jl, jr, e1, e2, c1, c2, c3, c4, rfl, rfl, rfl⟩ | ⟨hn, rfl, rfl, rfl⟩
  · obtain ⟨a1, a2, a3, a4, a5, a6, a7, a8, a9⟩ := h
    exact ⟨a1, a2, c1, c2, c3, c4, by omega, by omega, a9⟩
  · exact h.same (Nat.le_refl _)
theorem lp_bk {G : hG} {K : Nat → Prop} {x : Nat} {dr : Nat → Int32} {dn lf rt : Nat} {P : List rwT} {bg : Nat} {X : List rwT} {ak : Bool} {an : Nat} {av : Nat → Int32} {dB pt xt rr ar pro xro xbg rsg rnm rsz asg anm : Nat} {rf rg af : Nat → Int32} {τp τx : tau} {M M1 : hM} {v : Int64} {n0 : Int32} {r1 : Option Value} (h : bkB G K dr dn lf rt P bg X ak an av x dB pt xt rr ar pro xro xbg rsg rnm rsz asg anm rf rg af τp τx M) (hq : q_bk_put G x dB dn lf rt pt xt rr ar dr v n0 M r1 M1) : ∃ (bo : Bool) (dr1 : Nat → Int32) (dn1 : Nat), r1 = some (.int (bI bo)) ∧ putS dr dn v n0 bo dr1 dn1 ∧ bkR G K x dr1 dn1 lf rt P bg X ak an av M1 ∧ hm_kp (fun a => ¬ K a) M M1 := by
  rcases hq with ⟨n, e0, h1, h2, h3, e1, hw, hk⟩ | ⟨hn, e1, e2⟩
  · exact ⟨true, _, _, e1, Or.inl ⟨n, e0, h1, h2, h3, rfl, rfl, rfl⟩, h.upd hk (hw.at 0 rfl) (hw.at 1 rfl)⟩
  · subst e2
    exact ⟨false, dr, dn, e1, Or.inr ⟨hn, rfl, rfl, rfl⟩, ⟨_, _, _, _, _, _, _, _, _, _, _, _, _, _, _, _, _, _, h⟩, hm_kp.rf⟩
theorem lt_bk {G : hG} {K : Nat → Prop} {x : Nat} {dr : Nat → Int32} {dn lf rt : Nat} {P : List rwT} {bg : Nat} {X : List rwT} {ak : Bool} {an : Nat} {av : Nat → Int32} {dB pt xt rr ar pro xro xbg rsg rnm rsz asg anm : Nat} {rf rg af : Nat → Int32} {τp τx : tau} {M M1 : hM} {a1 a2 : Int32} {r1 : Option Value} (h : bkB G K dr dn lf rt P bg X ak an av x dB pt xt rr ar pro xro xbg rsg rnm rsz asg anm rf rg af τp τx M) (hq : q_bk_least G x dB dn lf rt pt xt rr ar a1 a2 M r1 M1) : ∃ (bo : Bool) (lf1 rt1 : Nat), r1 = some (.int (bI bo)) ∧ lsS a1 a2 lf rt bo lf1 rt1 ∧ bkR G K x dr dn lf1 rt1 P bg X ak an av M1 ∧ hm_kp (fun a => ¬ K a) M M1 := by
  rcases hq with ⟨jl, jr, e1, e2, c1, c2, c3, c4, e0, hw, hk⟩ | ⟨hn, e1, e2⟩
  · refine ⟨true, jl, jr, e0, Or.inl ⟨jl, jr, e1, e2, c1, c2, c3, c4, rfl, rfl, rfl⟩, h.upd (hk.mono (fun a ha => ?_)) (hw.at 0 rfl) (hk dB _ (h.1.at 1 rfl) (by simpa using h.1.ne 1 0 rfl rfl (by decide)))⟩
    simp only [List.mem_cons, List.not_mem_nil, or_false] at ha ⊢
    exact Or.inl ha
  · subst e2
    exact ⟨false, lf, rt, e1, Or.inr ⟨hn, rfl, rfl, rfl⟩, ⟨_, _, _, _, _, _, _, _, _, _, _, _, _, _, _, _, _, _, h⟩, hm_kp.rf⟩
theorem lv_bk {G : hG} {x dB dn lf rt pt xt rr ar asg anm an : Nat} {ak : Bool} {av : Nat → Int32} {M M1 : hM} {k : Int32} {r1 : Option Value} (hq : q_bk_value G x dB dn lf rt pt xt rr ar asg anm (if ak then an + 2 else 0) av k M r1 M1) : r1 = some (.int (if ak = true ∧ 1 ≤ k.toInt ∧ k.toInt < (an : Int) then av (k.toInt.toNat + 1) else -1)) ∧ M1 = M := by
  obtain ⟨h, e2⟩ := hq
  refine ⟨?_, e2⟩
  cases ak with
  | true =>
    simp only [if_true] at h
    rcases h with ⟨h1, h2, h3⟩ | ⟨h1, h2⟩
    · rw [h3, if_pos ⟨rfl, h1, by omega⟩]
    · rw [h2, if_neg (fun z => h1 ⟨z.2.1, by omega⟩)]
  | false =>
    simp only [Bool.false_eq_true, if_false] at h
    rcases h with ⟨h1, h2, h3⟩ | ⟨h1, h2⟩
    · exact absurd h2 (by omega)
    · rw [h2, if_neg (fun z => absurd z.1 (by decide))]
theorem lp_md {G : hG} {T y th dn d be sg nu bg fi le pl lf rt ln rw va out an : Nat} {ak : Bool} {dr fb fs fn ff fl fr fv av : Nat → Int32} {fp fo : Nat → Int64} {o ox : Nat → Nat} {P X : List rwT} {M M1 : hM} {r1 : Option Value} {v : Int64} {n0 : Int32} (hw : hm_has M [(y, cMd th dn d P.length be sg nu bg X.length fi le pl lf rt ln rw va ak), (d, aI G 200 dr), (be, aI G 8194 fb), (sg, aI G 40000 fs), (nu, aI G 48200 fn), (fi, aI G 2050 ff), (le, aI G 40000 fl), (pl, aJ G 2048 fp), (rw, aI G 66 fr), (va, aI G 66 fv), (out, aJ G 1 fo)])  (hq : q_md_put G y th dn d P.length be sg nu bg X.length fi le pl lf rt ln rw va ak dr v n0 M r1 M1) : ∃ (bo : Bool) (dr1 : Nat → Int32) (dn1 : Nat), r1 = some (.int (bI bo)) ∧ putS dr dn v n0 bo dr1 dn1 ∧ hm_has M1 [(y, cMd 0 dn1 d P.length be sg nu bg X.length fi le pl lf rt ln rw va ak), (d, aI G 200 dr1), (be, aI G 8194 fb), (sg, aI G 40000 fs), (nu, aI G 48200 fn), (fi, aI G 2050 ff), (le, aI G 40000 fl), (pl, aJ G 2048 fp), (rw, aI G 66 fr), (va, aI G 66 fv), (out, aJ G 1 fo)] ∧ hm_kp (fun a => a ∈ [y, d, be, sg, nu, fi, le, pl, rw, va, out]) M M1 := by
  rcases hq with ⟨n, e0, h1, h2, h3, e1, hw1, hk1⟩ | ⟨hn, e1, hw1, hk1⟩
  · have hw9 : hm_has M1 [(y, cMd 0 (dn + n) d P.length be sg nu bg X.length fi le pl lf rt ln rw va ak), (d, aI G 200 (drF dr dn v n n)), (be, aI G 8194 fb), (sg, aI G 40000 fs), (nu, aI G 48200 fn), (fi, aI G 2050 ff), (le, aI G 40000 fl), (pl, aJ G 2048 fp), (rw, aI G 66 fr), (va, aI G 66 fv), (out, aJ G 1 fo)] := hm_join (wc := [(y, cMd th dn d P.length be sg nu bg X.length fi le pl lf rt ln rw va ak), (d, aI G 200 dr)]) hw hw1 hk1 [0, 1] rfl rfl (fun _ h => h) rfl (by
      intro k9 h9
      match k9, h9 with
      | 0, _ => exact Or.inr ⟨0, rfl, rfl⟩
      | 1, _ => exact Or.inr ⟨1, rfl, rfl⟩
      | 2, _ => exact Or.inl ⟨by decide, rfl⟩
      | 3, _ => exact Or.inl ⟨by decide, rfl⟩
      | 4, _ => exact Or.inl ⟨by decide, rfl⟩
      | 5, _ => exact Or.inl ⟨by decide, rfl⟩
      | 6, _ => exact Or.inl ⟨by decide, rfl⟩
      | 7, _ => exact Or.inl ⟨by decide, rfl⟩
      | 8, _ => exact Or.inl ⟨by decide, rfl⟩
      | 9, _ => exact Or.inl ⟨by decide, rfl⟩
      | 10, _ => exact Or.inl ⟨by decide, rfl⟩
      | k9 + 11, h9 => exact absurd h9 (Nat.not_lt_of_le (Nat.le_add_left _ _)))
    exact ⟨true, _, _, e1, Or.inl ⟨n, e0, h1, h2, h3, rfl, rfl, rfl⟩, hw9, hk1.mono (fun a ha => by simp only [List.mem_cons, List.not_mem_nil, or_false] at ha ⊢; rcases ha with rfl | rfl <;> simp)⟩
  · have hw9 : hm_has M1 [(y, cMd 0 dn d P.length be sg nu bg X.length fi le pl lf rt ln rw va ak), (d, aI G 200 dr), (be, aI G 8194 fb), (sg, aI G 40000 fs), (nu, aI G 48200 fn), (fi, aI G 2050 ff), (le, aI G 40000 fl), (pl, aJ G 2048 fp), (rw, aI G 66 fr), (va, aI G 66 fv), (out, aJ G 1 fo)] := hm_join (wc := [(y, cMd th dn d P.length be sg nu bg X.length fi le pl lf rt ln rw va ak), (d, aI G 200 dr)]) hw hw1 hk1 [0, 1] rfl rfl (fun _ h => h) rfl (by
      intro k9 h9
      match k9, h9 with
      | 0, _ => exact Or.inr ⟨0, rfl, rfl⟩
      | 1, _ => exact Or.inr ⟨1, rfl, rfl⟩
      | 2, _ => exact Or.inl ⟨by decide, rfl⟩
      | 3, _ => exact Or.inl ⟨by decide, rfl⟩
      | 4, _ => exact Or.inl ⟨by decide, rfl⟩
      | 5, _ => exact Or.inl ⟨by decide, rfl⟩
      | 6, _ => exact Or.inl ⟨by decide, rfl⟩
      | 7, _ => exact Or.inl ⟨by decide, rfl⟩
      | 8, _ => exact Or.inl ⟨by decide, rfl⟩
      | 9, _ => exact Or.inl ⟨by decide, rfl⟩
      | 10, _ => exact Or.inl ⟨by decide, rfl⟩
      | k9 + 11, h9 => exact absurd h9 (Nat.not_lt_of_le (Nat.le_add_left _ _)))
    exact ⟨false, dr, dn, e1, Or.inr ⟨hn, rfl, rfl, rfl⟩, hw9, hk1.mono (fun a ha => by simp only [List.mem_cons, List.not_mem_nil, or_false] at ha ⊢; rcases ha with rfl | rfl <;> simp)⟩
theorem lt_md {G : hG} {T y th dn d be sg nu bg fi le pl lf rt ln rw va out an : Nat} {ak : Bool} {dr fb fs fn ff fl fr fv av : Nat → Int32} {fp fo : Nat → Int64} {o ox : Nat → Nat} {P X : List rwT} {M M1 : hM} {r1 : Option Value} {a1 a2 : Int32} (hw : hm_has M [(y, cMd th dn d P.length be sg nu bg X.length fi le pl lf rt ln rw va ak), (d, aI G 200 dr), (be, aI G 8194 fb), (sg, aI G 40000 fs), (nu, aI G 48200 fn), (fi, aI G 2050 ff), (le, aI G 40000 fl), (pl, aJ G 2048 fp), (rw, aI G 66 fr), (va, aI G 66 fv), (out, aJ G 1 fo)])  (hq : q_md_least G y th dn d P.length be sg nu bg X.length fi le pl lf rt ln rw va ak a1 a2 M r1 M1) : ∃ (bo : Bool) (lf1 rt1 : Nat), r1 = some (.int (bI bo)) ∧ lsS a1 a2 lf rt bo lf1 rt1 ∧ hm_has M1 [(y, cMd 0 dn d P.length be sg nu bg X.length fi le pl lf1 rt1 ln rw va ak), (d, aI G 200 dr), (be, aI G 8194 fb), (sg, aI G 40000 fs), (nu, aI G 48200 fn), (fi, aI G 2050 ff), (le, aI G 40000 fl), (pl, aJ G 2048 fp), (rw, aI G 66 fr), (va, aI G 66 fv), (out, aJ G 1 fo)] ∧ hm_kp (fun a => a ∈ [y, d, be, sg, nu, fi, le, pl, rw, va, out]) M M1 := by
  rcases hq with ⟨jl, jr, e1, e2, c1, c2, c3, c4, e0, hw1, hk1⟩ | ⟨hn, e0, hw1, hk1⟩
  · have hw9 : hm_has M1 [(y, cMd 0 dn d P.length be sg nu bg X.length fi le pl jl jr ln rw va ak), (d, aI G 200 dr), (be, aI G 8194 fb), (sg, aI G 40000 fs), (nu, aI G 48200 fn), (fi, aI G 2050 ff), (le, aI G 40000 fl), (pl, aJ G 2048 fp), (rw, aI G 66 fr), (va, aI G 66 fv), (out, aJ G 1 fo)] := hm_join (wc := [(y, cMd th dn d P.length be sg nu bg X.length fi le pl lf rt ln rw va ak)]) hw hw1 hk1 [0] rfl rfl (fun _ h => h) rfl (by
      intro k9 h9
      match k9, h9 with
      | 0, _ => exact Or.inr ⟨0, rfl, rfl⟩
      | 1, _ => exact Or.inl ⟨by decide, rfl⟩
      | 2, _ => exact Or.inl ⟨by decide, rfl⟩
      | 3, _ => exact Or.inl ⟨by decide, rfl⟩
      | 4, _ => exact Or.inl ⟨by decide, rfl⟩
      | 5, _ => exact Or.inl ⟨by decide, rfl⟩
      | 6, _ => exact Or.inl ⟨by decide, rfl⟩
      | 7, _ => exact Or.inl ⟨by decide, rfl⟩
      | 8, _ => exact Or.inl ⟨by decide, rfl⟩
      | 9, _ => exact Or.inl ⟨by decide, rfl⟩
      | 10, _ => exact Or.inl ⟨by decide, rfl⟩
      | k9 + 11, h9 => exact absurd h9 (Nat.not_lt_of_le (Nat.le_add_left _ _)))
    exact ⟨true, jl, jr, e0, Or.inl ⟨jl, jr, e1, e2, c1, c2, c3, c4, rfl, rfl, rfl⟩, hw9, hk1.mono (fun a ha => by simp only [List.mem_cons, List.not_mem_nil, or_false] at ha ⊢; rcases ha with rfl <;> simp)⟩
  · have hw9 : hm_has M1 [(y, cMd 0 dn d P.length be sg nu bg X.length fi le pl lf rt ln rw va ak), (d, aI G 200 dr), (be, aI G 8194 fb), (sg, aI G 40000 fs), (nu, aI G 48200 fn), (fi, aI G 2050 ff), (le, aI G 40000 fl), (pl, aJ G 2048 fp), (rw, aI G 66 fr), (va, aI G 66 fv), (out, aJ G 1 fo)] := hm_join (wc := [(y, cMd th dn d P.length be sg nu bg X.length fi le pl lf rt ln rw va ak)]) hw hw1 hk1 [0] rfl rfl (fun _ h => h) rfl (by
      intro k9 h9
      match k9, h9 with
      | 0, _ => exact Or.inr ⟨0, rfl, rfl⟩
      | 1, _ => exact Or.inl ⟨by decide, rfl⟩
      | 2, _ => exact Or.inl ⟨by decide, rfl⟩
      | 3, _ => exact Or.inl ⟨by decide, rfl⟩
      | 4, _ => exact Or.inl ⟨by decide, rfl⟩
      | 5, _ => exact Or.inl ⟨by decide, rfl⟩
      | 6, _ => exact Or.inl ⟨by decide, rfl⟩
      | 7, _ => exact Or.inl ⟨by decide, rfl⟩
      | 8, _ => exact Or.inl ⟨by decide, rfl⟩
      | 9, _ => exact Or.inl ⟨by decide, rfl⟩
      | 10, _ => exact Or.inl ⟨by decide, rfl⟩
      | k9 + 11, h9 => exact absurd h9 (Nat.not_lt_of_le (Nat.le_add_left _ _)))
    exact ⟨false, lf, rt, e0, Or.inr ⟨hn, rfl, rfl, rfl⟩, hw9, hk1.mono (fun a ha => by simp only [List.mem_cons, List.not_mem_nil, or_false] at ha ⊢; rcases ha with rfl <;> simp)⟩
theorem lv_md {G : hG} {T y th dn d be sg nu bg fi le pl lf rt ln rw va out an : Nat} {ak : Bool} {dr fb fs fn ff fl fr fv av : Nat → Int32} {fp fo : Nat → Int64} {o ox : Nat → Nat} {P X : List rwT} {M M1 : hM} {r1 : Option Value} {k : Int32} (hw : hm_has M [(y, cMd th dn d P.length be sg nu bg X.length fi le pl lf rt ln rw va ak), (d, aI G 200 dr), (be, aI G 8194 fb), (sg, aI G 40000 fs), (nu, aI G 48200 fn), (fi, aI G 2050 ff), (le, aI G 40000 fl), (pl, aJ G 2048 fp), (rw, aI G 66 fr), (va, aI G 66 fv), (out, aJ G 1 fo)]) (hV : mdV T dn P X bg ak an av ln fb fs fn ff fl fv fp o ox) (hq : q_md_value G y th dn d P.length be sg nu bg X.length fi le pl lf rt ln rw va ak fv k M r1 M1) : r1 = some (.int (if ak = true ∧ 1 ≤ k.toInt ∧ k.toInt < (an : Int) then av (k.toInt.toNat + 1) else -1)) ∧ hm_has M1 [(y, cMd 0 dn d P.length be sg nu bg X.length fi le pl lf rt ln rw va ak), (d, aI G 200 dr), (be, aI G 8194 fb), (sg, aI G 40000 fs), (nu, aI G 48200 fn), (fi, aI G 2050 ff), (le, aI G 40000 fl), (pl, aJ G 2048 fp), (rw, aI G 66 fr), (va, aI G 66 fv), (out, aJ G 1 fo)] ∧ hm_kp (fun a => a ∈ [y, d, be, sg, nu, fi, le, pl, rw, va, out]) M M1 := by
  obtain ⟨h, hw1, hk1⟩ := hq
  have hw9 : hm_has M1 [(y, cMd 0 dn d P.length be sg nu bg X.length fi le pl lf rt ln rw va ak), (d, aI G 200 dr), (be, aI G 8194 fb), (sg, aI G 40000 fs), (nu, aI G 48200 fn), (fi, aI G 2050 ff), (le, aI G 40000 fl), (pl, aJ G 2048 fp), (rw, aI G 66 fr), (va, aI G 66 fv), (out, aJ G 1 fo)] := hm_join (wc := [(y, cMd th dn d P.length be sg nu bg X.length fi le pl lf rt ln rw va ak), (va, aI G 66 fv)]) hw hw1 hk1 [0, 9] rfl rfl (fun _ h => List.mem_cons.mpr (Or.inl (List.mem_singleton.mp h))) rfl (by
    intro k9 h9
    match k9, h9 with
    | 0, _ => exact Or.inr ⟨0, rfl, rfl⟩
    | 1, _ => exact Or.inl ⟨by decide, rfl⟩
    | 2, _ => exact Or.inl ⟨by decide, rfl⟩
    | 3, _ => exact Or.inl ⟨by decide, rfl⟩
    | 4, _ => exact Or.inl ⟨by decide, rfl⟩
    | 5, _ => exact Or.inl ⟨by decide, rfl⟩
    | 6, _ => exact Or.inl ⟨by decide, rfl⟩
    | 7, _ => exact Or.inl ⟨by decide, rfl⟩
    | 8, _ => exact Or.inl ⟨by decide, rfl⟩
    | 9, _ => exact Or.inr ⟨1, rfl, rfl⟩
    | 10, _ => exact Or.inl ⟨by decide, rfl⟩
    | k9 + 11, h9 => exact absurd h9 (Nat.not_lt_of_le (Nat.le_add_left _ _)))
  refine ⟨?_, hw9, hk1.mono (fun a ha => by simp only [List.mem_cons, List.not_mem_nil, or_false] at ha ⊢; rcases ha with rfl <;> simp)⟩
  obtain ⟨-, -, -, h4, -⟩ := hV
  rcases h with ⟨h1, h2, h3, h5⟩ | ⟨h1, h2⟩
  · obtain ⟨h6, h7⟩ := h4 h1
    rw [h5, if_pos ⟨h1, h2, by omega⟩, h7 _ (by omega)]
  · rw [h2, if_neg (fun z => h1 ⟨z.1, z.2.1, by rw [(h4 z.1).1]; exact z.2.2⟩)]
theorem lc_md {G : hG} {T y th dn d be sg nu bg fi le pl lf rt ln rw va out an : Nat} {ak : Bool} {dr fb fs fn ff fl fr fv av : Nat → Int32} {fp fo : Nat → Int64} {o ox : Nat → Nat} {P X : List rwT} {M M1 : hM} {r1 : Option Value} {k : Int32} (hw : hm_has M [(y, cMd th dn d P.length be sg nu bg X.length fi le pl lf rt ln rw va ak), (d, aI G 200 dr), (be, aI G 8194 fb), (sg, aI G 40000 fs), (nu, aI G 48200 fn), (fi, aI G 2050 ff), (le, aI G 40000 fl), (pl, aJ G 2048 fp), (rw, aI G 66 fr), (va, aI G 66 fv), (out, aJ G 1 fo)])  (hq : q_md_count G y th dn d P.length be sg nu bg X.length fi le pl lf rt ln rw va ak k M r1 M1) : r1 = some (.int (if k = 0 then nI P.length else if k = 1 then nI X.length else if k = 2 then nI bg else if k = 3 then nI dn else -1)) ∧ hm_has M1 [(y, cMd 0 dn d P.length be sg nu bg X.length fi le pl lf rt ln rw va ak), (d, aI G 200 dr), (be, aI G 8194 fb), (sg, aI G 40000 fs), (nu, aI G 48200 fn), (fi, aI G 2050 ff), (le, aI G 40000 fl), (pl, aJ G 2048 fp), (rw, aI G 66 fr), (va, aI G 66 fv), (out, aJ G 1 fo)] ∧ hm_kp (fun a => a ∈ [y, d, be, sg, nu, fi, le, pl, rw, va, out]) M M1 := by
  obtain ⟨h, hw1, hk1⟩ := hq
  have hw9 : hm_has M1 [(y, cMd 0 dn d P.length be sg nu bg X.length fi le pl lf rt ln rw va ak), (d, aI G 200 dr), (be, aI G 8194 fb), (sg, aI G 40000 fs), (nu, aI G 48200 fn), (fi, aI G 2050 ff), (le, aI G 40000 fl), (pl, aJ G 2048 fp), (rw, aI G 66 fr), (va, aI G 66 fv), (out, aJ G 1 fo)] := hm_join (wc := [(y, cMd th dn d P.length be sg nu bg X.length fi le pl lf rt ln rw va ak)]) hw hw1 hk1 [0] rfl rfl (fun _ h => h) rfl (by
    intro k9 h9
    match k9, h9 with
    | 0, _ => exact Or.inr ⟨0, rfl, rfl⟩
    | 1, _ => exact Or.inl ⟨by decide, rfl⟩
    | 2, _ => exact Or.inl ⟨by decide, rfl⟩
    | 3, _ => exact Or.inl ⟨by decide, rfl⟩
    | 4, _ => exact Or.inl ⟨by decide, rfl⟩
    | 5, _ => exact Or.inl ⟨by decide, rfl⟩
    | 6, _ => exact Or.inl ⟨by decide, rfl⟩
    | 7, _ => exact Or.inl ⟨by decide, rfl⟩
    | 8, _ => exact Or.inl ⟨by decide, rfl⟩
    | 9, _ => exact Or.inl ⟨by decide, rfl⟩
    | 10, _ => exact Or.inl ⟨by decide, rfl⟩
    | k9 + 11, h9 => exact absurd h9 (Nat.not_lt_of_le (Nat.le_add_left _ _)))
  refine ⟨?_, hw9, hk1.mono (fun a ha => by simp only [List.mem_cons, List.not_mem_nil, or_false] at ha ⊢; rcases ha with rfl <;> simp)⟩
  rw [h]
  have e0 : ∀ c : Int32, k = c ↔ k.toInt = c.toInt := fun c => i32_eq
  simp only [e0]
  rfl
