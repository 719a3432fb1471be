/-! PATTERN, EXCEPTION, WORD: the class's end and the model's end are the same -/
def patS (dr : Nat → Int32) (dn : Nat) (P : List rwT) (bg tc : Nat) (P1 : List rwT) (bg1 : Nat) (fo1 : Nat → Int64) : Prop :=
  (tc = 0 ∧ pOk dr dn ∧ ∃ (f9 : Nat → Int32) (dp : Nat), ag f9 (psg dr dn) (pz dr dn) ∧ (∀ r ∈ P, ¬ sm r (pz dr dn) f9) ∧ dpS P (pz dr dn) f9 dp ∧ P1 = P ++ [(pz dr dn, f9, pN dr dn)] ∧ bg1 = bg + (pz dr dn - dp) ∧ fo1 0 = (nI (P.length + 1)).toInt64) ∨ (tc = 1 ∧ ¬ pOk dr dn ∧ P = P1 ∧ bg = bg1) ∨ (tc = 2 ∧ pOk dr dn ∧ (∃ r ∈ P, sm r (pz dr dn) (psg dr dn)) ∧ P = P1 ∧ bg = bg1)
def excS (dr : Nat → Int32) (dn : Nat) (X : List rwT) (tc : Nat) (X1 : List rwT) (fo1 : Nat → Int64) : Prop :=
  (tc = 0 ∧ xOk dr dn ∧ ∃ f9 : Nat → Int32, ag f9 (wrow (xsg dr dn) (xz dr dn)) (xz dr dn + 2) ∧ (((∀ r ∈ X, ¬ sm r (xz dr dn + 2) f9) ∧ X1 = X ++ [(xz dr dn + 2, f9, xnm dr dn)]) ∨ ∃ e8 r8, X[e8]? = some r8 ∧ sm r8 (xz dr dn + 2) f9 ∧ X1 = X.set e8 (xz dr dn + 2, f9, xnm dr dn)) ∧ fo1 0 = (nI X1.length).toInt64) ∨ (tc = 1 ∧ ¬ xOk dr dn ∧ X = X1)
def wrdS (lf rt : Nat) (dr : Nat → Int32) (dn : Nat) (P X : List rwT) (ak : Bool) (an : Nat) (av : Nat → Int32) (tc : Nat) (ak1 : Bool) (an1 : Nat) (av1 : Nat → Int32) (fo1 : Nat → Int64) : Prop :=
  (tc = 0 ∧ wOk dr dn ∧ ak1 = true ∧ dn = an1 ∧ vMax (fun pl x => ∃ i, i < dn + 2 ∧ ctr P (wrow dr dn) (dn + 2) i (dn + 2) pl x) (dn + 2) av1 ∧ ∃ w9 : Nat → Int32, (((∀ r ∈ X, ¬ sm r (dn + 2) (wrow dr dn)) ∧ w9 = av1) ∨ ∃ r ∈ X, sm r (dn + 2) (wrow dr dn) ∧ g66 w9 r.2.2) ∧ fo1 0 = cutN (cutQ lf rt dn w9) 64) ∨ (tc = 1 ∧ ¬ wOk dr dn ∧ ak = ak1 ∧ an = an1 ∧ av = av1)
theorem lq_bk {G : hG} {x T y th dn d be sg nu bg fi le pl lf rt ln rw va out an : Nat} {ak : Bool} {dr fb fs fn ff fl fr fv av : Nat → Int32} {fp fo : Nat → Int64} {o ox : Nat → Nat} {P X : List rwT} {M M1 : hM} {r1 : Option Value} (hw : hm_has M [(y, cMd th dn d P.length be sg nu bg X.length fi le pl lf rt ln rw va ak), (d, aI G 200 dr), (be, aI G 8194 fb), (sg, aI G 40000 fs), (nu, aI G 48200 fn), (fi, aI G 2050 ff), (le, aI G 40000 fl), (pl, aJ G 2048 fp), (rw, aI G 66 fr), (va, aI G 66 fv), (out, aJ G 1 fo)]) (hq : q_lw_pattern G x (fun a => a ∈ [y, d, be, sg, nu, fi, le, pl, rw, va, out]) dr dn lf rt P bg X ak an av out fo M r1 M1) : ∃ (tc : Nat) (fo1 : Nat → Int64) (P1 : List rwT) (bg1 : Nat), r1 = some (.int (nI tc)) ∧ tc ≤ 2 ∧ patS dr dn P bg tc P1 bg1 fo1 ∧ bkR G (fun a => a ∈ [y, d, be, sg, nu, fi, le, pl, rw, va, out]) x dr 0 lf rt P1 bg1 X ak an av M1 ∧ hm_has M1 [(y, cMd th dn d P.length be sg nu bg X.length fi le pl lf rt ln rw va ak), (d, aI G 200 dr), (be, aI G 8194 fb), (sg, aI G 40000 fs), (nu, aI G 48200 fn), (fi, aI G 2050 ff), (le, aI G 40000 fl), (pl, aJ G 2048 fp), (rw, aI G 66 fr), (va, aI G 66 fv), (out, aJ G 1 fo1)] := by
  obtain ⟨hk, hq⟩ := hq
  have key : ∀ fo2 : Nat → Int64, M1 out = some (aJ G 1 fo2) → hm_has M1 [(y, cMd th dn d P.length be sg nu bg X.length fi le pl lf rt ln rw va ak), (d, aI G 200 dr), (be, aI G 8194 fb), (sg, aI G 40000 fs), (nu, aI G 48200 fn), (fi, aI G 2050 ff), (le, aI G 40000 fl), (pl, aJ G 2048 fp), (rw, aI G 66 fr), (va, aI G 66 fv), (out, aJ G 1 fo2)] := fun fo2 h => by
    refine has_last (ws := [(y, cMd th dn d P.length be sg nu bg X.length fi le pl lf rt ln rw va ak), (d, aI G 200 dr), (be, aI G 8194 fb), (sg, aI G 40000 fs), (nu, aI G 48200 fn), (fi, aI G 2050 ff), (le, aI G 40000 fl), (pl, aJ G 2048 fp), (rw, aI G 66 fr), (va, aI G 66 fv)]) hw rfl hk (fun a ha hs => ?_) h rfl
    rcases hs with hs | hs
    · exact absurd (List.mem_append_left [out] ha) hs
    · exact hs
  rcases hq with ⟨f9, dp, e1, h1, h2, h3, h4, h5, h6⟩ | ⟨e1, h1, h5, h6⟩ | ⟨e1, h1, h2, h5, h6⟩
  · exact ⟨0, _, _, _, e1, by omega, Or.inl ⟨rfl, h1, f9, dp, h2, h3, h4, rfl, rfl, by simp [vp_updL]⟩, h6, key _ h5⟩
  · exact ⟨1, _, _, _, e1, by omega, Or.inr (Or.inl ⟨rfl, h1, rfl, rfl⟩), h6, key _ h5⟩
  · exact ⟨2, _, _, _, e1, by omega, Or.inr (Or.inr ⟨rfl, h1, h2, rfl, rfl⟩), h6, key _ h5⟩
theorem lx_bk {G : hG} {x T y th dn d be sg nu bg fi le pl lf rt ln rw va out an : Nat} {ak : Bool} {dr fb fs fn ff fl fr fv av : Nat → Int32} {fp fo : Nat → Int64} {o ox : Nat → Nat} {P X : List rwT} {M M1 : hM} {r1 : Option Value} (hw : hm_has M [(y, cMd th dn d P.length be sg nu bg X.length fi le pl lf rt ln rw va ak), (d, aI G 200 dr), (be, aI G 8194 fb), (sg, aI G 40000 fs), (nu, aI G 48200 fn), (fi, aI G 2050 ff), (le, aI G 40000 fl), (pl, aJ G 2048 fp), (rw, aI G 66 fr), (va, aI G 66 fv), (out, aJ G 1 fo)]) (hq : q_lw_exception G x (fun a => a ∈ [y, d, be, sg, nu, fi, le, pl, rw, va, out]) dr dn lf rt P bg X ak an av out fo M r1 M1) : ∃ (tc : Nat) (fo1 : Nat → Int64) (X1 : List rwT), r1 = some (.int (nI tc)) ∧ tc ≤ 2 ∧ excS dr dn X tc X1 fo1 ∧ bkR G (fun a => a ∈ [y, d, be, sg, nu, fi, le, pl, rw, va, out]) x dr 0 lf rt P bg X1 ak an av M1 ∧ hm_has M1 [(y, cMd th dn d P.length be sg nu bg X.length fi le pl lf rt ln rw va ak), (d, aI G 200 dr), (be, aI G 8194 fb), (sg, aI G 40000 fs), (nu, aI G 48200 fn), (fi, aI G 2050 ff), (le, aI G 40000 fl), (pl, aJ G 2048 fp), (rw, aI G 66 fr), (va, aI G 66 fv), (out, aJ G 1 fo1)] := by
  obtain ⟨hk, hq⟩ := hq
  have key : ∀ fo2 : Nat → Int64, M1 out = some (aJ G 1 fo2) → hm_has M1 [(y, cMd th dn d P.length be sg nu bg X.length fi le pl lf rt ln rw va ak), (d, aI G 200 dr), (be, aI G 8194 fb), (sg, aI G 40000 fs), (nu, aI G 48200 fn), (fi, aI G 2050 ff), (le, aI G 40000 fl), (pl, aJ G 2048 fp), (rw, aI G 66 fr), (va, aI G 66 fv), (out, aJ G 1 fo2)] := fun fo2 h => by
    refine has_last (ws := [(y, cMd th dn d P.length be sg nu bg X.length fi le pl lf rt ln rw va ak), (d, aI G 200 dr), (be, aI G 8194 fb), (sg, aI G 40000 fs), (nu, aI G 48200 fn), (fi, aI G 2050 ff), (le, aI G 40000 fl), (pl, aJ G 2048 fp), (rw, aI G 66 fr), (va, aI G 66 fv)]) hw rfl hk (fun a ha hs => ?_) h rfl
    rcases hs with hs | hs
    · exact absurd (List.mem_append_left [out] ha) hs
    · exact hs
  rcases hq with ⟨f9, X9, e1, h1, h2, h3, h5, h6⟩ | ⟨e1, h1, h5, h6⟩
  · exact ⟨0, _, X9, e1, by omega, Or.inl ⟨rfl, h1, f9, h2, h3, by simp [vp_updL]⟩, h6, key _ h5⟩
  · exact ⟨1, _, _, e1, by omega, Or.inr ⟨rfl, h1, rfl⟩, h6, key _ h5⟩
theorem ly_bk {G : hG} {x T y th dn d be sg nu bg fi le pl lf rt ln rw va out an : Nat} {ak : Bool} {dr fb fs fn ff fl fr fv av : Nat → Int32} {fp fo : Nat → Int64} {o ox : Nat → Nat} {P X : List rwT} {M M1 : hM} {r1 : Option Value} (hw : hm_has M [(y, cMd th dn d P.length be sg nu bg X.length fi le pl lf rt ln rw va ak), (d, aI G 200 dr), (be, aI G 8194 fb), (sg, aI G 40000 fs), (nu, aI G 48200 fn), (fi, aI G 2050 ff), (le, aI G 40000 fl), (pl, aJ G 2048 fp), (rw, aI G 66 fr), (va, aI G 66 fv), (out, aJ G 1 fo)]) (hq : q_lw_word G x (fun a => a ∈ [y, d, be, sg, nu, fi, le, pl, rw, va, out]) dr dn lf rt P bg X ak an av out fo M r1 M1) : ∃ (tc : Nat) (fo1 : Nat → Int64) (ak1 : Bool) (an1 : Nat) (av1 : Nat → Int32), r1 = some (.int (nI tc)) ∧ tc ≤ 2 ∧ wrdS lf rt dr dn P X ak an av tc ak1 an1 av1 fo1 ∧ bkR G (fun a => a ∈ [y, d, be, sg, nu, fi, le, pl, rw, va, out]) x dr 0 lf rt P bg X ak1 an1 av1 M1 ∧ hm_has M1 [(y, cMd th dn d P.length be sg nu bg X.length fi le pl lf rt ln rw va ak), (d, aI G 200 dr), (be, aI G 8194 fb), (sg, aI G 40000 fs), (nu, aI G 48200 fn), (fi, aI G 2050 ff), (le, aI G 40000 fl), (pl, aJ G 2048 fp), (rw, aI G 66 fr), (va, aI G 66 fv), (out, aJ G 1 fo1)] := by
  obtain ⟨hk, hq⟩ := hq
  have key : ∀ fo2 : Nat → Int64, M1 out = some (aJ G 1 fo2) → hm_has M1 [(y, cMd th dn d P.length be sg nu bg X.length fi le pl lf rt ln rw va ak), (d, aI G 200 dr), (be, aI G 8194 fb), (sg, aI G 40000 fs), (nu, aI G 48200 fn), (fi, aI G 2050 ff), (le, aI G 40000 fl), (pl, aJ G 2048 fp), (rw, aI G 66 fr), (va, aI G 66 fv), (out, aJ G 1 fo2)] := fun fo2 h => by
    refine has_last (ws := [(y, cMd th dn d P.length be sg nu bg X.length fi le pl lf rt ln rw va ak), (d, aI G 200 dr), (be, aI G 8194 fb), (sg, aI G 40000 fs), (nu, aI G 48200 fn), (fi, aI G 2050 ff), (le, aI G 40000 fl), (pl, aJ G 2048 fp), (rw, aI G 66 fr), (va, aI G 66 fv)]) hw rfl hk (fun a ha hs => ?_) h rfl
    rcases hs with hs | hs
    · exact absurd (List.mem_append_left [out] ha) hs
    · exact hs
  rcases hq with ⟨v9, w9, e1, h1, h2, h3, h5, h6⟩ | ⟨e1, h1, h5, h6⟩
  · exact ⟨0, _, _, _, _, e1, by omega, Or.inl ⟨rfl, h1, rfl, rfl, h2, w9, h3, by simp [vp_updL]⟩, h6, key _ h5⟩
  · exact ⟨1, _, _, _, _, e1, by omega, Or.inr ⟨rfl, h1, rfl, rfl, rfl⟩, h6, key _ h5⟩
theorem lq_md {G : hG} {T y th dn d be sg nu bg fi le pl lf rt ln rw va out an : Nat} {ak : Bool} {dr fb fs fn ff fl fr fv av : Nat → Int32} {fp fo : Nat → Int64} {o ox : Nat → Nat} {P X : List rwT} {M M1 : hM} {r1 : Option Value} {tc bg1 : Nat} {P1 : List rwT} {fo1 : Nat → Int64} (hI : hbI T dr dn lf rt P X ak an) (hV : mdV T dn P X bg ak an av ln fb fs fn ff fl fv fp o ox) (hw : hm_has M [(y, cMd th dn d P.length be sg nu bg X.length fi le pl lf rt ln rw va ak), (d, aI G 200 dr), (be, aI G 8194 fb), (sg, aI G 40000 fs), (nu, aI G 48200 fn), (fi, aI G 2050 ff), (le, aI G 40000 fl), (pl, aJ G 2048 fp), (rw, aI G 66 fr), (va, aI G 66 fv), (out, aJ G 1 fo)]) (hS : patS dr dn P bg tc P1 bg1 fo1) (hq : q_md_pattern G y th dn d P.length be sg nu bg X.length fi le pl lf rt ln rw va ak dr fb fs fn o M r1 M1) : ∃ (rn : Nat) (fb1 fs1 fn1 : Nat → Int32) (o1 : Nat → Nat), r1 = some (.int (nI rn)) ∧ (tc = 0 → fo1 0 = (nI rn).toInt64) ∧ hm_has M1 [(y, cMd tc 0 d P1.length be sg nu bg1 X.length fi le pl lf rt ln rw va ak), (d, aI G 200 dr), (be, aI G 8194 fb1), (sg, aI G 40000 fs1), (nu, aI G 48200 fn1), (fi, aI G 2050 ff), (le, aI G 40000 fl), (pl, aJ G 2048 fp), (rw, aI G 66 fr), (va, aI G 66 fv), (out, aJ G 1 fo)] ∧ hm_kp (fun a => a ∈ [y, d, be, sg, nu, fi, le, pl, rw, va, out]) M M1 ∧ hbI (T + 1) dr 0 lf rt P1 X ak an ∧ mdV (T + 1) 0 P1 X bg1 ak an av ln fb1 fs1 fn1 ff fl fv fp o1 ox := by
  obtain ⟨f9, g9, hf, hg, hpn, hk1, hc⟩ := hq
  obtain ⟨v1, v2, v3, v4, v5, v6, v7⟩ := id hV
  have hV9 : mdV (T + 1) 0 P X bg ak an av ln fb f9 g9 ff fl fv fp o ox := ⟨v1.above hf hg, v2, v3, v4, by omega, by omega, v7⟩
  have hkk : hm_kp (fun a => a ∈ [y, d, be, sg, nu, fi, le, pl, rw, va, out]) M M1 := hk1.mono (fun a ha => by simp only [List.mem_cons, List.not_mem_nil, or_false] at ha ⊢; rcases ha with rfl | rfl | rfl | rfl <;> simp)
  have hI0 : hbI (T + 1) dr 0 lf rt P X ak an := hI.same (Nat.zero_le _)
  have same : pOk dr dn → ((∃ q, q < P.length ∧ (cmP o f9 (o P.length) (pz dr dn) q (pz dr dn) ∧ o (q + 1) = o q + pz dr dn)) ↔ ∃ r ∈ P, sm r (pz dr dn) (psg dr dn)) := fun hp => pt_same (d := dr) (hV9.1) (hpn hp).1
  rcases hc with ⟨hp, e1, hw1⟩ | ⟨hp, hex, e1, hw1⟩ | ⟨mo, hp, hnex, hmx, hmo, e1, hw1⟩
  · rcases hS with ⟨-, h, -⟩ | ⟨rfl, -, rfl, rfl⟩ | ⟨-, h, -⟩
    · exact absurd h hp
    · have hw9 : hm_has M1 [(y, cMd 1 0 d P.length be sg nu bg X.length fi le pl lf rt ln rw va ak), (d, aI G 200 dr), (be, aI G 8194 fb), (sg, aI G 40000 f9), (nu, aI G 48200 g9), (fi, aI G 2050 ff), (le, aI G 40000 fl), (pl, aJ G 2048 fp), (rw, aI G 66 fr), (va, aI G 66 fv), (out, aJ G 1 fo)] := hm_join (wc := [(y, cMd th dn d P.length be sg nu bg X.length fi le pl lf rt ln rw va ak), (d, aI G 200 dr), (be, aI G 8194 fb), (sg, aI G 40000 fs), (nu, aI G 48200 fn)]) hw hw1 hk1 [0, 1, 2, 3, 4] rfl rfl (fun _ h => by simp only [List.mem_cons, List.not_mem_nil, or_false, List.map_cons, List.map_nil] at h ⊢; rcases h with rfl | rfl | rfl | rfl <;> simp) rfl (by
        intro k9 h9
        match k9, h9 with
        | 0, _ => exact Or.inr ⟨0, rfl, rfl⟩
        | 1, _ => exact Or.inr ⟨1, rfl, rfl⟩
        | 2, _ => exact Or.inr ⟨2, rfl, rfl⟩
        | 3, _ => exact Or.inr ⟨3, rfl, rfl⟩
        | 4, _ => exact Or.inr ⟨4, rfl, rfl⟩
        | 5, _ => exact Or.inl ⟨by decide, rfl⟩
        | 6, _ => exact Or.inl ⟨by decide, rfl⟩
        | 7, _ => exact Or.inl ⟨by decide, rfl⟩
        | 8, _ => exact Or.inl ⟨by decide, rfl⟩
        | 9, _ => exact Or.inl ⟨by decide, rfl⟩
        | 10, _ => exact Or.inl ⟨by decide, rfl⟩
        | k9 + 11, h9 => exact absurd h9 (Nat.not_lt_of_le (Nat.le_add_left _ _)))
      exact ⟨_, _, _, _, o, e1, fun z => (by cases z), hw9, hkk, hI0, hV9⟩
    · exact absurd h hp
  · rcases hS with ⟨-, -, f0, dp, h1, h2, -⟩ | ⟨-, h, -⟩ | ⟨rfl, -, -, rfl, rfl⟩
    · obtain ⟨r, hr, hs⟩ := (same hp).mp hex
      exact absurd (sm_ag hs h1.sm) (h2 r hr)
    · exact absurd hp h
    · have hw9 : hm_has M1 [(y, cMd 2 0 d P.length be sg nu bg X.length fi le pl lf rt ln rw va ak), (d, aI G 200 dr), (be, aI G 8194 fb), (sg, aI G 40000 f9), (nu, aI G 48200 g9), (fi, aI G 2050 ff), (le, aI G 40000 fl), (pl, aJ G 2048 fp), (rw, aI G 66 fr), (va, aI G 66 fv), (out, aJ G 1 fo)] := hm_join (wc := [(y, cMd th dn d P.length be sg nu bg X.length fi le pl lf rt ln rw va ak), (d, aI G 200 dr), (be, aI G 8194 fb), (sg, aI G 40000 fs), (nu, aI G 48200 fn)]) hw hw1 hk1 [0, 1, 2, 3, 4] rfl rfl (fun _ h => by simp only [List.mem_cons, List.not_mem_nil, or_false, List.map_cons, List.map_nil] at h ⊢; rcases h with rfl | rfl | rfl | rfl <;> simp) rfl (by
        intro k9 h9
        match k9, h9 with
        | 0, _ => exact Or.inr ⟨0, rfl, rfl⟩
        | 1, _ => exact Or.inr ⟨1, rfl, rfl⟩
        | 2, _ => exact Or.inr ⟨2, rfl, rfl⟩
        | 3, _ => exact Or.inr ⟨3, rfl, rfl⟩
        | 4, _ => exact Or.inr ⟨4, rfl, rfl⟩
        | 5, _ => exact Or.inl ⟨by decide, rfl⟩
        | 6, _ => exact Or.inl ⟨by decide, rfl⟩
        | 7, _ => exact Or.inl ⟨by decide, rfl⟩
        | 8, _ => exact Or.inl ⟨by decide, rfl⟩
        | 9, _ => exact Or.inl ⟨by decide, rfl⟩
        | 10, _ => exact Or.inl ⟨by decide, rfl⟩
        | k9 + 11, h9 => exact absurd h9 (Nat.not_lt_of_le (Nat.le_add_left _ _)))
      exact ⟨_, _, _, _, o, e1, fun z => (by cases z), hw9, hkk, hI0, hV9⟩
  · rcases hS with ⟨rfl, -, f0, dp, h1, h2, h3, rfl, rfl, h4⟩ | ⟨-, h, -⟩ | ⟨-, -, h, -⟩
    · have hd := dpS_ag (pt_dp hV9.1 (hpn hp).1 hmx hmo) h1.sm
      obtain rfl := dpS_un h3 hd
      have hl : (P ++ [(pz dr dn, f0, pN dr dn)]).length = P.length + 1 := by simp
      have hz := pz_le dr dn
      have h5 := (pOk_len hp).1
      obtain ⟨a1, a2, a3, a4, a5, a6, a7, a8, a9, a10, a11⟩ := hI
      have hw9 : hm_has M1 [(y, cMd 0 0 d (P.length + 1) be sg nu (bg + (pz dr dn - dp)) X.length fi le pl lf rt ln rw va ak), (d, aI G 200 dr), (be, aI G 8194 (upd fb (P.length + 1) (nI (o P.length + pz dr dn)))), (sg, aI G 40000 f9), (nu, aI G 48200 g9), (fi, aI G 2050 ff), (le, aI G 40000 fl), (pl, aJ G 2048 fp), (rw, aI G 66 fr), (va, aI G 66 fv), (out, aJ G 1 fo)] := hm_join (wc := [(y, cMd th dn d P.length be sg nu bg X.length fi le pl lf rt ln rw va ak), (d, aI G 200 dr), (be, aI G 8194 fb), (sg, aI G 40000 fs), (nu, aI G 48200 fn)]) hw hw1 hk1 [0, 1, 2, 3, 4] rfl rfl (fun _ h => by simp only [List.mem_cons, List.not_mem_nil, or_false, List.map_cons, List.map_nil] at h ⊢; rcases h with rfl | rfl | rfl | rfl <;> simp) rfl (by
        intro k9 h9
        match k9, h9 with
        | 0, _ => exact Or.inr ⟨0, rfl, rfl⟩
        | 1, _ => exact Or.inr ⟨1, rfl, rfl⟩
        | 2, _ => exact Or.inr ⟨2, rfl, rfl⟩
        | 3, _ => exact Or.inr ⟨3, rfl, rfl⟩
        | 4, _ => exact Or.inr ⟨4, rfl, rfl⟩
        | 5, _ => exact Or.inl ⟨by decide, rfl⟩
        | 6, _ => exact Or.inl ⟨by decide, rfl⟩
        | 7, _ => exact Or.inl ⟨by decide, rfl⟩
        | 8, _ => exact Or.inl ⟨by decide, rfl⟩
        | 9, _ => exact Or.inl ⟨by decide, rfl⟩
        | 10, _ => exact Or.inl ⟨by decide, rfl⟩
        | k9 + 11, h9 => exact absurd h9 (Nat.not_lt_of_le (Nat.le_add_left _ _)))
      rw [hl]
      refine ⟨_, _, _, _, (fun k => if k ≤ P.length then o k else o P.length + pz dr dn), e1, fun _ => h4, hw9, hkk, ⟨Nat.zero_le _, a2, a3, a4, a5, a6, by omega, by omega, fun r hr => ?_, a10.app h2, a11⟩, hV9.1.app (fun j hj => ((hpn hp).1 j hj).trans (h1 j hj).symm) (hpn hp).2, v2, v3, v4, ?_, by omega, ?_⟩
      · rcases List.mem_append.mp hr with hr | hr
        · exact a9 r hr
        · rw [List.mem_singleton] at hr
          subst hr
          exact ⟨h5, fun j => pN_nn dr dn j⟩
      · rw [hl]; simp only []; rw [if_neg (by omega)]; omega
      · rw [hl]; simp only []; rw [if_neg (by omega)]; omega
    · exact absurd hp h
    · exact absurd ((same hp).mpr h) hnex
theorem sm_un {X : List rwT} (h : unX X) {e e2 m : Nat} {r r2 : rwT} {f : Nat → Int32} (h1 : X[e]? = some r) (h2 : X[e2]? = some r2) (s1 : sm r m f) (s2 : sm r2 m f) : e = e2 := by
  refine h e e2 r r2 h1 h2 ⟨s2.1.trans s1.1.symm, ?_⟩
  rw [s1.1]
  exact s2.2.tr s1.2.sm
theorem wrow_in {w : Nat → Int32} {n j : Nat} (h : j < n) : wrow w n (j + 1) = w j := by
  simp only [wrow]
  rw [if_neg (by omega), if_pos (by omega)]
  rfl
theorem wrow_end {w : Nat → Int32} {n : Nat} : wrow w n (n + 1) = 46 := by
  simp only [wrow]
  rw [if_neg (by omega), if_neg (by omega), if_pos trivial]
theorem lx_md {G : hG} {T y th dn d be sg nu bg fi le pl lf rt ln rw va out an : Nat} {ak : Bool} {dr fb fs fn ff fl fr fv av : Nat → Int32} {fp fo : Nat → Int64} {o ox : Nat → Nat} {P X : List rwT} {M M1 : hM} {r1 : Option Value} {tc : Nat} {X1 : List rwT} {fo1 : Nat → Int64} (hI : hbI T dr dn lf rt P X ak an) (hV : mdV T dn P X bg ak an av ln fb fs fn ff fl fv fp o ox) (hw : hm_has M [(y, cMd th dn d P.length be sg nu bg X.length fi le pl lf rt ln rw va ak), (d, aI G 200 dr), (be, aI G 8194 fb), (sg, aI G 40000 fs), (nu, aI G 48200 fn), (fi, aI G 2050 ff), (le, aI G 40000 fl), (pl, aJ G 2048 fp), (rw, aI G 66 fr), (va, aI G 66 fv), (out, aJ G 1 fo)]) (hS : excS dr dn X tc X1 fo1) (hq : q_md_exception G y th dn d P.length be sg nu bg X.length fi le pl lf rt ln rw va ak dr ff fl fp ox M r1 M1) : ∃ (rn : Nat) (ff1 fl1 : Nat → Int32) (fp1 : Nat → Int64) (o1 : Nat → Nat), r1 = some (.int (nI rn)) ∧ (tc = 0 → fo1 0 = (nI rn).toInt64) ∧ hm_has M1 [(y, cMd tc 0 d P.length be sg nu bg X1.length fi le pl lf rt ln rw va ak), (d, aI G 200 dr), (be, aI G 8194 fb), (sg, aI G 40000 fs), (nu, aI G 48200 fn), (fi, aI G 2050 ff1), (le, aI G 40000 fl1), (pl, aJ G 2048 fp1), (rw, aI G 66 fr), (va, aI G 66 fv), (out, aJ G 1 fo)] ∧ hm_kp (fun a => a ∈ [y, d, be, sg, nu, fi, le, pl, rw, va, out]) M M1 ∧ hbI (T + 1) dr 0 lf rt P X1 ak an ∧ mdV (T + 1) 0 P X1 bg ak an av ln fb fs fn ff1 fl1 fv fp1 o o1 := by
  obtain ⟨f9, hf, hpn, hk1, hc⟩ := hq
  obtain ⟨v1, v2, v3, v4, v5, v6, v7⟩ := id hV
  have hx9 : mdx X ff f9 fp ox := v2.above hf
  have hkk : hm_kp (fun a => a ∈ [y, d, be, sg, nu, fi, le, pl, rw, va, out]) M M1 := hk1.mono (fun a ha => by simp only [List.mem_cons, List.not_mem_nil, or_false] at ha ⊢; rcases ha with rfl | rfl | rfl | rfl <;> simp)
  have hI0 : hbI (T + 1) dr 0 lf rt P X ak an := hI.same (Nat.zero_le _)
  obtain ⟨a1, a2, a3, a4, a5, a6, a7, a8, a9, a10, a11, a12, a13⟩ := id hI
  rcases hc with ⟨hp, e1, hw1⟩ | ⟨e9, hp, he, hfd, hnf, hc⟩
  · rcases hS with ⟨-, h, -⟩ | ⟨rfl, -, rfl⟩
    · exact absurd h hp
    · have hw9 : hm_has M1 [(y, cMd 1 0 d P.length be sg nu bg X.length fi le pl lf rt ln rw va ak), (d, aI G 200 dr), (be, aI G 8194 fb), (sg, aI G 40000 fs), (nu, aI G 48200 fn), (fi, aI G 2050 ff), (le, aI G 40000 f9), (pl, aJ G 2048 fp), (rw, aI G 66 fr), (va, aI G 66 fv), (out, aJ G 1 fo)] := hm_join (wc := [(y, cMd th dn d P.length be sg nu bg X.length fi le pl lf rt ln rw va ak), (d, aI G 200 dr), (fi, aI G 2050 ff), (le, aI G 40000 fl), (pl, aJ G 2048 fp)]) hw hw1 hk1 [0, 1, 5, 6, 7] rfl rfl (fun _ h => by simp only [List.mem_cons, List.not_mem_nil, or_false, List.map_cons, List.map_nil] at h ⊢; rcases h with rfl | rfl | rfl | rfl <;> simp) rfl (by
        intro k9 h9
        match k9, h9 with
        | 0, _ => exact Or.inr ⟨0, rfl, rfl⟩
        | 1, _ => exact Or.inr ⟨1, rfl, rfl⟩
        | 2, _ => exact Or.inl ⟨by decide, rfl⟩
        | 3, _ => exact Or.inl ⟨by decide, rfl⟩
        | 4, _ => exact Or.inl ⟨by decide, rfl⟩
        | 5, _ => exact Or.inr ⟨2, rfl, rfl⟩
        | 6, _ => exact Or.inr ⟨3, rfl, rfl⟩
        | 7, _ => exact Or.inr ⟨4, rfl, rfl⟩
        | 8, _ => exact Or.inl ⟨by decide, rfl⟩
        | 9, _ => exact Or.inl ⟨by decide, rfl⟩
        | 10, _ => exact Or.inl ⟨by decide, rfl⟩
        | k9 + 11, h9 => exact absurd h9 (Nat.not_lt_of_le (Nat.le_add_left _ _)))
      exact ⟨_, _, _, _, ox, e1, fun z => (by cases z), hw9, hkk, hI0, v1, hx9, v3, v4, by omega, by omega, v7⟩
  · rcases hS with ⟨rfl, -, f0, h1, h2, h4⟩ | ⟨-, h, -⟩
    · have hz := xz_le dr dn
      have hxr : xrow (xz dr dn + 2, f0, xnm dr dn) := by
        refine ⟨?_, ?_, ?_, ?_, fun j => xnm_01 dr dn j⟩
        · show 3 ≤ xz dr dn + 2
          have := hp.2.2.1
          omega
        · show xz dr dn + 2 ≤ 65
          have := hp.2.2.2
          omega
        · exact (h1 0 (by omega)).trans rfl
        · exact (h1 (xz dr dn + 1) (by omega)).trans wrow_end
      have hfs : ∀ (e : Nat) (r : rwT), X[e]? = some r → (fdP ox f9 X.length (xz dr dn) e ↔ sm r (xz dr dn + 2) f0) := fun e r hr => by
        rw [fd_sm hx9 hr (a11 r (List.mem_of_getElem? hr)) (hpn hp)]
        exact ⟨fun z => sm_ag z h1.sm, fun z => sm_ag z h1⟩
      rcases hc with ⟨hlt, e1, hw1⟩ | ⟨rfl, e1, hw1⟩
      · have hr9 : X[e9]? = some X[e9] := List.getElem?_eq_getElem hlt
        have hs9 := (hfs e9 _ hr9).mp (hfd hlt)
        rcases h2 with ⟨h2, -⟩ | ⟨e8, r8, h5, h6, rfl⟩
        · exact absurd hs9 (h2 _ (List.mem_of_getElem? hr9))
        · obtain rfl := sm_un a12 h5 hr9 h6 hs9
          have hl : (X.set e8 (xz dr dn + 2, f0, xnm dr dn)).length = X.length := List.length_set
          rw [hl] at h4
          have hw9 : hm_has M1 [(y, cMd 0 0 d P.length be sg nu bg X.length fi le pl lf rt ln rw va ak), (d, aI G 200 dr), (be, aI G 8194 fb), (sg, aI G 40000 fs), (nu, aI G 48200 fn), (fi, aI G 2050 ff), (le, aI G 40000 f9), (pl, aJ G 2048 (vp_updL fp e8 (cutN (xhy dr dn) 64))), (rw, aI G 66 fr), (va, aI G 66 fv), (out, aJ G 1 fo)] := hm_join (wc := [(y, cMd th dn d P.length be sg nu bg X.length fi le pl lf rt ln rw va ak), (d, aI G 200 dr), (fi, aI G 2050 ff), (le, aI G 40000 fl), (pl, aJ G 2048 fp)]) hw hw1 hk1 [0, 1, 5, 6, 7] rfl rfl (fun _ h => by simp only [List.mem_cons, List.not_mem_nil, or_false, List.map_cons, List.map_nil] at h ⊢; rcases h with rfl | rfl | rfl | rfl <;> simp) rfl (by
            intro k9 h9
            match k9, h9 with
            | 0, _ => exact Or.inr ⟨0, rfl, rfl⟩
            | 1, _ => exact Or.inr ⟨1, rfl, rfl⟩
            | 2, _ => exact Or.inl ⟨by decide, rfl⟩
            | 3, _ => exact Or.inl ⟨by decide, rfl⟩
            | 4, _ => exact Or.inl ⟨by decide, rfl⟩
            | 5, _ => exact Or.inr ⟨2, rfl, rfl⟩
            | 6, _ => exact Or.inr ⟨3, rfl, rfl⟩
            | 7, _ => exact Or.inr ⟨4, rfl, rfl⟩
            | 8, _ => exact Or.inl ⟨by decide, rfl⟩
            | 9, _ => exact Or.inl ⟨by decide, rfl⟩
            | 10, _ => exact Or.inl ⟨by decide, rfl⟩
            | k9 + 11, h9 => exact absurd h9 (Nat.not_lt_of_le (Nat.le_add_left _ _)))
          rw [hl]
          refine ⟨_, _, _, _, ox, e1, fun _ => h4, hw9, hkk, ⟨Nat.zero_le _, a2, a3, a4, a5, a6, by omega, by rw [hl]; omega, a9, a10, fun r hr => ?_, a12.set h5 h6, a13⟩, v1, hx9.set h5 h6 (xnm_cut dr dn), v3, v4, by omega, by rw [hl]; omega, v7⟩
          rcases List.mem_or_eq_of_mem_set hr with hr | hr
          · exact a11 r hr
          · subst hr
            exact hxr
      · rcases h2 with ⟨h2, rfl⟩ | ⟨e8, r8, h5, h6, -⟩
        · have hl : (X ++ [(xz dr dn + 2, f0, xnm dr dn)]).length = X.length + 1 := by simp
          rw [hl] at h4
          have hw9 : hm_has M1 [(y, cMd 0 0 d P.length be sg nu bg (X.length + 1) fi le pl lf rt ln rw va ak), (d, aI G 200 dr), (be, aI G 8194 fb), (sg, aI G 40000 fs), (nu, aI G 48200 fn), (fi, aI G 2050 (upd ff (X.length + 1) (nI (ox X.length + xz dr dn)))), (le, aI G 40000 f9), (pl, aJ G 2048 (vp_updL fp X.length (cutN (xhy dr dn) 64))), (rw, aI G 66 fr), (va, aI G 66 fv), (out, aJ G 1 fo)] := hm_join (wc := [(y, cMd th dn d P.length be sg nu bg X.length fi le pl lf rt ln rw va ak), (d, aI G 200 dr), (fi, aI G 2050 ff), (le, aI G 40000 fl), (pl, aJ G 2048 fp)]) hw hw1 hk1 [0, 1, 5, 6, 7] rfl rfl (fun _ h => by simp only [List.mem_cons, List.not_mem_nil, or_false, List.map_cons, List.map_nil] at h ⊢; rcases h with rfl | rfl | rfl | rfl <;> simp) rfl (by
            intro k9 h9
            match k9, h9 with
            | 0, _ => exact Or.inr ⟨0, rfl, rfl⟩
            | 1, _ => exact Or.inr ⟨1, rfl, rfl⟩
            | 2, _ => exact Or.inl ⟨by decide, rfl⟩
            | 3, _ => exact Or.inl ⟨by decide, rfl⟩
            | 4, _ => exact Or.inl ⟨by decide, rfl⟩
            | 5, _ => exact Or.inr ⟨2, rfl, rfl⟩
            | 6, _ => exact Or.inr ⟨3, rfl, rfl⟩
            | 7, _ => exact Or.inr ⟨4, rfl, rfl⟩
            | 8, _ => exact Or.inl ⟨by decide, rfl⟩
            | 9, _ => exact Or.inl ⟨by decide, rfl⟩
            | 10, _ => exact Or.inl ⟨by decide, rfl⟩
            | k9 + 11, h9 => exact absurd h9 (Nat.not_lt_of_le (Nat.le_add_left _ _)))
          rw [hl]
          refine ⟨_, _, _, _, (fun k => if k ≤ X.length then ox k else ox X.length + xz dr dn), e1, fun _ => h4, hw9, hkk, ⟨Nat.zero_le _, a2, a3, a4, a5, a6, by omega, by rw [hl]; omega, a9, a10, fun r hr => ?_, a12.app h2, a13⟩, v1, hx9.app (fun j hj => (hpn hp j hj).trans ((wrow_in hj).symm.trans (h1 (j + 1) (by omega)).symm)) (xnm_cut dr dn), v3, v4, by omega, ?_, v7⟩
          · rcases List.mem_append.mp hr with hr | hr
            · exact a11 r hr
            · rw [List.mem_singleton] at hr
              subst hr
              exact hxr
          · rw [hl]; simp only []; rw [if_neg (by omega)]; omega
        · have hlt := (List.getElem?_eq_some_iff.mp h5).1
          exact absurd ((hfs e8 r8 h5).mpr h6) (hnf e8 hlt)
    · exact absurd hp h
theorem ly_md {G : hG} {T y th dn d be sg nu bg fi le pl lf rt ln rw va out an : Nat} {ak : Bool} {dr fb fs fn ff fl fr fv av : Nat → Int32} {fp fo : Nat → Int64} {o ox : Nat → Nat} {P X : List rwT} {M M1 : hM} {r1 : Option Value} {tc an1 : Nat} {ak1 : Bool} {av1 : Nat → Int32} {fo1 : Nat → Int64} (hI : hbI T dr dn lf rt P X ak an) (hV : mdV T dn P X bg ak an av ln fb fs fn ff fl fv fp o ox) (hw : hm_has M [(y, cMd th dn d P.length be sg nu bg X.length fi le pl lf rt ln rw va ak), (d, aI G 200 dr), (be, aI G 8194 fb), (sg, aI G 40000 fs), (nu, aI G 48200 fn), (fi, aI G 2050 ff), (le, aI G 40000 fl), (pl, aJ G 2048 fp), (rw, aI G 66 fr), (va, aI G 66 fv), (out, aJ G 1 fo)]) (hS : wrdS lf rt dr dn P X ak an av tc ak1 an1 av1 fo1) (hq : q_md_word G y th dn d P.length be sg nu bg X.length fi le pl lf rt ln rw va ak dr fb fs fn ff fl fr fv fp o ox M r1 M1) : ∃ (z : Int64) (ln1 : Nat) (fl1 fr1 fv1 : Nat → Int32), r1 = some (.long z) ∧ (tc = 0 → fo1 0 = z) ∧ hm_has M1 [(y, cMd tc 0 d P.length be sg nu bg X.length fi le pl lf rt ln1 rw va ak1), (d, aI G 200 dr), (be, aI G 8194 fb), (sg, aI G 40000 fs), (nu, aI G 48200 fn), (fi, aI G 2050 ff), (le, aI G 40000 fl1), (pl, aJ G 2048 fp), (rw, aI G 66 fr1), (va, aI G 66 fv1), (out, aJ G 1 fo)] ∧ hm_kp (fun a => a ∈ [y, d, be, sg, nu, fi, le, pl, rw, va, out]) M M1 ∧ hbI (T + 1) dr 0 lf rt P X ak1 an1 ∧ mdV (T + 1) 0 P X bg ak1 an1 av1 ln1 fb fs fn ff fl1 fv1 fp o ox := by
  obtain ⟨v1, v2, v3, v4, v5, v6, v7⟩ := id hV
  obtain ⟨a1, a2, a3, a4, a5, a6, a7, a8, a9, a10, a11, a12, a13⟩ := id hI
  rcases hq with ⟨hp, ⟨z, e1⟩, hw1, hk1⟩ | ⟨fr9, fl9, v9, e9, hp, hfr, hfl, hfd, hmx, he, hfe, hne, e1, hw1, hk1⟩
  · rcases hS with ⟨-, h, -⟩ | ⟨rfl, -, rfl, rfl, rfl⟩
    · exact absurd h hp
    · have hkk : hm_kp (fun a => a ∈ [y, d, be, sg, nu, fi, le, pl, rw, va, out]) M M1 := hk1.mono (fun a ha => by simp only [List.mem_cons, List.not_mem_nil, or_false] at ha ⊢; rcases ha with rfl | rfl | rfl | rfl <;> simp)
      have hw9 : hm_has M1 [(y, cMd 1 0 d P.length be sg nu bg X.length fi le pl lf rt ln rw va ak), (d, aI G 200 dr), (be, aI G 8194 fb), (sg, aI G 40000 fs), (nu, aI G 48200 fn), (fi, aI G 2050 ff), (le, aI G 40000 fl), (pl, aJ G 2048 fp), (rw, aI G 66 fr), (va, aI G 66 fv), (out, aJ G 1 fo)] := hm_join (wc := [(y, cMd th dn d P.length be sg nu bg X.length fi le pl lf rt ln rw va ak), (d, aI G 200 dr), (be, aI G 8194 fb), (sg, aI G 40000 fs), (nu, aI G 48200 fn), (fi, aI G 2050 ff), (le, aI G 40000 fl), (pl, aJ G 2048 fp), (rw, aI G 66 fr), (va, aI G 66 fv)]) hw hw1 hk1 [0, 1, 2, 3, 4, 5, 6, 7, 8, 9] rfl rfl (fun _ h => by simp only [List.mem_cons, List.not_mem_nil, or_false, List.map_cons, List.map_nil] at h ⊢; rcases h with rfl | rfl | rfl | rfl <;> simp) rfl (by
        intro k9 h9
        match k9, h9 with
        | 0, _ => exact Or.inr ⟨0, rfl, rfl⟩
        | 1, _ => exact Or.inr ⟨1, rfl, rfl⟩
        | 2, _ => exact Or.inr ⟨2, rfl, rfl⟩
        | 3, _ => exact Or.inr ⟨3, rfl, rfl⟩
        | 4, _ => exact Or.inr ⟨4, rfl, rfl⟩
        | 5, _ => exact Or.inr ⟨5, rfl, rfl⟩
        | 6, _ => exact Or.inr ⟨6, rfl, rfl⟩
        | 7, _ => exact Or.inr ⟨7, rfl, rfl⟩
        | 8, _ => exact Or.inr ⟨8, rfl, rfl⟩
        | 9, _ => exact Or.inr ⟨9, rfl, rfl⟩
        | 10, _ => exact Or.inl ⟨by decide, rfl⟩
        | k9 + 11, h9 => exact absurd h9 (Nat.not_lt_of_le (Nat.le_add_left _ _)))
      exact ⟨_, _, _, _, _, e1, fun z => (by cases z), hw9, hkk, hI.same (Nat.zero_le _), hV.same (Nat.zero_le _)⟩
  · rcases hS with ⟨rfl, -, rfl, rfl, h1, w9, h2, h4⟩ | ⟨-, h, -⟩
    · have hkk : hm_kp (fun a => a ∈ [y, d, be, sg, nu, fi, le, pl, rw, va, out]) M M1 := hk1.mono (fun a ha => by simp only [List.mem_cons, List.not_mem_nil, or_false] at ha ⊢; rcases ha with rfl | rfl | rfl | rfl <;> simp)
      have hx9 : mdx X ff fl9 fp ox := v2.above hfl
      have hv : ∀ j, j ≤ dn + 2 → av1 j = v9 j := vMax_uniq h1 hmx (fun pl x _ => wd_set v1 (fun r hr => (a9 r hr).1) hfr)
      have h9 := wd_9 (P := P) h1 (fun pl x hx => by
        obtain ⟨i, -, r, hr, -, -, -, -, -, -, rfl⟩ := hx
        exact ((a9 r hr).2 _).2)
      have hfs : ∀ (e : Nat) (r : rwT), X[e]? = some r → (fdP ox fl9 X.length dn e ↔ sm r (dn + 2) (wrow dr dn)) := fun e r hr => fd_sm hx9 hr (a11 r (List.mem_of_getElem? hr)) hfd
      have hw9 : hm_has M1 [(y, cMd 0 0 d P.length be sg nu bg X.length fi le pl lf rt dn rw va true), (d, aI G 200 dr), (be, aI G 8194 fb), (sg, aI G 40000 fs), (nu, aI G 48200 fn), (fi, aI G 2050 ff), (le, aI G 40000 fl9), (pl, aJ G 2048 fp), (rw, aI G 66 fr9), (va, aI G 66 v9), (out, aJ G 1 fo)] := hm_join (wc := [(y, cMd th dn d P.length be sg nu bg X.length fi le pl lf rt ln rw va ak), (d, aI G 200 dr), (be, aI G 8194 fb), (sg, aI G 40000 fs), (nu, aI G 48200 fn), (fi, aI G 2050 ff), (le, aI G 40000 fl), (pl, aJ G 2048 fp), (rw, aI G 66 fr), (va, aI G 66 fv)]) hw hw1 hk1 [0, 1, 2, 3, 4, 5, 6, 7, 8, 9] rfl rfl (fun _ h => by simp only [List.mem_cons, List.not_mem_nil, or_false, List.map_cons, List.map_nil] at h ⊢; rcases h with rfl | rfl | rfl | rfl <;> simp) rfl (by
        intro k9 h9
        match k9, h9 with
        | 0, _ => exact Or.inr ⟨0, rfl, rfl⟩
        | 1, _ => exact Or.inr ⟨1, rfl, rfl⟩
        | 2, _ => exact Or.inr ⟨2, rfl, rfl⟩
        | 3, _ => exact Or.inr ⟨3, rfl, rfl⟩
        | 4, _ => exact Or.inr ⟨4, rfl, rfl⟩
        | 5, _ => exact Or.inr ⟨5, rfl, rfl⟩
        | 6, _ => exact Or.inr ⟨6, rfl, rfl⟩
        | 7, _ => exact Or.inr ⟨7, rfl, rfl⟩
        | 8, _ => exact Or.inr ⟨8, rfl, rfl⟩
        | 9, _ => exact Or.inr ⟨9, rfl, rfl⟩
        | 10, _ => exact Or.inl ⟨by decide, rfl⟩
        | k9 + 11, h9 => exact absurd h9 (Nat.not_lt_of_le (Nat.le_add_left _ _)))
      refine ⟨_, _, _, _, _, e1, fun _ => ?_, hw9, hkk, ⟨Nat.zero_le _, a2, a3, a4, a5, a6, by omega, by omega, a9, a10, a11, a12, fun _ => hp.2.1⟩, v1, hx9, hp.2.1, fun _ => ⟨rfl, fun j hj => (hv j hj).symm⟩, by omega, by omega, v7⟩
      rw [h4]
      refine wd_cut a3 a5 hp.2.1 (fun j j1 j2 => ?_)
      rcases Nat.lt_or_ge e9 X.length with hlt | hge
      · have hr9 : X[e9]? = some X[e9] := List.getElem?_eq_getElem hlt
        have hs9 := (hfs e9 _ hr9).mp (hfe hlt)
        rcases h2 with ⟨h2, -⟩ | ⟨r, hr, h5, h6⟩
        · exact absurd hs9 (h2 _ (List.mem_of_getElem? hr9))
        · obtain ⟨e8, h8⟩ := List.getElem?_of_mem hr
          obtain rfl := sm_un a12 h8 hr9 h5 hs9
          have h8p := hp.2.1
          rw [h6 (j + 1) (by omega), mb_b hlt, decide_eq_true_iff, (hx9.2.2 e8 r h8).2.2.2, cutN_bit (Nat.le_refl _) (by omega), decide_eq_true_iff, ← bit_01 ((a11 r hr).2.2.2.2 (j + 1))]
          exact ⟨fun z => ⟨by omega, z⟩, fun z => z.2⟩
      · obtain rfl : e9 = X.length := Nat.le_antisymm he hge
        rcases h2 with ⟨-, rfl⟩ | ⟨r, hr, h5, h6⟩
        · rw [mb_o (Nat.le_refl _), decide_eq_true_iff, ← hv (j + 1) (by omega)]
          exact (odd_and (h9 (j + 1) (by omega)).1 (h9 (j + 1) (by omega)).2).symm
        · obtain ⟨e8, h8⟩ := List.getElem?_of_mem hr
          exact absurd ((hfs e8 r h8).mpr h5) (hne e8 (List.getElem?_eq_some_iff.mp h8).1)
    · exact absurd hp h
