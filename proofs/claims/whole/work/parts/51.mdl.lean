theorem by_255 : ∀ j, j < 32 → ¬ j < 8 → (255#32).getLsbD j = false := by decide
theorem byM_eq (v : Int64) : (i : Nat) → i < 8 → ((v >>> ((nI (8 * i)).toInt64 &&& 63)) &&& 255).toInt32 = byt v i
  | 0, _ => by
    have e1 : ((nI (8 * 0)).toInt64 &&& 63) = 0 := by decide
    have e2 : ((nI (8 * 0)).toInt64.toUInt64 &&& Int64.toUInt64 63) = 0 := by decide
    unfold byt
    rw [e1, e2]
    apply Int32.toBitVec_inj.mp
    apply BitVec.eq_of_getLsbD_eq
    intro j hj
    by_cases h8 : j < 8
    · simp [BitVec.getLsbD_signExtend, BitVec.getLsbD_sshiftRight, BitVec.getLsbD_ushiftRight, show j < 64 by omega, show 0 + j < 64 by omega, show ¬ (64 ≤ j) by omega]
    · simp [BitVec.getLsbD_signExtend, BitVec.getLsbD_sshiftRight, BitVec.getLsbD_ushiftRight, by_255 j hj h8]
  | 1, _ => by
    have e1 : ((nI (8 * 1)).toInt64 &&& 63) = 8 := by decide
    have e2 : ((nI (8 * 1)).toInt64.toUInt64 &&& Int64.toUInt64 63) = 8 := by decide
    unfold byt
    rw [e1, e2]
    apply Int32.toBitVec_inj.mp
    apply BitVec.eq_of_getLsbD_eq
    intro j hj
    by_cases h8 : j < 8
    · simp [BitVec.getLsbD_signExtend, BitVec.getLsbD_sshiftRight, BitVec.getLsbD_ushiftRight]
      rw [if_pos (show j < 64 by omega), if_pos (show 8 + j < 64 by omega), decide_eq_false (show ¬ 64 ≤ j by omega), decide_eq_true (show j < 64 by omega)]
      rfl
    · simp [BitVec.getLsbD_signExtend, BitVec.getLsbD_sshiftRight, BitVec.getLsbD_ushiftRight, by_255 j hj h8]
  | 2, _ => by
    have e1 : ((nI (8 * 2)).toInt64 &&& 63) = 16 := by decide
    have e2 : ((nI (8 * 2)).toInt64.toUInt64 &&& Int64.toUInt64 63) = 16 := by decide
    unfold byt
    rw [e1, e2]
    apply Int32.toBitVec_inj.mp
    apply BitVec.eq_of_getLsbD_eq
    intro j hj
    by_cases h8 : j < 8
    · simp [BitVec.getLsbD_signExtend, BitVec.getLsbD_sshiftRight, BitVec.getLsbD_ushiftRight]
      rw [if_pos (show j < 64 by omega), if_pos (show 16 + j < 64 by omega), decide_eq_false (show ¬ 64 ≤ j by omega), decide_eq_true (show j < 64 by omega)]
      rfl
    · simp [BitVec.getLsbD_signExtend, BitVec.getLsbD_sshiftRight, BitVec.getLsbD_ushiftRight, by_255 j hj h8]
  | 3, _ => by
    have e1 : ((nI (8 * 3)).toInt64 &&& 63) = 24 := by decide
    have e2 : ((nI (8 * 3)).toInt64.toUInt64 &&& Int64.toUInt64 63) = 24 := by decide
    unfold byt
    rw [e1, e2]
    apply Int32.toBitVec_inj.mp
    apply BitVec.eq_of_getLsbD_eq
    intro j hj
    by_cases h8 : j < 8
    · simp [BitVec.getLsbD_signExtend, BitVec.getLsbD_sshiftRight, BitVec.getLsbD_ushiftRight]
      rw [if_pos (show j < 64 by omega), if_pos (show 24 + j < 64 by omega), decide_eq_false (show ¬ 64 ≤ j by omega), decide_eq_true (show j < 64 by omega)]
      rfl
    · simp [BitVec.getLsbD_signExtend, BitVec.getLsbD_sshiftRight, BitVec.getLsbD_ushiftRight, by_255 j hj h8]
  | 4, _ => by
    have e1 : ((nI (8 * 4)).toInt64 &&& 63) = 32 := by decide
    have e2 : ((nI (8 * 4)).toInt64.toUInt64 &&& Int64.toUInt64 63) = 32 := by decide
    unfold byt
    rw [e1, e2]
    apply Int32.toBitVec_inj.mp
    apply BitVec.eq_of_getLsbD_eq
    intro j hj
    by_cases h8 : j < 8
    · simp [BitVec.getLsbD_signExtend, BitVec.getLsbD_sshiftRight, BitVec.getLsbD_ushiftRight]
      rw [if_pos (show j < 64 by omega), if_pos (show 32 + j < 64 by omega), decide_eq_false (show ¬ 64 ≤ j by omega), decide_eq_true (show j < 64 by omega)]
      rfl
    · simp [BitVec.getLsbD_signExtend, BitVec.getLsbD_sshiftRight, BitVec.getLsbD_ushiftRight, by_255 j hj h8]
  | 5, _ => by
    have e1 : ((nI (8 * 5)).toInt64 &&& 63) = 40 := by decide
    have e2 : ((nI (8 * 5)).toInt64.toUInt64 &&& Int64.toUInt64 63) = 40 := by decide
    unfold byt
    rw [e1, e2]
    apply Int32.toBitVec_inj.mp
    apply BitVec.eq_of_getLsbD_eq
    intro j hj
    by_cases h8 : j < 8
    · simp [BitVec.getLsbD_signExtend, BitVec.getLsbD_sshiftRight, BitVec.getLsbD_ushiftRight]
      rw [if_pos (show j < 64 by omega), if_pos (show 40 + j < 64 by omega), decide_eq_false (show ¬ 64 ≤ j by omega), decide_eq_true (show j < 64 by omega)]
      rfl
    · simp [BitVec.getLsbD_signExtend, BitVec.getLsbD_sshiftRight, BitVec.getLsbD_ushiftRight, by_255 j hj h8]
  | 6, _ => by
    have e1 : ((nI (8 * 6)).toInt64 &&& 63) = 48 := by decide
    have e2 : ((nI (8 * 6)).toInt64.toUInt64 &&& Int64.toUInt64 63) = 48 := by decide
    unfold byt
    rw [e1, e2]
    apply Int32.toBitVec_inj.mp
    apply BitVec.eq_of_getLsbD_eq
    intro j hj
    by_cases h8 : j < 8
    · simp [BitVec.getLsbD_signExtend, BitVec.getLsbD_sshiftRight, BitVec.getLsbD_ushiftRight]
      rw [if_pos (show j < 64 by omega), if_pos (show 48 + j < 64 by omega), decide_eq_false (show ¬ 64 ≤ j by omega), decide_eq_true (show j < 64 by omega)]
      rfl
    · simp [BitVec.getLsbD_signExtend, BitVec.getLsbD_sshiftRight, BitVec.getLsbD_ushiftRight, by_255 j hj h8]
  | 7, _ => by
    have e1 : ((nI (8 * 7)).toInt64 &&& 63) = 56 := by decide
    have e2 : ((nI (8 * 7)).toInt64.toUInt64 &&& Int64.toUInt64 63) = 56 := by decide
    unfold byt
    rw [e1, e2]
    apply Int32.toBitVec_inj.mp
    apply BitVec.eq_of_getLsbD_eq
    intro j hj
    by_cases h8 : j < 8
    · simp [BitVec.getLsbD_signExtend, BitVec.getLsbD_sshiftRight, BitVec.getLsbD_ushiftRight]
      rw [if_pos (show j < 64 by omega), if_pos (show 56 + j < 64 by omega), decide_eq_false (show ¬ 64 ≤ j by omega), decide_eq_true (show j < 64 by omega)]
      rfl
    · simp [BitVec.getLsbD_signExtend, BitVec.getLsbD_sshiftRight, BitVec.getLsbD_ushiftRight, by_255 j hj h8]
  | i + 8, h => absurd h (by omega)
theorem byt_by (v : Int64) (i : Nat) : isBy (byt v i) := by
  have key : ∀ b : BitVec 32, 0 ≤ (b &&& 255#32).toInt ∧ (b &&& 255#32).toInt ≤ 255 := by
    intro b
    have h1 : (b &&& 255#32).toNat ≤ 255 := by
      rw [BitVec.toNat_and]
      exact Nat.and_le_right
    rw [BitVec.toInt_eq_toNat_of_lt (by omega)]
    omega
  exact key _
theorem sh_and : ∀ k : Nat, k < 64 → ((nI k).toInt64 &&& 63) = Int64.ofNat k := by decide +kernel
theorem sh_one : ∀ N : Nat, N < 64 → ∀ k : Nat, k < 64 → ((1 : Int64) <<< ((nI N).toInt64 &&& 63)).toBitVec.getLsbD k = decide (k = N) := by decide +kernel
theorem sh_mod : ∀ k : Nat, k < 64 → (Int64.ofNat k).toBitVec.smod 64#64 = BitVec.ofNat 64 k := by decide +kernel
theorem cutN_get {q : Nat → Bool} {k : Nat} (hk : k < 64) : ∀ N, N ≤ 64 → (cutN q N).toBitVec.getLsbD k = (decide (k < N) && q k) := by
  intro N
  induction N with
  | zero => intro _; simp [cutN]
  | succ N ih =>
    intro hN
    have ih := ih (by omega)
    simp only [cutN]
    by_cases hq : q N = true
    · rw [if_pos hq, Int64.toBitVec_or, BitVec.getLsbD_or, ih, sh_one N (by omega) k hk]
      by_cases hkN : k = N
      · subst hkN
        simp [hq]
      · by_cases hlt : k < N
        · simp [hkN, hlt, show k < N + 1 by omega]
        · simp [hkN, hlt, show ¬ k < N + 1 by omega]
    · rw [if_neg hq, ih]
      by_cases hkN : k = N
      · subst hkN
        simp [hq]
      · by_cases hlt : k < N
        · simp [hlt, show k < N + 1 by omega]
        · simp [hlt, show ¬ k < N + 1 by omega]
theorem bit_and {x : Int64} {k : Nat} (hk : k < 64) : ((x >>> ((nI k).toInt64 &&& 63)) &&& 1) = 1 ↔ x.toBitVec.getLsbD k = true := by
  rw [sh_and k hk, ← Int64.toBitVec_inj, Int64.toBitVec_and, Int64.toBitVec_shiftRight]
  have e : BitVec.sshiftRight' x.toBitVec ((Int64.ofNat k).toBitVec.smod 64#64) = x.toBitVec.sshiftRight k := by
    rw [sh_mod k hk, BitVec.sshiftRight', BitVec.toNat_ofNat, Nat.mod_eq_of_lt (by omega)]
  show (BitVec.sshiftRight' x.toBitVec ((Int64.ofNat k).toBitVec.smod 64#64) &&& 1#64) = 1#64 ↔ _
  rw [e, BitVec.and_one_eq_setWidth_ofBool_getLsbD, BitVec.getLsbD_sshiftRight]
  simp only [Nat.add_zero, show ¬ (64 ≤ 0) by omega, decide_false, Bool.not_false, Bool.true_and, hk, if_true]
  cases x.toBitVec.getLsbD k <;> decide
theorem cutN_bit {q : Nat → Bool} {N k : Nat} (hN : N ≤ 64) (hk : k < 64) : ((cutN q N >>> ((nI k).toInt64 &&& 63)) &&& 1) = 1 ↔ (k < N ∧ q k = true) := by
  rw [bit_and hk, cutN_get hk N hN]
  simp
section HLC
variable {p : Program} {l : Launch} {e : Env} {R : Room} {s : State} {m : MethodId} {args : Array Value} {below : List Frame} {meth : Method} {c : Code} {H : Heap} {locs : List Loc} {cells slots : Nat} {Q : State → Prop} {cc : ByteArray} {pc : Nat} {ls : Array Slot} {rest : List Value}
theorem hm_lcmp (hexec : p.tables.exec = Jvm.exec) (hb : c.code = cc) {x y : Int64} (hdg : decode cc pc = .ok (.lcmp, 1)) (k : ∀ z : Int32, (z.toInt = 0 ↔ x = y) → W p l e R s m args below meth c H locs cells slots Q (F0 m (pc + 1) ls (.int z :: rest))) : W p l e R s m args below meth c H locs cells slots Q (F0 m pc ls (.long y :: .long x :: rest)) := by
  intro T hT X
  by_cases h1 : x > y
  · have hne : ¬ x = y := fun z => by subst z; exact absurd h1 (Jvm.Free.Cmp.not_lt_self x)
    obtain ⟨t, a, b⟩ := k 1 ⟨fun z => absurd z (by decide), fun z => absurd z hne⟩ T hT X
    refine ⟨t, ?_, b⟩
    jvm_step X.here [X.here.top, hexec, hb, hdg, h1]
    exact a
  · by_cases h2 : x = y
    · subst h2
      obtain ⟨t, a, b⟩ := k 0 ⟨fun _ => rfl, fun _ => by decide⟩ T hT X
      refine ⟨t, ?_, b⟩
      jvm_step X.here [X.here.top, hexec, hb, hdg, h1]
      exact a
    · obtain ⟨t, a, b⟩ := k (-1) ⟨fun z => absurd z (by decide), fun z => absurd z h2⟩ T hT X
      refine ⟨t, ?_, b⟩
      jvm_step X.here [X.here.top, hexec, hb, hdg, h1, h2]
      exact a
end HLC
theorem upd_id {f : Nat → Int32} {k : Nat} : upd f k (f k) = f := by
  funext j
  by_cases h : j = k
  · subst h; rw [upd_self]
  · rw [upd_ne h]
theorem rzB_y {v g : Nat → Int32} {st j : Nat} (h : (rzB v g st j (st + j)).toInt < (g j).toInt) : rzB v g st (j + 1) = upd (rzB v g st j) (st + j) (g j) := by
  simp only [rzB]
  rw [if_pos (i32_lt.mpr h)]
theorem rzB_n {v g : Nat → Int32} {st j : Nat} (h : (g j).toInt ≤ (rzB v g st j (st + j)).toInt) : rzB v g st (j + 1) = upd (rzB v g st j) (st + j) (rzB v g st j (st + j)) := by
  simp only [rzB]
  rw [if_neg (fun z => by have := i32_lt.mp z; omega), upd_id]
abbrev cMd (th dn d np be sg nu bg nx fi le pl lf rt ln rw va : Nat) (ak : Bool) : va_E := .inr (4, [.int (nI th), .int (nI dn), .ref d, .int (nI np), .ref be, .ref sg, .ref nu, .int (nI bg), .int (nI nx), .ref fi, .ref le, .ref pl, .int (nI lf), .int (nI rt), .int (nI ln), .ref rw, .ref va, .int (bI ak)])
def cmP (o : Nat → Nat) (f : Nat → Int32) (at0 m p k : Nat) : Prop := k ≤ m ∧ o p + k ≤ o (p + 1) ∧ (∀ j, j < k → f (o p + j) = f (at0 + j)) ∧ (k = m ∨ o p + k = o (p + 1) ∨ f (o p + k) ≠ f (at0 + k))
theorem lt_S {P : Nat → Prop} {k : Nat} (h : ∀ j, j < k → P j) (hk : P k) : ∀ j, j < k + 1 → P j := fun j hj => by
  rcases Nat.lt_or_ge j k with q | q
  · exact h j q
  · obtain rfl : j = k := by omega
    exact hk
/-- is exception e the word behind the last one -/
def fdP (o : Nat → Nat) (f : Nat → Int32) (nx n e : Nat) : Prop := o (e + 1) = o e + n ∧ ∀ k, k < n → f (o e + k) = f (o nx + k)
