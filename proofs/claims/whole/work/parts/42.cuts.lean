/-! where a word may be cut -/
def nmF (td : Option Nat) (v : Nat → Int32) (nv : Nat → Nat → Int32) : Nat → Int32 := match td with
  | none => v
  | some q => nv q
def cutQ (lf rt n : Nat) (w : Nat → Int32) (j : Nat) : Bool := decide (lf ≤ j) && (decide (j + rt ≤ n) && decide ((w (j + 1) &&& 1).toInt = 1))
theorem cq_0 {lf rt n : Nat} {w : Nat → Int32} : cutN (cutQ lf rt n w) lf = 0 := cutN_none (fun j hj => by simp [cutQ, Nat.not_le.mpr hj])
theorem cq_y {lf rt n k : Nat} {w : Nat → Int32} (h1 : lf ≤ k) (h2 : k + rt ≤ n) (h3 : (w (k + 1) &&& 1).toInt = 1) : cutN (cutQ lf rt n w) (k + 1) = cutN (cutQ lf rt n w) k ||| (1 <<< ((nI k).toInt64 &&& 63)) := by simp [cutN, cutQ, h1, h2, h3]
theorem cq_n {lf rt n k : Nat} {w : Nat → Int32} (h3 : (w (k + 1) &&& 1).toInt ≠ 1) : cutN (cutQ lf rt n w) (k + 1) = cutN (cutQ lf rt n w) k := by simp [cutN, cutQ, h3]
theorem cq_e {lf rt n k : Nat} {w : Nat → Int32} (h : n < k + rt) (hk : k ≤ 64) : cutN (cutQ lf rt n w) k = cutN (cutQ lf rt n w) 64 := (cutN_more hk (fun j h1 _ => by simp [cutQ, show ¬ (j + rt ≤ n) by omega])).symm
theorem nb_some {st : Nat → Int32 → Option Nat} {root sz y : Nat} {f : Nat → Int32} {nu : Nat → Option Nat} (h : (twk st root f sz).bind nu = some y) : ∃ a, twk st root f sz = some a ∧ nu a = some y := by
  cases ha : twk st root f sz with
  | none => rw [ha] at h; cases h
  | some a => rw [ha] at h; exact ⟨a, rfl, h⟩
theorem n2_n {n : Nat} : nI (n + 2) - 2 = nI n := by
  have := pk_sub (a := n + 2) (b := 2) (by omega)
  rw [Nat.add_sub_cancel] at this
  exact this
theorem hm_kp.nq {S : Nat → Prop} {M0 M : hM} {q : Nat} (h : hm_kp S M0 M) (hq : M q = none) (hS : ∀ a, S a → ∃ e, M a = some e) : M0 q = none := by
  cases hm : M0 q with
  | none => rfl
  | some e =>
    by_cases hs : S q
    · obtain ⟨x, hx⟩ := hS q hs
      rw [hq] at hx; cases hx
    · rw [h q e hm hs] at hq; cases hq
