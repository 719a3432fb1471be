/-! THE MODEL'S WORDS -/
def gwP (d : Nat → Int32) (N : Nat) : Nat → Bool
  | 0 => decide (0 < N) && decide (N < 64)
  | k + 1 => gwP d N k && isL (d k)
theorem gwP_iff {d : Nat → Int32} {N n : Nat} : gwP d N n = true ↔ (0 < N ∧ N < 64) ∧ ∀ k, k < n → isL (d k) = true := by
  induction n with
  | zero => simp [gwP]
  | succ n ih =>
    simp only [gwP, Bool.and_eq_true, ih]
    exact ⟨fun ⟨⟨h1, h2⟩, h3⟩ => ⟨h1, lt_S h2 h3⟩, fun ⟨h1, h2⟩ => ⟨⟨h1, fun k hk => h2 k (by omega)⟩, h2 n (by omega)⟩⟩
theorem gw_ok {d : Nat → Int32} {n : Nat} : gwP d n n = true ↔ wOk d n := by
  rw [gwP_iff]
  exact ⟨fun ⟨⟨a, b⟩, c⟩ => ⟨by omega, by omega, c⟩, fun ⟨a, b, c⟩ => ⟨⟨by omega, by omega⟩, c⟩⟩
def wC (o : Nat → Nat) (fs fn fr : Nat → Int32) (N q i pl : Nat) (x : Int32) : Prop := i + (o (q + 1) - o q) ≤ N ∧ (∀ j, j < o (q + 1) - o q → fs (o q + j) = fr (i + j)) ∧ ∃ j, j < o (q + 1) - o q + 1 ∧ pl = i + j ∧ x = fn (o q + q + j)
def wT (o : Nat → Nat) (fs fn fr : Nat → Int32) (N p i pl : Nat) (x : Int32) : Prop := ∃ q i', (q < p ∨ (q = p ∧ i' < i)) ∧ wC o fs fn fr N q i' pl x
theorem wT_S {o : Nat → Nat} {fs fn fr : Nat → Int32} {N p i pl : Nat} {x : Int32} : wT o fs fn fr N p (i + 1) pl x ↔ wT o fs fn fr N p i pl x ∨ wC o fs fn fr N p i pl x := by
  constructor
  · rintro ⟨q, i', h1, h2⟩
    rcases h1 with h1 | ⟨rfl, h1⟩
    · exact Or.inl ⟨q, i', Or.inl h1, h2⟩
    · rcases Nat.lt_or_ge i' i with z | z
      · exact Or.inl ⟨q, i', Or.inr ⟨rfl, z⟩, h2⟩
      · obtain rfl : i' = i := by omega
        exact Or.inr h2
  · rintro (⟨q, i', h1, h2⟩ | h)
    · exact ⟨q, i', h1.imp id (fun ⟨a, b⟩ => ⟨a, by omega⟩), h2⟩
    · exact ⟨p, i, Or.inr ⟨rfl, by omega⟩, h⟩
theorem wT_y {o : Nat → Nat} {fs fn fr v : Nat → Int32} {N p i : Nat} (h : vMax (wT o fs fn fr N p i) N v) (hN : i + (o (p + 1) - o p) ≤ N) (hm : ∀ j, j < o (p + 1) - o p → fs (o p + j) = fr (i + j)) (hnn : ∀ j, j < o (p + 1) - o p + 1 → 0 ≤ fn (o p + p + j)) : vMax (wT o fs fn fr N p (i + 1)) N (rzB v (fun j => fn (o p + p + j)) i (o (p + 1) - o p + 1)) := by
  refine vMax_ext (rz_max h _ hnn) (fun pl x _ => ?_)
  rw [wT_S]
  exact or_congr Iff.rfl ⟨fun z => z.2.2, fun z => ⟨hN, hm, z⟩⟩
theorem wT_n {o : Nat → Nat} {fs fn fr v : Nat → Int32} {N p i : Nat} (h : vMax (wT o fs fn fr N p i) N v) (hm : ¬ ∀ j, j < o (p + 1) - o p → fs (o p + j) = fr (i + j)) : vMax (wT o fs fn fr N p (i + 1)) N v := by
  refine vMax_ext h (fun pl x _ => ?_)
  rw [wT_S]
  exact ⟨fun z => z.elim id (fun y => absurd y.2.1 hm), Or.inl⟩
theorem wT_e {o : Nat → Nat} {fs fn fr v : Nat → Int32} {N p i : Nat} (h : vMax (wT o fs fn fr N p i) N v) (hi : N < i + (o (p + 1) - o p)) : vMax (wT o fs fn fr N (p + 1) 0) N v := by
  refine vMax_ext h (fun pl x _ => ⟨?_, ?_⟩)
  · rintro ⟨q, i', h1, h2⟩
    rcases h1 with h1 | ⟨h1, h3⟩
    · rcases Nat.lt_or_ge q p with z | z
      · exact ⟨q, i', Or.inl z, h2⟩
      · obtain rfl : q = p := by omega
        have := h2.1
        exact ⟨q, i', Or.inr ⟨rfl, by omega⟩, h2⟩
    · omega
  · rintro ⟨q, i', h1, h2⟩
    rcases h1 with h1 | ⟨h1, h3⟩
    · exact ⟨q, i', Or.inl (by omega), h2⟩
    · exact ⟨q, i', Or.inl (by omega), h2⟩
theorem wT_0 {o : Nat → Nat} {fs fn fr : Nat → Int32} {N pl : Nat} {x : Int32} : ¬ wT o fs fn fr N 0 0 pl x := by
  rintro ⟨q, i', h1, -⟩
  omega
def cuW (lf rt n : Nat) (mb : Nat → Bool) (j : Nat) : Bool := mb j && decide (lf ≤ j) && decide (j + rt ≤ n)
def mbF (nx e9 : Nat) (fp : Nat → Int64) (v : Nat → Int32) (j : Nat) : Bool := if e9 < nx then decide (((fp e9 >>> ((nI j).toInt64 &&& 63)) &&& 1) = 1) else decide ((v (j + 1) - v (j + 1) / 2 * 2).toInt = 1)
theorem mb_b {nx e9 : Nat} {fp : Nat → Int64} {v : Nat → Int32} {j : Nat} (h : e9 < nx) : mbF nx e9 fp v j = decide (((fp e9 >>> ((nI j).toInt64 &&& 63)) &&& 1) = 1) := by simp [mbF, h]
theorem mb_o {nx e9 : Nat} {fp : Nat → Int64} {v : Nat → Int32} {j : Nat} (h : nx ≤ e9) : mbF nx e9 fp v j = decide ((v (j + 1) - v (j + 1) / 2 * 2).toInt = 1) := by simp [mbF, show ¬ e9 < nx by omega]
theorem cw_y {q : Nat → Bool} {k : Nat} (h : q k = true) : cutN q k ||| (1 <<< ((nI k).toInt64 &&& 63)) = cutN q (k + 1) := by simp [cutN, h]
theorem cw_n {q : Nat → Bool} {k : Nat} (h : q k = false) : cutN q k = cutN q (k + 1) := by simp [cutN, h]
theorem cu_t {lf rt n j : Nat} {mb : Nat → Bool} (h1 : mb j = true) (h2 : lf ≤ j) (h3 : j + rt ≤ n) : cuW lf rt n mb j = true := by simp [cuW, h1, h2, h3]
theorem cu_f1 {lf rt n j : Nat} {mb : Nat → Bool} (h1 : mb j = false) : cuW lf rt n mb j = false := by simp [cuW, h1]
theorem cu_f2 {lf rt n j : Nat} {mb : Nat → Bool} (h2 : j < lf) : cuW lf rt n mb j = false := by simp [cuW, Nat.not_le.mpr h2]
theorem cu_f3 {lf rt n j : Nat} {mb : Nat → Bool} (h3 : ¬ j + rt ≤ n) : cuW lf rt n mb j = false := by simp [cuW, h3]
theorem cw_end {lf rt n : Nat} {mb : Nat → Bool} (hr : 1 ≤ rt) (hn : n ≤ 64) : cutN (cuW lf rt n mb) n = cutN (cuW lf rt n mb) 64 := (cutN_more hn (fun j h1 _ => cu_f3 (by omega))).symm
theorem cw_1 {lf rt n : Nat} {mb : Nat → Bool} (hl : 1 ≤ lf) : 0 = cutN (cuW lf rt n mb) 1 := cw_n (q := cuW lf rt n mb) (k := 0) (cu_f2 (by omega))
theorem row_S {f h0 : Nat → Int32} {n : Nat} {v : Int32} (h : ∀ j, j < n → f (j + 1) = h0 j) (hv : v = h0 n) : ∀ j, j < n + 1 → upd f (n + 1) v (j + 1) = h0 j := by
  refine lt_S (fun j hj => ?_) ?_
  · rw [upd_ne (by omega)]
    exact h j hj
  · rw [upd_self]
    exact hv
theorem row_end {f d : Nat → Int32} {n : Nat} (h : ∀ j, j < n → f (j + 1) = d j) : ∀ j, j < n + 2 → upd (upd f 0 46) (n + 1) 46 j = wrow d n j := by
  intro j hj
  by_cases h1 : j = n + 1
  · subst h1
    rw [upd_self]
    simp [wrow, show ¬ n + 1 ≤ n by omega]
  · rw [upd_ne h1]
    by_cases h0 : j = 0
    · subst h0
      rw [upd_self]
      rfl
    · rw [upd_ne h0]
      have := h (j - 1) (by omega)
      rw [show j - 1 + 1 = j by omega] at this
      rw [this]
      simp [wrow, h0, show j ≤ n by omega]
