/-! THE PURE SIDE: bytes, drafts, patterns, exceptions, words -/
def isL (b : Int32) : Bool := (decide (97 ≤ b) && decide (b ≤ 122)) || (decide (128 ≤ b) && decide (b ≤ 255))
def isDg (b : Int32) : Bool := decide (48 ≤ b) && decide (b ≤ 57)
def isBy (b : Int32) : Prop := 0 ≤ b.toInt ∧ b.toInt ≤ 255
theorem i32_le {x y : Int32} : x ≤ y ↔ x.toInt ≤ y.toInt := Int32.le_iff_toInt_le
theorem i32_lt {x y : Int32} : x < y ↔ x.toInt < y.toInt := Int32.lt_iff_toInt_lt
theorem i32_eq {x y : Int32} : x = y ↔ x.toInt = y.toInt := Int32.toInt_inj.symm
theorem isL_iff {b : Int32} : isL b = true ↔ (97 ≤ b.toInt ∧ b.toInt ≤ 122) ∨ (128 ≤ b.toInt ∧ b.toInt ≤ 255) := by
  have e1 : (97 : Int32).toInt = 97 := by decide
  have e2 : (122 : Int32).toInt = 122 := by decide
  have e3 : (128 : Int32).toInt = 128 := by decide
  have e4 : (255 : Int32).toInt = 255 := by decide
  simp only [isL, Bool.or_eq_true, Bool.and_eq_true, decide_eq_true_eq, i32_le, e1, e2, e3, e4]
theorem isDg_iff {b : Int32} : isDg b = true ↔ 48 ≤ b.toInt ∧ b.toInt ≤ 57 := by
  have e1 : (48 : Int32).toInt = 48 := by decide
  have e2 : (57 : Int32).toInt = 57 := by decide
  simp only [isDg, Bool.and_eq_true, decide_eq_true_eq, i32_le, e1, e2]
theorem eq46_iff {b : Int32} : b = 46 ↔ b.toInt = 46 := by
  have e1 : (46 : Int32).toInt = 46 := by decide
  rw [i32_eq, e1]
theorem eq45_iff {b : Int32} : b = 45 ↔ b.toInt = 45 := by
  have e1 : (45 : Int32).toInt = 45 := by decide
  rw [i32_eq, e1]
/-! what is read out of a draft as a pattern -/
def pz (d : Nat → Int32) : Nat → Nat
  | 0 => 0
  | k + 1 => if isDg (d k) then pz d k else pz d k + 1
def psg (d : Nat → Int32) : Nat → Nat → Int32
  | 0 => fun _ => 0
  | k + 1 => if isDg (d k) then psg d k else upd (psg d k) (pz d k) (d k)
def pnm (d : Nat → Int32) : Nat → Nat → Int32
  | 0 => fun _ => 0
  | k + 1 => if isDg (d k) then upd (pnm d k) (pz d k) (d k - 48) else pnm d k
def plt (d : Nat → Int32) : Nat → Nat
  | 0 => 0
  | k + 1 => if isL (d k) then plt d k + 1 else plt d k
def pOk (d : Nat → Int32) (n : Nat) : Prop :=
  (∀ k, k < n → isL (d k) = true ∨ isDg (d k) = true ∨ d k = 46) ∧ (∀ k, k + 1 < n → ¬ (isDg (d k) = true ∧ isDg (d (k + 1)) = true)) ∧ 1 ≤ plt d n ∧ plt d n ≤ 63 ∧ ∀ k, k < n → d k = 46 → pz d k = 0 ∨ pz d k + 1 = pz d n
def pN1 (d : Nat → Int32) (n : Nat) : Nat → Int32 := if psg d n 0 = 46 then upd (pnm d n) 0 0 else pnm d n
def pN (d : Nat → Int32) (n : Nat) : Nat → Int32 := if psg d n (pz d n - 1) = 46 then upd (pN1 d n) (pz d n) 0 else pN1 d n
theorem pz_mono {d : Nat → Int32} {k n : Nat} (h : k ≤ n) : pz d k ≤ pz d n := by
  induction n with
  | zero => obtain rfl : k = 0 := by omega
            exact Nat.le_refl _
  | succ n ih =>
    rcases Nat.lt_or_ge n k with q | q
    · obtain rfl : k = n + 1 := by omega
      exact Nat.le_refl _
    · have := ih q
      simp only [pz]
      split <;> omega
theorem pz_le (d : Nat → Int32) (n : Nat) : pz d n ≤ n := by
  induction n with
  | zero => exact Nat.le_refl _
  | succ n ih => simp only [pz]; split <;> omega
theorem upd_self {f : Nat → Int32} {k : Nat} {x : Int32} : upd f k x k = x := by simp [upd]
theorem upd_ne {f : Nat → Int32} {k j : Nat} {x : Int32} (h : j ≠ k) : upd f k x j = f j := by simp [upd, h]
/-- sign pz d k is byte k -/
theorem psg_at {d : Nat → Int32} {k n : Nat} (h : k < n) (hd : isDg (d k) = false) : psg d n (pz d k) = d k := by
  induction n with
  | zero => omega
  | succ n ih =>
    rcases Nat.lt_or_ge k n with q | q
    · simp only [psg]
      split
      · exact ih q
      · have h1 : pz d (k + 1) ≤ pz d n := pz_mono q
        have h2 : pz d (k + 1) = pz d k + 1 := by simp [pz, hd]
        rw [upd_ne (by omega)]
        exact ih q
    · obtain rfl : k = n := by omega
      simp only [psg, hd]
      exact upd_self
/-- every sign is a byte that is no digit -/
theorem psg_of {d : Nat → Int32} {n j : Nat} (h : j < pz d n) : ∃ k, k < n ∧ isDg (d k) = false ∧ pz d k = j := by
  induction n with
  | zero => simp [pz] at h
  | succ n ih =>
    by_cases hd : isDg (d n) = true
    · simp only [pz, hd, if_true] at h
      obtain ⟨k, h1, h2, h3⟩ := ih h
      exact ⟨k, by omega, h2, h3⟩
    · have hd : isDg (d n) = false := by simpa using hd
      simp only [pz, hd] at h
      rcases Nat.lt_or_ge j (pz d n) with q | q
      · obtain ⟨k, h1, h2, h3⟩ := ih q
        exact ⟨k, by omega, h2, h3⟩
      · exact ⟨n, by omega, hd, by simp at h; omega⟩
theorem pnm_above {d : Nat → Int32} {n j : Nat} (h : pz d n < j) : pnm d n j = 0 := by
  induction n with
  | zero => rfl
  | succ n ih =>
    simp only [pnm]
    by_cases hd : isDg (d n) = true
    · simp only [pz, hd, if_true] at h ⊢
      rw [upd_ne (by omega)]
      exact ih h
    · have hd : isDg (d n) = false := by simpa using hd
      simp only [pz, hd] at h ⊢
      simp at h ⊢
      exact ih (by omega)
/-- the number at the last place of what was read -/
theorem pnm_top (d : Nat → Int32) (n : Nat) : pnm d n (pz d n) = if 0 < n ∧ isDg (d (n - 1)) = true then d (n - 1) - 48 else 0 := by
  cases n with
  | zero => simp [pnm]
  | succ n =>
    simp only [pnm, pz]
    by_cases hd : isDg (d n) = true
    · simp [hd, upd_self]
    · have hd : isDg (d n) = false := by simpa using hd
      have h9 := pnm_above (d := d) (n := n) (j := pz d n + 1) (by omega)
      simpa [hd] using h9
theorem pnm_at {d : Nat → Int32} {k n : Nat} (h : k < n) (hd : isDg (d k) = false) : pnm d n (pz d k) = pnm d k (pz d k) := by
  induction n with
  | zero => omega
  | succ n ih =>
    rcases Nat.lt_or_ge k n with q | q
    · simp only [pnm]
      split
      · have h1 : pz d (k + 1) ≤ pz d n := pz_mono q
        have h2 : pz d (k + 1) = pz d k + 1 := by simp [pz, hd]
        rw [upd_ne (by omega)]
        exact ih q
      · exact ih q
    · obtain rfl : k = n := by omega
      simp [pnm, hd]
/-! what is read out of a draft as an exception -/
def xz (d : Nat → Int32) : Nat → Nat
  | 0 => 0
  | k + 1 => if isL (d k) then xz d k + 1 else xz d k
def xsg (d : Nat → Int32) : Nat → Nat → Int32
  | 0 => fun _ => 0
  | k + 1 => if isL (d k) then upd (xsg d k) (xz d k) (d k) else xsg d k
/-- is there a hyphen behind letter j -/
def xhy (d : Nat → Int32) : Nat → Nat → Bool
  | 0 => fun _ => false
  | k + 1 => if isL (d k) then xhy d k else fun j => if j = xz d k then true else xhy d k j
def xOk (d : Nat → Int32) (n : Nat) : Prop :=
  0 < n ∧ (∀ k, k < n → isL (d k) = true ∨ (d k = 45 ∧ 0 < k ∧ k + 1 < n ∧ d (k - 1) ≠ 45)) ∧ 1 ≤ xz d n ∧ xz d n ≤ 63
/-! words -/
def wOk (d : Nat → Int32) (n : Nat) : Prop := 1 ≤ n ∧ n ≤ 63 ∧ ∀ k, k < n → isL (d k) = true
/-- the row of a word: an edge at each end -/
def wrow (d : Nat → Int32) (n : Nat) : Nat → Int32 := fun j => if j = 0 then 46 else if j ≤ n then d (j - 1) else if j = n + 1 then 46 else 0
/-! values: the greatest of what was told -/
def vMax (S : Nat → Int32 → Prop) (N : Nat) (v : Nat → Int32) : Prop := ∀ pl, pl ≤ N → (∀ x, S pl x → x ≤ v pl) ∧ (v pl = 0 ∨ S pl (v pl)) ∧ 0 ≤ v pl
theorem i32_antisymm {x y : Int32} (h1 : x ≤ y) (h2 : y ≤ x) : x = y := by
  rw [i32_le] at h1 h2
  exact i32_eq.mpr (by omega)
theorem vMax_uniq {S T : Nat → Int32 → Prop} {N : Nat} {v w : Nat → Int32} (hv : vMax S N v) (hw : vMax T N w) (h : ∀ pl x, pl ≤ N → (S pl x ↔ T pl x)) : ∀ pl, pl ≤ N → v pl = w pl := by
  intro pl hpl
  obtain ⟨a1, a2, a3⟩ := hv pl hpl
  obtain ⟨b1, b2, b3⟩ := hw pl hpl
  refine i32_antisymm ?_ ?_
  · rcases a2 with z | z
    · rw [z]; exact b3
    · exact b1 _ ((h pl _ hpl).mp z)
  · rcases b2 with z | z
    · rw [z]; exact a3
    · exact a1 _ ((h pl _ hpl).mpr z)
theorem vMax_0 {N : Nat} {S : Nat → Int32 → Prop} (h : ∀ pl x, pl ≤ N → ¬ S pl x) : vMax S N (fun _ => 0) := fun pl hpl => ⟨fun x hx => absurd hx (h pl x hpl), Or.inl rfl, Int32.le_refl _⟩
theorem vMax_raise {S T : Nat → Int32 → Prop} {N : Nat} {v : Nat → Int32} {p : Nat} {x : Int32} (hv : vMax S N v) (h : ∀ pl y, pl ≤ N → (T pl y ↔ S pl y ∨ (pl = p ∧ y = x))) (hx : 0 ≤ x) : vMax T N (if v p < x then upd v p x else v) := by
  intro pl hpl
  obtain ⟨a1, a2, a3⟩ := hv pl hpl
  by_cases hp : pl = p
  · subst hp
    by_cases hlt : v pl < x
    · rw [if_pos hlt, upd_self]
      refine ⟨fun y hy => ?_, Or.inr ((h pl x hpl).mpr (Or.inr ⟨rfl, rfl⟩)), hx⟩
      rcases (h pl y hpl).mp hy with z | ⟨-, rfl⟩
      · have := a1 y z
        rw [i32_le] at this ⊢
        rw [i32_lt] at hlt
        omega
      · exact Int32.le_refl _
    · rw [if_neg hlt]
      refine ⟨fun y hy => ?_, ?_, a3⟩
      · rcases (h pl y hpl).mp hy with z | ⟨-, rfl⟩
        · exact a1 y z
        · rw [i32_lt] at hlt
          rw [i32_le]
          omega
      · rcases a2 with z | z
        · exact Or.inl z
        · exact Or.inr ((h pl _ hpl).mpr (Or.inl z))
  · have hv' : (if v p < x then upd v p x else v) pl = v pl := by
      split
      · exact upd_ne hp
      · rfl
    rw [hv']
    refine ⟨fun y hy => ?_, ?_, a3⟩
    · rcases (h pl y hpl).mp hy with z | ⟨z, -⟩
      · exact a1 y z
      · exact absurd z hp
    · rcases a2 with z | z
      · exact Or.inl z
      · exact Or.inr ((h pl _ hpl).mpr (Or.inl z))
/-! cuts -/
def cutN (q : Nat → Bool) : Nat → Int64
  | 0 => 0
  | k + 1 => if q k then cutN q k ||| (1 <<< ((nI k).toInt64 &&& 63)) else cutN q k
theorem cutN_none {q : Nat → Bool} {k : Nat} (h : ∀ j, j < k → q j = false) : cutN q k = 0 := by
  induction k with
  | zero => rfl
  | succ k ih => simp only [cutN, h k (by omega)]; exact ih (fun j hj => h j (by omega))
theorem cutN_more {q : Nat → Bool} {k n : Nat} (hk : k ≤ n) (h : ∀ j, k ≤ j → j < n → q j = false) : cutN q n = cutN q k := by
  induction n with
  | zero => obtain rfl : k = 0 := by omega
            rfl
  | succ n ih =>
    rcases Nat.lt_or_ge n k with z | z
    · obtain rfl : k = n + 1 := by omega
      rfl
    · simp only [cutN, h n z (by omega)]
      exact ih z (fun j h1 h2 => h j h1 (by omega))
theorem cutN_ext {q r : Nat → Bool} {k : Nat} (h : ∀ j, j < k → q j = r j) : cutN q k = cutN r k := by
  induction k with
  | zero => rfl
  | succ k ih => simp only [cutN, h k (by omega), ih (fun j hj => h j (by omega))]
