/-! counting -/
def cn (b : Nat → Bool) : Nat → Nat
  | 0 => 0
  | k + 1 => cn b k + (b k).toNat
theorem cn_s (b : Nat → Bool) (k : Nat) : cn b (k + 1) = cn b k + (b k).toNat := rfl
theorem cn_t {b : Nat → Bool} {k : Nat} (h : b k = true) : cn b (k + 1) = cn b k + 1 := by rw [cn_s, h]; rfl
theorem cn_f {b : Nat → Bool} {k : Nat} (h : b k = false) : cn b (k + 1) = cn b k := by rw [cn_s, h]; rfl
theorem cn_le (b : Nat → Bool) : ∀ k, cn b k ≤ k := by
  intro k
  induction k with
  | zero => exact Nat.le_refl 0
  | succ k ih => rw [cn_s]; have : (b k).toNat ≤ 1 := Bool.toNat_le (b k); omega
theorem cn_congr {b b' : Nat → Bool} : ∀ {k : Nat}, (∀ i, i < k → b i = b' i) → cn b k = cn b' k := by
  intro k
  induction k with
  | zero => intro _; rfl
  | succ k ih => intro h; rw [cn_s, cn_s, ih (fun i hi => h i (by omega)), h k (by omega)]
theorem cn_mono (b : Nat → Bool) {i j : Nat} (h : i ≤ j) : cn b i ≤ cn b j := by
  induction j with
  | zero => rw [show i = 0 by omega]; exact Nat.le_refl _
  | succ j ih =>
    rcases Nat.lt_or_ge j i with q | q
    · rw [show i = j + 1 by omega]; exact Nat.le_refl _
    · have := ih q; rw [cn_s]; omega
theorem cn_gap (b : Nat → Bool) {i j : Nat} (h : i ≤ j) : cn b j ≤ cn b i + (j - i) := by
  induction j with
  | zero => rw [show i = 0 by omega]; omega
  | succ j ih =>
    rcases Nat.lt_or_ge j i with q | q
    · rw [show i = j + 1 by omega]; omega
    · have := ih q; rw [cn_s]; have : (b j).toNat ≤ 1 := Bool.toNat_le (b j); omega
theorem cn_0 {b : Nat → Bool} : ∀ {k : Nat}, (∀ i, i < k → b i = false) → cn b k = 0 := by
  intro k
  induction k with
  | zero => intro _; rfl
  | succ k ih => intro h; rw [cn_f (h k (by omega)), ih (fun i hi => h i (by omega))]
/-- a new member -/
theorem cn_add {b b' : Nat → Bool} {a : Nat} (ha : b a = false) (h' : ∀ i, b' i = (b i || decide (i = a))) : ∀ {k : Nat}, cn b' k = cn b k + (if a < k then 1 else 0) := by
  intro k
  induction k with
  | zero => rfl
  | succ k ih =>
    rw [cn_s, cn_s, ih, h' k]
    by_cases hk : k = a
    · subst hk
      simp [ha]
    · by_cases h2 : a < k
      · simp [hk, h2, show a < k + 1 by omega]
        omega
      · simp [hk, h2, show ¬ a < k + 1 by omega]
theorem cn_lt {b : Nat → Bool} {a k : Nat} (ha : a < k) (h : b a = false) : cn b k < k := by
  have h1 := cn_add (b := b) (b' := fun i => b i || decide (i = a)) h (fun _ => rfl) (k := k)
  have h2 := cn_le (fun i => b i || decide (i = a)) k
  rw [if_pos ha] at h1
  omega
theorem cn_lt2 {b : Nat → Bool} {a0 a k : Nat} (h0 : a0 < k) (hb0 : b a0 = false) (ha : a < k) (h : b a = false) (hne : a ≠ a0) : cn b k + 1 < k := by
  have h1 := cn_add (b := b) (b' := fun i => b i || decide (i = a)) h (fun _ => rfl) (k := k)
  have h2 := cn_lt (b := fun i => b i || decide (i = a)) h0 (by simp [hb0, Ne.symm hne])
  rw [if_pos ha] at h1
  omega
/-- all of a stretch -/
theorem cn_run {b : Nat → Bool} {i : Nat} : ∀ {d : Nat}, (∀ j, i ≤ j → j < i + d → b j = true) → cn b (i + d) = cn b i + d := by
  intro d
  induction d with
  | zero => intro _; rfl
  | succ d ih =>
    intro h
    rw [show i + (d + 1) = (i + d) + 1 by omega, cn_t (h (i + d) (by omega) (by omega)), ih (fun j h1 h2 => h j h1 (by omega))]
    omega
theorem cn_gap0 {b : Nat → Bool} {i : Nat} : ∀ {d : Nat}, (∀ j, i ≤ j → j < i + d → b j = false) → cn b (i + d) = cn b i := by
  intro d
  induction d with
  | zero => intro _; rfl
  | succ d ih =>
    intro h
    rw [show i + (d + 1) = (i + d) + 1 by omega, cn_f (h (i + d) (by omega) (by omega)), ih (fun j h1 h2 => h j h1 (by omega))]
/-- members have their own numbers -/
theorem cn_inj {b : Nat → Bool} {i j : Nat} (hi : b i = true) (hj : b j = true) (h : cn b i = cn b j) : i = j := by
  rcases Nat.lt_trichotomy i j with q | q | q
  · have h1 := cn_mono b (show i + 1 ≤ j by omega)
    rw [cn_t hi] at h1
    omega
  · exact q
  · have h1 := cn_mono b (show j + 1 ≤ i by omega)
    rw [cn_t hj] at h1
    omega
theorem cn_lt_of {b : Nat → Bool} {i j : Nat} (hi : b i = true) (h : i < j) : cn b i < cn b j := by
  have h1 := cn_mono b (show i + 1 ≤ j by omega)
  rw [cn_t hi] at h1
  omega
/-- each number below the count has its member -/
theorem cn_sur {b : Nat → Bool} : ∀ {k t : Nat}, t < cn b k → ∃ i, i < k ∧ b i = true ∧ cn b i = t := by
  intro k
  induction k with
  | zero => intro t h; exact absurd h (Nat.not_lt_zero t)
  | succ k ih =>
    intro t h
    by_cases hb : b k = true
    · rw [cn_t hb] at h
      by_cases ht : t = cn b k
      · exact ⟨k, by omega, hb, ht.symm⟩
      · obtain ⟨i, h1, h2, h3⟩ := ih (show t < cn b k by omega)
        exact ⟨i, by omega, h2, h3⟩
    · rw [cn_f (by simpa using hb)] at h
      obtain ⟨i, h1, h2, h3⟩ := ih h
      exact ⟨i, by omega, h2, h3⟩
