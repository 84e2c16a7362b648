/-! rows of bits, 64 to a long -/
def bo (w : Nat → Int64) (i : Nat) : Bool := (w (i / 64)).toBitVec.getLsbD (i % 64)
def bput (w : Nat → Int64) (i : Nat) : Nat → Int64 := vp_updL w (i / 64) (w (i / 64) ||| lN (2 ^ (i % 64)))
theorem bo_lN (k j : Nat) (hk : k < 64) : (lN (2 ^ k)).toBitVec.getLsbD j = decide (j = k) := by
  rw [wb_tb, BitVec.getLsbD_ofNat, Nat.testBit_two_pow]
  by_cases h : j = k
  · subst h; simp [hk]
  · simp [h, Ne.symm h]
theorem bo_put (w : Nat → Int64) (i j : Nat) : bo (bput w i) j = (bo w j || decide (j = i)) := by
  unfold bo bput vp_updL
  by_cases h : j / 64 = i / 64
  · rw [if_pos h, Int64.toBitVec_or, BitVec.getLsbD_or, bo_lN _ _ (Nat.mod_lt _ (by decide)), h]
    congr 1
    rw [decide_eq_decide]
    omega
  · rw [if_neg h, show decide (j = i) = false from decide_eq_false (fun q => h (by rw [q])), Bool.or_false]
theorem bo_0 (j : Nat) : bo (fun _ => 0) j = false := by
  unfold bo
  show (0#64).getLsbD _ = false
  simp
theorem bo_c0 {w : Nat → Int64} {i : Nat} (h : w (i / 64) = 0) : bo w i = false := by
  unfold bo
  rw [h]
  show (0#64).getLsbD _ = false
  simp
theorem bo_has (w : Int64) (k : Nat) (hk : k < 64) : ((w.toUInt64 >>> ((nI k).toInt64.toUInt64 &&& Int64.toUInt64 63)).toInt64 &&& 1) = 0 ↔ w.toBitVec.getLsbD k = false := by
  refine ts_bit hk ?_
  rw [wb_cu k hk]
  show (BitVec.ofNat 64 k).toNat = k
  rw [BitVec.toNat_ofNat, Nat.mod_eq_of_lt (by omega)]
theorem bo_bit (k : Nat) (hk : k < 64) : (1 : Int64) <<< ((nI k).toInt64 &&& 63) = lN (2 ^ k) := by
  have h := wb_shl 1 hk
  rw [Nat.one_mul] at h
  exact h
theorem pb_cn : ∀ n x, pb_c n x = cn (fun j => x.testBit j) n := by
  intro n
  induction n with
  | zero => intro x; rfl
  | succ n ih =>
    intro x
    rw [pb_c_add n 1, cn_s, ih, Nat.toNat_testBit]
    show _ + (x / 2 ^ n % 2 + 0) = _
    omega
theorem cn_win {b : Nat → Bool} {f t : Nat} (h : f ≤ t) : ∀ N, cn (fun j => (b j && decide (f ≤ j)) && decide (j < t)) N = cn b (min N t) - cn b (min N f) := by
  intro N
  induction N with
  | zero => simp [cn]
  | succ N ih =>
    rw [cn_s, ih]
    rcases Nat.lt_or_ge N f with h1 | h1
    · rw [show min N t = N by omega, show min N f = N by omega, show min (N + 1) t = N + 1 by omega, show min (N + 1) f = N + 1 by omega]
      simp [show ¬ f ≤ N by omega]
    · rcases Nat.lt_or_ge N t with h2 | h2
      · rw [show min N t = N by omega, show min N f = f by omega, show min (N + 1) t = N + 1 by omega, show min (N + 1) f = f by omega, cn_s]
        have h3 := cn_mono b h1
        simp [h1, h2]
        omega
      · rw [show min N t = t by omega, show min N f = f by omega, show min (N + 1) t = t by omega, show min (N + 1) f = f by omega]
        simp [show ¬ N < t by omega]
theorem cn_shift (b : Nat → Bool) (a : Nat) : ∀ k, cn b (a + k) = cn b a + cn (fun j => b (a + j)) k := by
  intro k
  induction k with
  | zero => rfl
  | succ k ih => rw [show a + (k + 1) = (a + k) + 1 by omega, cn_s, cn_s, ih]; omega
/-- the masked word's bits -/
theorem bo_mask (w : Int64) (f t j : Nat) (hf : f < 64) (ht : t < 64) (hj : j < 64) : ((w &&& ((-1 : Int64) <<< ((nI f).toInt64 &&& 63))) &&& ((1 : Int64) <<< ((nI t).toInt64 &&& 63) - 1)).toBitVec.getLsbD j = ((w.toBitVec.getLsbD j && decide (f ≤ j)) && decide (j < t)) := by
  have e1 : (1 : Int64) <<< ((nI t).toInt64 &&& 63) - 1 = lN (2 ^ t - 1) := by
    rw [bo_bit t ht]
    exact lN_sub (a := 2 ^ t) (b := 1) Nat.one_le_two_pow
  rw [e1, wb_c f hf, Int64.toBitVec_and, Int64.toBitVec_and, BitVec.getLsbD_and, BitVec.getLsbD_and, Int64.toBitVec_shiftLeft, wb_tb, wb_tb, wb_sm f hf]
  have e2 : (-1 : Int64).toBitVec = BitVec.allOnes 64 := by decide
  rw [e2, BitVec.getLsbD_ofNat, Nat.testBit_two_pow_sub_one, BitVec.shiftLeft_eq', BitVec.getLsbD_shiftLeft, BitVec.getLsbD_allOnes, BitVec.toNat_ofNat, Nat.mod_eq_of_lt (show f < 2 ^ 64 by omega)]
  by_cases h : j < f
  · simp [hj, h, show ¬ f ≤ j by omega]
  · simp [hj, h, show f ≤ j by omega, show j - f < 64 by omega]
/-- how many bits are set in from .. to - 1, both in one long -/
theorem bo_between (w : Nat → Int64) (a b : Nat) (hab : a ≤ b) (hq : a / 64 = b / 64) : pb_c 64 (uN ((w (b / 64) &&& ((-1 : Int64) <<< ((nI (a % 64)).toInt64 &&& 63))) &&& ((1 : Int64) <<< ((nI (b % 64)).toInt64 &&& 63) - 1))) = cn (bo w) b - cn (bo w) a := by
  have hf : a % 64 < 64 := Nat.mod_lt _ (by decide)
  have ht : b % 64 < 64 := Nat.mod_lt _ (by decide)
  rw [pb_cn]
  have e1 : cn (fun j => (uN ((w (b / 64) &&& ((-1 : Int64) <<< ((nI (a % 64)).toInt64 &&& 63))) &&& ((1 : Int64) <<< ((nI (b % 64)).toInt64 &&& 63) - 1))).testBit j) 64 = cn (fun j => ((w (b / 64)).toBitVec.getLsbD j && decide (a % 64 ≤ j)) && decide (j < b % 64)) 64 :=
    cn_congr (fun j hj => bo_mask (w (b / 64)) (a % 64) (b % 64) j hf ht hj)
  rw [e1, cn_win (by omega), show min 64 (b % 64) = b % 64 by omega, show min 64 (a % 64) = a % 64 by omega]
  have e2 : ∀ k, k ≤ 64 → cn (bo w) (64 * (b / 64) + k) = cn (bo w) (64 * (b / 64)) + cn (w (b / 64)).toBitVec.getLsbD k := by
    intro k hk
    rw [cn_shift]
    congr 1
    refine cn_congr (fun j hj => ?_)
    unfold bo
    rw [show (64 * (b / 64) + j) / 64 = b / 64 by omega, show (64 * (b / 64) + j) % 64 = j by omega]
  have e3 := e2 (b % 64) (by omega)
  have e4 := e2 (a % 64) (by omega)
  rw [show 64 * (b / 64) + b % 64 = b by omega] at e3
  rw [show 64 * (b / 64) + a % 64 = a by omega] at e4
  omega
