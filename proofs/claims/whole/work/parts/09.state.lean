/-! what a state is: the cells of the class, and the words that both sides are told in -/
abbrev cW (cI cL : ClassId) (h0 : Nat) (ad : Nat → Nat) (n B nb tp ob co rd : Nat) (rts offs fnd mem frs : Nat → Int32) (btw snw stw : Nat → Int64) : va_W :=
  [(h0, .inr (1, [.int (nI n), .int (nI B), .int (nI nb), .ref (ad 1), .ref (ad 2), .ref (ad 4), .ref (ad 5), .ref (ad 6), .ref (ad 10), .ref (ad 8), .ref (ad 9), .int (nI tp), .int (nI ob), .int (nI co), .int (nI rd)])),
   (ad 1, .inl (cI, 8, .inl rts)), (ad 2, .inr (0, [.ref (ad 3)])), (ad 3, .inl (cL, n / 64 + 1, .inr (.inl btw))), (ad 4, .inl (cI, nb, .inl offs)), (ad 5, .inl (cI, n, .inl fnd)),
   (ad 6, .inr (0, [.ref (ad 7)])), (ad 7, .inl (cL, n / 64 + 1, .inr (.inl snw))), (ad 8, .inl (cI, n + 1, .inl mem)), (ad 9, .inl (cI, n + 1, .inl frs)),
   (ad 10, .inr (0, [.ref (ad 11)])), (ad 11, .inl (cL, n / 64 + 1, .inr (.inl stw)))]
/-- the cells of the reference -/
abbrev mW (cI cZ : ClassId) (h1 : Nat) (am : Nat → Nat) (th n B tp ob co lv : Nat) (wrd frs bgs fbs rts wnt far : Nat → Int32) : va_W :=
  [(h1, .inr (2, [.int (nI th), .int (nI n), .int (nI B), .int (nI tp), .int (nI ob), .int (nI co), .int (nI lv), .ref (am 1), .ref (am 2), .ref (am 3), .ref (am 4), .ref (am 5), .ref (am 6), .ref (am 7)])),
   (am 1, .inl (cI, 4001, .inl wrd)), (am 2, .inl (cI, 4001, .inl frs)), (am 3, .inl (cZ, 4002, .inl bgs)), (am 4, .inl (cZ, 4002, .inl fbs)), (am 5, .inl (cI, 8, .inl rts)), (am 6, .inl (cI, 4001, .inl wnt)), (am 7, .inl (cI, 4001, .inl far))]
/-- a number from 0 to n - 1 -/
def inR (n : Nat) (x : Int32) : Bool := match nn x with
  | none => false
  | some a => decide (a < n)
theorem inR_neg {n : Nat} {x : Int32} (h : x < 0) : inR n x = false := by unfold inR; rw [nn_neg h]
theorem inR_nat {n a : Nat} (h : a < 2 ^ 31) : inR n (nI a) = decide (a < n) := by unfold inR; rw [nn_nat h]
/-- what stands at a place from 0 to n - 1, else -1 -/
def atR (n : Nat) (f : Nat → Int32) (x : Int32) : Int32 := match nn x with
  | none => -1
  | some a => if a < n then f a else -1
theorem atR_neg {n : Nat} {f : Nat → Int32} {x : Int32} (h : x < 0) : atR n f x = -1 := by unfold atR; rw [nn_neg h]
theorem atR_in {n a : Nat} {f : Nat → Int32} (h : a < 2 ^ 31) (ha : a < n) : atR n f (nI a) = f a := by unfold atR; rw [nn_nat h]; exact if_pos ha
theorem atR_out {n a : Nat} {f : Nat → Int32} (h : a < 2 ^ 31) (ha : ¬ a < n) : atR n f (nI a) = -1 := by unfold atR; rw [nn_nat h]; exact if_neg ha
theorem atR_congr {n : Nat} {f g : Nat → Int32} (h : ∀ a, a < n → f a = g a) (x : Int32) : atR n f x = atR n g x := by
  unfold atR
  split
  · rfl
  · split
    · exact h _ ‹_›
    · rfl
/-- an object begins there -/
def isO (tp : Nat) (st : Nat → Bool) (x : Int32) : Bool := match nn x with
  | none => false
  | some a => decide (1 ≤ a) && (decide (a < tp) && st a)
theorem isO_neg {tp : Nat} {st : Nat → Bool} {x : Int32} (h : x < 0) : isO tp st x = false := by unfold isO; rw [nn_neg h]
theorem isO_nat {tp a : Nat} {st : Nat → Bool} (h : a < 2 ^ 31) : isO tp st (nI a) = (decide (1 ≤ a) && (decide (a < tp) && st a)) := by unfold isO; rw [nn_nat h]
theorem isO_t {tp : Nat} {st : Nat → Bool} {x : Int32} (h : isO tp st x = true) : ∃ a, a < 2 ^ 31 ∧ x = nI a ∧ 1 ≤ a ∧ a < tp ∧ st a = true := by
  rcases xk_sgn x with q | ⟨a, ha, rfl⟩
  · rw [isO_neg q] at h; cases h
  · rw [isO_nat ha] at h
    simp at h
    exact ⟨a, ha, rfl, h.1, h.2.1, h.2.2⟩
/-- 0, or an object begins there -/
def isL (tp : Nat) (st : Nat → Bool) (x : Int32) : Bool := match nn x with
  | none => false
  | some a => decide (a = 0) || (decide (1 ≤ a) && (decide (a < tp) && st a))
theorem isL_neg {tp : Nat} {st : Nat → Bool} {x : Int32} (h : x < 0) : isL tp st x = false := by unfold isL; rw [nn_neg h]
theorem isL_nat {tp a : Nat} {st : Nat → Bool} (h : a < 2 ^ 31) : isL tp st (nI a) = (decide (a = 0) || (decide (1 ≤ a) && (decide (a < tp) && st a))) := by unfold isL; rw [nn_nat h]
theorem isL_0 {tp : Nat} {st : Nat → Bool} : isL tp st (nI 0) = true := by rw [isL_nat (by decide)]; rfl
theorem isL_O {tp : Nat} {st : Nat → Bool} {x : Int32} (h : ¬ x = 0) : isL tp st x = isO tp st x := by
  rcases xk_sgn x with q | ⟨a, ha, rfl⟩
  · rw [isO_neg q, isL_neg q]
  · rw [isO_nat ha, isL_nat ha]
    have : ¬ a = 0 := fun q => h (by rw [q]; rfl)
    simp [this]
theorem isL_t {tp : Nat} {st : Nat → Bool} {x : Int32} (h : isL tp st x = true) : ∃ a, a < 2 ^ 31 ∧ x = nI a ∧ (a = 0 ∨ (1 ≤ a ∧ a < tp ∧ st a = true)) := by
  rcases xk_sgn x with q | ⟨a, ha, rfl⟩
  · rw [isL_neg q] at h; cases h
  · rw [isL_nat ha] at h
    simp at h
    exact ⟨a, ha, rfl, h⟩
def cntA (tp ob co n nb : Nat) (x : Int32) : Int32 := match nn x with
  | some 0 => nI tp
  | some 1 => nI ob
  | some 2 => nI co
  | some 3 => nI n
  | some 4 => nI nb
  | _ => -1
theorem cntA_neg {tp ob co n nb : Nat} {x : Int32} (h : x < 0) : cntA tp ob co n nb x = -1 := by unfold cntA; rw [nn_neg h]
theorem cntA_big {tp ob co n nb a : Nat} (h : a < 2 ^ 31) (h5 : 5 ≤ a) : cntA tp ob co n nb (nI a) = -1 := by
  unfold cntA; rw [nn_nat h]
  match a, h5 with
  | a + 5, _ => rfl
/-- a header's parts -/
def tn (x : Int32) : Nat := x.toNatClampNeg
theorem tn_nI {a : Nat} (h : a < 2 ^ 31) : tn (nI a) = a := nI_clamp h
def rfs (mem : Nat → Int32) (o : Nat) : Nat := tn (mem o) / 16 % 16
def pln (mem : Nat → Int32) (o : Nat) : Nat := tn (mem o) / 256
def siz (mem : Nat → Int32) (o : Nat) : Nat := 1 + tn (mem o) / 16 % 16 + tn (mem o) / 256
/-- a block's size -/
def okB (B : Nat) : Prop := B = 8 ∨ B = 16 ∨ B = 32 ∨ B = 64
theorem okB_div {B i : Nat} (h : okB B) : i / B * B ≤ i ∧ i < i / B * B + B ∧ i / B * B / 64 = i / 64 ∧ 0 < B ∧ B ≤ 64 := by
  rcases h with h | h | h | h <;> subst h <;> omega
/-- the offsets are as the bits say -/
def offOk (B nb : Nat) (offs : Nat → Int32) (b : Nat → Bool) : Prop := ∀ k, k < nb → offs k = nI (cn b (k * B))
