/-! the number of bits set, and the JDK's way to count them -/
def pb_c : Nat → Nat → Nat
  | 0, _ => 0
  | n + 1, x => x % 2 + pb_c n (x / 2)
def pb_mk (b : Nat) : Nat → Nat
  | 0 => 0
  | n + 1 => 256 * pb_mk b n + b
def pb_by (f : Nat → Nat) : Nat → Nat → Nat
  | 0, _ => 0
  | n + 1, x => 256 * pb_by f n (x / 256) + f (x % 256)
def pb_a (l : Nat) : Nat := l - ((l / 2) &&& 85)
def pb_b (l : Nat) : Nat := (l &&& 51) + ((l / 4) &&& 51)
def pb_d (l : Nat) : Nat := (l + l / 16) &&& 15
def pb_ok : Nat → Nat → Prop
  | 0, _ => True
  | n + 1, x => (x % 16 ≤ 4 ∧ x / 16 % 16 ≤ 4) ∧ pb_ok n (x / 256)
theorem pb_and (a c : Nat) {b d : Nat} (hb : b < 256) (hd : d < 256) : (256 * a + b) &&& (256 * c + d) = 256 * (a &&& c) + (b &&& d) := by
  have h1 : b &&& d < 2 ^ 8 := Nat.and_lt_two_pow _ hd
  apply Nat.eq_of_testBit_eq
  intro i
  rw [show (256 : Nat) = 2 ^ 8 from rfl, Nat.testBit_and, Nat.testBit_two_pow_mul_add a hb, Nat.testBit_two_pow_mul_add c hd, Nat.testBit_two_pow_mul_add _ h1]
  split <;> simp [Nat.testBit_and]
theorem pb_e1 : ∀ r, r < 2 → ∀ l, l < 256 → ((r * 128 + l / 2) &&& 85) = ((l / 2) &&& 85) ∧ ((l / 2) &&& 85) ≤ l ∧ r * 128 + l / 2 < 256 := by decide +kernel
theorem pb_e2 : ∀ r, r < 4 → ∀ l, l < 256 → ((r * 64 + l / 4) &&& 51) = ((l / 4) &&& 51) := by decide +kernel
theorem pb_e2b : ∀ r, r < 4 → ∀ l, l < 256 → r * 64 + l / 4 < 256 := by omega
theorem pb_e3 : ∀ r, r < 5 → ∀ l, l < 256 → l % 16 ≤ 4 → l / 16 ≤ 4 → ((16 * r + (l + l / 16)) &&& 15) = ((l + l / 16) &&& 15) := by decide +kernel
theorem pb_e4 : ∀ l, l < 256 → pb_a l < 256 ∧ pb_b (pb_a l) < 256 ∧ pb_b (pb_a l) % 16 ≤ 4 ∧ pb_b (pb_a l) / 16 ≤ 4 ∧ pb_d (pb_b (pb_a l)) = pb_c 8 l := by decide +kernel
theorem pb_A : ∀ n x, x < 256 ^ n → x - ((x / 2) &&& pb_mk 85 n) = pb_by pb_a n x := by
  intro n
  induction n with
  | zero => intro x hx; simp at hx; subst hx; rfl
  | succ n ih =>
    intro x hx
    have hd : x = 256 * (x / 256) + x % 256 := (Nat.div_add_mod x 256).symm
    have hl : x % 256 < 256 := Nat.mod_lt _ (by decide)
    have hh : x / 256 < 256 ^ n := by rw [Nat.pow_succ] at hx; omega
    generalize hH : x / 256 = h at *
    generalize hL : x % 256 = l at *
    have h2 : x / 2 = 256 * (h / 2) + (h % 2 * 128 + l / 2) := by omega
    obtain ⟨e1, e2, e3⟩ := pb_e1 (h % 2) (Nat.mod_lt _ (by decide)) l hl
    have i1 := ih h hh
    have i2 : (h / 2) &&& pb_mk 85 n ≤ h / 2 := Nat.and_le_left
    show x - ((x / 2) &&& (256 * pb_mk 85 n + 85)) = 256 * pb_by pb_a n (x / 256) + pb_a (x % 256)
    rw [h2, pb_and _ _ e3 (by decide), e1, hH, hL, ← i1, pb_a]
    omega
theorem pb_B : ∀ n x, x < 256 ^ n → (x &&& pb_mk 51 n) + ((x / 4) &&& pb_mk 51 n) = pb_by pb_b n x := by
  intro n
  induction n with
  | zero => intro x hx; simp at hx; subst hx; rfl
  | succ n ih =>
    intro x hx
    have hd : x = 256 * (x / 256) + x % 256 := (Nat.div_add_mod x 256).symm
    have hl : x % 256 < 256 := Nat.mod_lt _ (by decide)
    have hh : x / 256 < 256 ^ n := by rw [Nat.pow_succ] at hx; omega
    generalize hH : x / 256 = h at *
    generalize hL : x % 256 = l at *
    have h2 : x / 4 = 256 * (h / 4) + (h % 4 * 64 + l / 4) := by omega
    have e1 := pb_e2 (h % 4) (Nat.mod_lt _ (by decide)) l hl
    have e3 := pb_e2b (h % 4) (Nat.mod_lt _ (by decide)) l hl
    have i1 := ih h hh
    show (x &&& (256 * pb_mk 51 n + 51)) + ((x / 4) &&& (256 * pb_mk 51 n + 51)) = 256 * pb_by pb_b n (x / 256) + pb_b (x % 256)
    rw [h2, pb_and _ _ e3 (by decide), e1, hH, hL, ← i1, pb_b]
    rw [hd, pb_and _ _ hl (by decide)]
    omega
theorem pb_C : ∀ n x, x < 256 ^ n → pb_ok n x → ((x + x / 16) &&& pb_mk 15 n) = pb_by pb_d n x := by
  intro n
  induction n with
  | zero => intro x hx _; simp at hx; subst hx; rfl
  | succ n ih =>
    intro x hx ho
    have hd : x = 256 * (x / 256) + x % 256 := (Nat.div_add_mod x 256).symm
    have hl : x % 256 < 256 := Nat.mod_lt _ (by decide)
    have hh : x / 256 < 256 ^ n := by rw [Nat.pow_succ] at hx; omega
    obtain ⟨⟨o1, o2⟩, o3⟩ := ho
    have o4 : x / 256 % 16 ≤ 4 := by
      cases n with
      | zero => simp at hh; omega
      | succ n => exact o3.1.1
    have o5 : x % 256 % 16 ≤ 4 := by omega
    have o6 : x % 256 / 16 ≤ 4 := by omega
    have i1 := ih _ hh o3
    generalize hH : x / 256 = h at *
    generalize hL : x % 256 = l at *
    have h2 : x + x / 16 = 256 * (h + h / 16) + (16 * (h % 16) + (l + l / 16)) := by omega
    have e1 := pb_e3 (h % 16) (by omega) l hl o5 o6
    show ((x + x / 16) &&& (256 * pb_mk 15 n + 15)) = 256 * pb_by pb_d n (x / 256) + pb_d (x % 256)
    rw [h2, pb_and _ _ (by omega) (by decide), e1, hH, hL, ← i1, pb_d]
theorem pb_by_lt {f : Nat → Nat} (hf : ∀ l, l < 256 → f l < 256) : ∀ n x, pb_by f n x < 256 ^ n := by
  intro n
  induction n with
  | zero => intro x; exact Nat.lt_of_lt_of_eq Nat.zero_lt_one rfl
  | succ n ih =>
    intro x
    have h1 := ih (x / 256)
    have h2 := hf (x % 256) (Nat.mod_lt _ (by decide))
    rw [Nat.pow_succ]
    show 256 * pb_by f n (x / 256) + f (x % 256) < 256 ^ n * 256
    omega
theorem pb_by_by {f g : Nat → Nat} (hf : ∀ l, l < 256 → f l < 256) : ∀ n x, pb_by g n (pb_by f n x) = pb_by (fun l => g (f l)) n x := by
  intro n
  induction n with
  | zero => intro x; rfl
  | succ n ih =>
    intro x
    have h2 := hf (x % 256) (Nat.mod_lt _ (by decide))
    show 256 * pb_by g n ((256 * pb_by f n (x / 256) + f (x % 256)) / 256) + g ((256 * pb_by f n (x / 256) + f (x % 256)) % 256) = 256 * pb_by (fun l => g (f l)) n (x / 256) + g (f (x % 256))
    rw [show (256 * pb_by f n (x / 256) + f (x % 256)) / 256 = pb_by f n (x / 256) by omega, show (256 * pb_by f n (x / 256) + f (x % 256)) % 256 = f (x % 256) by omega, ih]
theorem pb_by_ok {f : Nat → Nat} (hf : ∀ l, l < 256 → f l < 256 ∧ f l % 16 ≤ 4 ∧ f l / 16 ≤ 4) : ∀ n x, pb_ok n (pb_by f n x) := by
  intro n
  induction n with
  | zero => intro x; trivial
  | succ n ih =>
    intro x
    obtain ⟨h1, h2, h3⟩ := hf (x % 256) (Nat.mod_lt _ (by decide))
    have e : (256 * pb_by f n (x / 256) + f (x % 256)) / 256 = pb_by f n (x / 256) := by omega
    refine ⟨⟨?_, ?_⟩, ?_⟩
    · show (256 * pb_by f n (x / 256) + f (x % 256)) % 16 ≤ 4
      omega
    · show (256 * pb_by f n (x / 256) + f (x % 256)) / 16 % 16 ≤ 4
      omega
    · show pb_ok n ((256 * pb_by f n (x / 256) + f (x % 256)) / 256)
      rw [e]; exact ih _
theorem pb_by_congr {f g : Nat → Nat} (h : ∀ l, l < 256 → f l = g l) : ∀ n x, pb_by f n x = pb_by g n x := by
  intro n
  induction n with
  | zero => intro x; rfl
  | succ n ih =>
    intro x
    show 256 * pb_by f n (x / 256) + f (x % 256) = 256 * pb_by g n (x / 256) + g (x % 256)
    rw [ih, h _ (Nat.mod_lt _ (by decide))]
/-- the three first steps, over n bytes: each byte comes to hold the number of its bits -/
theorem pb_steps (n x : Nat) (hx : x < 256 ^ n) (y1 y2 y3 : Nat) (h1 : y1 = x - ((x / 2) &&& pb_mk 85 n)) (h2 : y2 = (y1 &&& pb_mk 51 n) + ((y1 / 4) &&& pb_mk 51 n)) (h3 : y3 = ((y2 + y2 / 16) &&& pb_mk 15 n)) : y3 = pb_by (pb_c 8) n x := by
  rw [pb_A n x hx] at h1
  have k1 : ∀ l, l < 256 → pb_a l < 256 := fun l h => (pb_e4 l h).1
  have g1 : y1 < 256 ^ n := by rw [h1]; exact pb_by_lt k1 n x
  rw [pb_B n y1 g1, h1, pb_by_by k1] at h2
  have g2 : y2 < 256 ^ n := by rw [h2]; exact pb_by_lt (fun l h => (pb_e4 l h).2.1) n x
  have g3 : pb_ok n y2 := by rw [h2]; exact pb_by_ok (fun l h => ⟨(pb_e4 l h).2.1, (pb_e4 l h).2.2.1, (pb_e4 l h).2.2.2.1⟩) n x
  rw [pb_C n y2 g2 g3, h2, pb_by_by (f := fun l => pb_b (pb_a l)) (fun l h => (pb_e4 l h).2.1)] at h3
  rw [h3]
  exact pb_by_congr (fun l h => (pb_e4 l h).2.2.2.2) n x
theorem pb_c_le : ∀ n x, pb_c n x ≤ n := by
  intro n
  induction n with
  | zero => intro x; exact Nat.le_refl 0
  | succ n ih => intro x; have := ih (x / 2); show x % 2 + pb_c n (x / 2) ≤ n + 1; omega
theorem pb_c_add : ∀ a b x, pb_c (a + b) x = pb_c a x + pb_c b (x / 2 ^ a) := by
  intro a
  induction a with
  | zero => intro b x; simp [pb_c]
  | succ a ih =>
    intro b x
    rw [show a + 1 + b = (a + b) + 1 by omega]
    show x % 2 + pb_c (a + b) (x / 2) = (x % 2 + pb_c a (x / 2)) + pb_c b (x / 2 ^ (a + 1))
    rw [ih b (x / 2), Nat.div_div_eq_div_mul, show 2 * 2 ^ a = 2 ^ (a + 1) by rw [Nat.pow_succ]; omega]
    omega
theorem pb_c_mod : ∀ n x, pb_c n (x % 2 ^ n) = pb_c n x := by
  intro n
  induction n with
  | zero => intro x; rfl
  | succ n ih =>
    intro x
    show x % 2 ^ (n + 1) % 2 + pb_c n (x % 2 ^ (n + 1) / 2) = x % 2 + pb_c n (x / 2)
    have e1 : x % 2 ^ (n + 1) % 2 = x % 2 := by rw [Nat.pow_succ, Nat.mul_comm]; exact Nat.mod_mul_right_mod x 2 (2 ^ n)
    have e2 : x % 2 ^ (n + 1) / 2 = x / 2 % 2 ^ n := by rw [Nat.pow_succ, Nat.mul_comm]; exact Nat.mod_mul_right_div_self x 2 (2 ^ n)
    rw [e1, e2, ih]
/-- the last steps: the bytes are added up -/
theorem pb_fold (x z1 z2 z3 : Nat) (h1 : z1 = pb_by (pb_c 8) 8 x + pb_by (pb_c 8) 8 x / 256) (h2 : z2 = z1 + z1 / 65536) (h3 : z3 = z2 + z2 / 4294967296) : z3 % 128 = pb_c 64 x ∧ z3 < 18446744073709551616 ∧ z2 < 18446744073709551616 ∧ z1 < 18446744073709551616 := by
  have e : pb_c 64 x = pb_c 8 (x % 256) + (pb_c 8 (x / 256 % 256) + (pb_c 8 (x / 256 / 256 % 256) + (pb_c 8 (x / 256 / 256 / 256 % 256) + (pb_c 8 (x / 256 / 256 / 256 / 256 % 256) + (pb_c 8 (x / 256 / 256 / 256 / 256 / 256 % 256) + (pb_c 8 (x / 256 / 256 / 256 / 256 / 256 / 256 % 256) + pb_c 8 (x / 256 / 256 / 256 / 256 / 256 / 256 / 256 % 256))))))) := by
    rw [show (256 : Nat) = 2 ^ 8 from rfl]
    simp only [pb_c_mod 8]
    rw [show (64 : Nat) = 8 + (8 + (8 + (8 + (8 + (8 + (8 + 8)))))) from rfl]
    simp only [pb_c_add 8]
  have d : pb_by (pb_c 8) 8 x = 256 * (256 * (256 * (256 * (256 * (256 * (256 * (256 * 0 + pb_c 8 (x / 256 / 256 / 256 / 256 / 256 / 256 / 256 % 256)) + pb_c 8 (x / 256 / 256 / 256 / 256 / 256 / 256 % 256)) + pb_c 8 (x / 256 / 256 / 256 / 256 / 256 % 256)) + pb_c 8 (x / 256 / 256 / 256 / 256 % 256)) + pb_c 8 (x / 256 / 256 / 256 % 256)) + pb_c 8 (x / 256 / 256 % 256)) + pb_c 8 (x / 256 % 256)) + pb_c 8 (x % 256) := rfl
  rw [e]
  rw [d] at h1
  clear d e
  have b0 := pb_c_le 8 (x % 256)
  have b1 := pb_c_le 8 (x / 256 % 256)
  have b2 := pb_c_le 8 (x / 256 / 256 % 256)
  have b3 := pb_c_le 8 (x / 256 / 256 / 256 % 256)
  have b4 := pb_c_le 8 (x / 256 / 256 / 256 / 256 % 256)
  have b5 := pb_c_le 8 (x / 256 / 256 / 256 / 256 / 256 % 256)
  have b6 := pb_c_le 8 (x / 256 / 256 / 256 / 256 / 256 / 256 % 256)
  have b7 := pb_c_le 8 (x / 256 / 256 / 256 / 256 / 256 / 256 / 256 % 256)
  generalize pb_c 8 (x % 256) = c0 at *
  generalize pb_c 8 (x / 256 % 256) = c1 at *
  generalize pb_c 8 (x / 256 / 256 % 256) = c2 at *
  generalize pb_c 8 (x / 256 / 256 / 256 % 256) = c3 at *
  generalize pb_c 8 (x / 256 / 256 / 256 / 256 % 256) = c4 at *
  generalize pb_c 8 (x / 256 / 256 / 256 / 256 / 256 % 256) = c5 at *
  generalize pb_c 8 (x / 256 / 256 / 256 / 256 / 256 / 256 % 256) = c6 at *
  generalize pb_c 8 (x / 256 / 256 / 256 / 256 / 256 / 256 / 256 % 256) = c7 at *
  have f1 : z1 = 72057594037927936 * c7 + 281474976710656 * (c6 + c7) + 1099511627776 * (c5 + c6) + 4294967296 * (c4 + c5) + 16777216 * (c3 + c4) + 65536 * (c2 + c3) + 256 * (c1 + c2) + (c0 + c1) := by omega
  have f2 : z2 = 72057594037927936 * c7 + 281474976710656 * (c6 + c7) + 1099511627776 * (c5 + c6 + c7) + 4294967296 * (c4 + c5 + c6 + c7) + 16777216 * (c3 + c4 + c5 + c6) + 65536 * (c2 + c3 + c4 + c5) + 256 * (c1 + c2 + c3 + c4) + (c0 + c1 + c2 + c3) := by omega
  clear h1 h2
  have f3 : z2 / 4294967296 = 16777216 * c7 + 65536 * (c6 + c7) + 256 * (c5 + c6 + c7) + (c4 + c5 + c6 + c7) := by clear f1 h3; omega
  rw [f3] at h3
  have f5 : z3 = 256 * (281474976710656 * c7 + 1099511627776 * (c6 + c7) + 4294967296 * (c5 + c6 + c7) + 16777216 * (c4 + c5 + c6 + c7) + 65536 * (c3 + c4 + c5 + c6 + c7) + 256 * (c2 + c3 + c4 + c5 + c6 + c7) + (c1 + c2 + c3 + c4 + c5 + c6 + c7)) + (c0 + (c1 + (c2 + (c3 + (c4 + (c5 + (c6 + c7))))))) := by clear f1 f3; omega
  refine ⟨?_, ?_, ?_, ?_⟩
  · generalize 281474976710656 * c7 + 1099511627776 * (c6 + c7) + 4294967296 * (c5 + c6 + c7) + 16777216 * (c4 + c5 + c6 + c7) + 65536 * (c3 + c4 + c5 + c6 + c7) + 256 * (c2 + c3 + c4 + c5 + c6 + c7) + (c1 + c2 + c3 + c4 + c5 + c6 + c7) = K at f5
    clear f1 f2 f3 h3
    omega
  · clear f1 f2 f3 h3
    omega
  · clear f1 f3 f5 h3
    omega
  · clear f2 f3 f5 h3
    omega
