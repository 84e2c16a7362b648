/-! collecting: which words live, and what copying comes to -/
def LW (n : Nat) (mem rt : Nat → Int32) (i : Nat) : Prop := ∃ o, NR mem rt n o ∧ o ≤ i ∧ i < o + siz mem o
theorem lw_tp {n tp : Nat} {mem : Nat → Int32} {st : Nat → Bool} {rt : Nat → Int32} (hok : okS n tp mem st rt) {i : Nat} (h : LW n mem rt i) : 1 ≤ i ∧ i < tp := by
  obtain ⟨o, h1, h2, h3⟩ := h
  obtain ⟨o1, o2, o3⟩ := NR_obj hok _ o h1
  have := hok.fit o1 o2 o3
  omega
theorem lw_obj {n tp : Nat} {mem : Nat → Int32} {st : Nat → Bool} {rt : Nat → Int32} (hok : okS n tp mem st rt) {o j : Nat} (h1 : 1 ≤ o) (h2 : o < tp) (h3 : st o = true) (h4 : o ≤ j) (h5 : j < o + siz mem o) : LW n mem rt j ↔ NR mem rt n o := by
  constructor
  · rintro ⟨o', g1, g2, g3⟩
    obtain ⟨o1, o2, o3⟩ := NR_obj hok _ o' g1
    rw [hok.own1 h1 h2 h3 o1 o2 o3 h4 h5 g2 g3]
    exact g1
  · intro h
    exact ⟨o, h, h4, h5⟩
/-- the bits are those of what lives -/
def okL (n : Nat) (mem rt : Nat → Int32) (b : Nat → Bool) : Prop := ∀ i, i ≤ n → (b i = true ↔ LW n mem rt i)
theorem okL.obj {n tp : Nat} {mem : Nat → Int32} {st : Nat → Bool} {rt : Nat → Int32} {b : Nat → Bool} (hb : okL n mem rt b) (hok : okS n tp mem st rt) {o j : Nat} (h1 : 1 ≤ o) (h2 : o < tp) (h3 : st o = true) (h4 : o ≤ j) (h5 : j < o + siz mem o) : b j = true ↔ NR mem rt n o := by
  have := hok.fit h1 h2 h3
  have := hok.1.2.1
  rw [hb j (by omega)]
  exact lw_obj hok h1 h2 h3 h4 h5
theorem okL.tp {n tp : Nat} {mem : Nat → Int32} {st : Nat → Bool} {rt : Nat → Int32} {b : Nat → Bool} (hb : okL n mem rt b) (hok : okS n tp mem st rt) {i : Nat} (hi : i ≤ n) (h : b i = true) : 1 ≤ i ∧ i < tp := lw_tp hok ((hb i hi).mp h)
theorem okL.zero {n tp : Nat} {mem : Nat → Int32} {st : Nat → Bool} {rt : Nat → Int32} {b : Nat → Bool} (hb : okL n mem rt b) (hok : okS n tp mem st rt) : b 0 = false := by
  cases h : b 0 with
  | false => rfl
  | true => have := hb.tp hok (by omega) h; omega
/-- what a living one leads to lives -/
theorem okL.ref {n tp : Nat} {mem : Nat → Int32} {st : Nat → Bool} {rt : Nat → Int32} {b : Nat → Bool} (hb : okL n mem rt b) (hok : okS n tp mem st rt) {o k : Nat} (h1 : 1 ≤ o) (h2 : o < tp) (h3 : st o = true) (h4 : b o = true) (hk : k < rfs mem o) (h0 : tn (mem (o + 1 + k)) ≠ 0) : 1 ≤ tn (mem (o + 1 + k)) ∧ tn (mem (o + 1 + k)) < tp ∧ st (tn (mem (o + 1 + k))) = true ∧ b (tn (mem (o + 1 + k))) = true := by
  have hl := (hb.obj hok h1 h2 h3 (Nat.le_refl o) (by have := siz_pos mem o; omega)).mp h4
  have hn : NR mem rt n (tn (mem (o + 1 + k))) := NR_n hok (n + 1) _ (Or.inr ⟨o, hl, by omega, k, hk, rfl⟩)
  obtain ⟨a1, a2, a3⟩ := NR_obj hok _ _ hn
  exact ⟨a1, a2, a3, (hb.obj hok a1 a2 a3 (Nat.le_refl _) (by have := siz_pos mem (tn (mem (o + 1 + k))); omega)).mpr hn⟩
theorem okL.root {n tp : Nat} {mem : Nat → Int32} {st : Nat → Bool} {rt : Nat → Int32} {b : Nat → Bool} (hb : okL n mem rt b) (hok : okS n tp mem st rt) {k : Nat} (hk : k < 8) (h0 : tn (rt k) ≠ 0) : 1 ≤ tn (rt k) ∧ tn (rt k) < tp ∧ st (tn (rt k)) = true ∧ b (tn (rt k)) = true := by
  have hn : NR mem rt n (tn (rt k)) := NR_mono (Nat.zero_le n) (⟨by omega, k, hk, rfl⟩ : NR mem rt 0 (tn (rt k)))
  obtain ⟨a1, a2, a3⟩ := NR_obj hok _ _ hn
  exact ⟨a1, a2, a3, (hb.obj hok a1 a2 a3 (Nat.le_refl _) (by have := siz_pos mem (tn (rt k)); omega)).mpr hn⟩
theorem okL.lt {n tp : Nat} {mem : Nat → Int32} {st : Nat → Bool} {rt : Nat → Int32} {b : Nat → Bool} (hb : okL n mem rt b) (hok : okS n tp mem st rt) {i : Nat} (hi : 1 ≤ i) : cn b i < i := cn_lt (a := 0) (by omega) (hb.zero hok)
/-- a word that is a reference -/
def RW (tp : Nat) (mem : Nat → Int32) (st : Nat → Bool) (j : Nat) : Prop := ∃ o, 1 ≤ o ∧ o < tp ∧ st o = true ∧ o < j ∧ j ≤ o + rfs mem o
/-- what is written for a word -/
def TV (tp : Nat) (mem : Nat → Int32) (st b : Nat → Bool) (j : Nat) (v : Int32) : Prop := (RW tp mem st j → v = nI (if tn (mem j) = 0 then 0 else 1 + cn b (tn (mem j)))) ∧ (¬ RW tp mem st j → v = mem j)
theorem RW_in {n tp : Nat} {mem : Nat → Int32} {st : Nat → Bool} {rt : Nat → Int32} (hok : okS n tp mem st rt) {o j : Nat} (h1 : 1 ≤ o) (h2 : o < tp) (h3 : st o = true) (h4 : o ≤ j) (h5 : j < o + siz mem o) : RW tp mem st j ↔ o < j ∧ j ≤ o + rfs mem o := by
  constructor
  · rintro ⟨o', g1, g2, g3, g4, g5⟩
    have : o = o' := hok.own1 h1 h2 h3 g1 g2 g3 h4 h5 (by omega) (by rw [siz_rfs]; omega)
    subst this
    exact ⟨g4, g5⟩
  · rintro ⟨g4, g5⟩
    exact ⟨o, h1, h2, h3, g4, g5⟩
/-- where the copying stands -/
def PH (tp : Nat) (mem : Nat → Int32) (st b : Nat → Bool) (R P i : Nat) : Prop := (R = 0 ∧ P = 0 ∧ (i < tp → st i = true ∨ b i = false)) ∨ ∃ o, 1 ≤ o ∧ o < tp ∧ st o = true ∧ b o = true ∧ o < i ∧ i < o + siz mem o ∧ R = o + 1 + rfs mem o - i ∧ P = pln mem o - (i - (o + 1 + rfs mem o))
def CP (n tp : Nat) (mem : Nat → Int32) (st b : Nat → Bool) (frs : Nat → Int32) (fst : Nat → Bool) (rd ob i : Nat) : Prop :=
  (1 ≤ i ∧ i ≤ tp ∧ rd = cn b i ∧ ob = cn (fun j => b j && st j) i) ∧ (∀ j, j < i → b j = true → TV tp mem st b j (frs (1 + cn b j))) ∧ (∀ j, j ≤ n → (j = 0 ∨ cn b i < j) → frs j = 0) ∧ ∀ j, j ≤ n → (fst j = true ↔ ∃ t, t < i ∧ b t = true ∧ st t = true ∧ 1 + cn b t = j)
theorem ph_next {n tp : Nat} {mem : Nat → Int32} {st : Nat → Bool} {rt : Nat → Int32} {b : Nat → Bool} (hok : okS n tp mem st rt) {o i : Nat} (h1 : 1 ≤ o) (h2 : o < tp) (h3 : st o = true) (h4 : b o = true) (h5 : o ≤ i) (h6 : i < o + siz mem o) : PH tp mem st b (o + 1 + rfs mem o - (i + 1)) (pln mem o - (i + 1 - (o + 1 + rfs mem o))) (i + 1) := by
  by_cases q : i + 1 < o + siz mem o
  · exact Or.inr ⟨o, h1, h2, h3, h4, by omega, q, rfl, rfl⟩
  · have e : i + 1 = o + siz mem o := by omega
    refine Or.inl ⟨?_, ?_, fun h => Or.inl ?_⟩
    · rw [siz_rfs] at e; omega
    · rw [siz_rfs] at e; omega
    · rw [e]; exact hok.next h1 h2 h3 (by omega)
/-- a word that doesn't live is passed over -/
theorem ph_skip {n tp : Nat} {mem : Nat → Int32} {st : Nat → Bool} {rt : Nat → Int32} {b : Nat → Bool} (hok : okS n tp mem st rt) (hb : okL n mem rt b) {R P i : Nat} (h : PH tp mem st b R P i) (h1 : 1 ≤ i) (hi : i < tp) (hbi : b i = false) : PH tp mem st b R P (i + 1) := by
  rcases h with ⟨r0, p0, q⟩ | ⟨o, o1, o2, o3, o4, o5, o6, -⟩
  · refine Or.inl ⟨r0, p0, fun h2 => ?_⟩
    obtain ⟨o, o1, o2, o3, o4⟩ := hok.own i h1 hi
    by_cases q2 : i + 1 < o + siz mem o
    · refine Or.inr ?_
      cases hz : b (i + 1) with
      | false => rfl
      | true =>
        have := (hb.obj hok o1 (by omega) o3 (by omega) q2).mp hz
        rw [(hb.obj hok o1 (by omega) o3 o2 o4).mpr this] at hbi
        cases hbi
    · have e : i + 1 = o + siz mem o := by omega
      refine Or.inl ?_
      rw [e]; exact hok.next o1 (by omega) o3 (by omega)
  · have := (hb.obj hok o1 o2 o3 (by omega) o6).mpr ((hb.obj hok o1 o2 o3 (Nat.le_refl o) (by have := siz_pos mem o; omega)).mp o4)
    rw [this] at hbi
    cases hbi
theorem cp_skip {n tp : Nat} {mem : Nat → Int32} {st b : Nat → Bool} {frs : Nat → Int32} {fst : Nat → Bool} {rd ob i : Nat} (h : CP n tp mem st b frs fst rd ob i) (hi : i < tp) (hbi : b i = false) : CP n tp mem st b frs fst rd ob (i + 1) := by
  obtain ⟨⟨a1, a2, a3, a4⟩, h2, h3, h4⟩ := h
  refine ⟨⟨by omega, by omega, by rw [cn_f hbi]; exact a3, by rw [cn_f (by simp [hbi])]; exact a4⟩, fun j hj hbj => ?_, fun j hj q => h3 j hj (by rw [cn_f hbi] at q; exact q), fun j hj => ?_⟩
  · by_cases q : j = i
    · subst q; rw [hbi] at hbj; cases hbj
    · exact h2 j (by omega) hbj
  · rw [h4 j hj]
    constructor
    · rintro ⟨t, t1, t2⟩; exact ⟨t, by omega, t2⟩
    · rintro ⟨t, t1, t2, t3⟩
      refine ⟨t, ?_, t2, t3⟩
      by_cases q : t = i
      · subst q; rw [hbi] at t2; cases t2
      · omega
theorem cp_store {n tp : Nat} {mem : Nat → Int32} {st b : Nat → Bool} {frs : Nat → Int32} {fst fst' : Nat → Bool} {rd ob ob' i : Nat} {v : Int32} (h : CP n tp mem st b frs fst rd ob i) (hi : i < tp) (hbi : b i = true) (hv : TV tp mem st b i v) (hfs : ∀ j, j ≤ n → (fst' j = true ↔ fst j = true ∨ (st i = true ∧ 1 + cn b i = j))) (hob : ob' = ob + (st i).toNat) : CP n tp mem st b (upd frs (1 + cn b i) v) fst' (rd + 1) ob' (i + 1) := by
  obtain ⟨⟨a1, a2, a3, a4⟩, h2, h3, h4⟩ := h
  refine ⟨⟨by omega, by omega, by rw [cn_t hbi]; omega, by rw [cn_s, hbi, Bool.true_and]; omega⟩, fun j hj hbj => ?_, fun j hj q => ?_, fun j hj => ?_⟩
  · by_cases q : j = i
    · subst q
      rw [pk_us]; exact hv
    · have := cn_lt_of hbj (show j < i by omega)
      rw [pk_un (by omega)]
      exact h2 j (by omega) hbj
  · rw [cn_t hbi] at q
    rw [pk_un (by omega)]
    exact h3 j hj (by omega)
  · rw [hfs j hj, h4 j hj]
    constructor
    · rintro (⟨t, t1, t2⟩ | ⟨q1, q2⟩)
      · exact ⟨t, by omega, t2⟩
      · exact ⟨i, by omega, hbi, q1, q2⟩
    · rintro ⟨t, t1, t2, t3, t4⟩
      by_cases q : t = i
      · subst q; exact Or.inr ⟨t3, t4⟩
      · exact Or.inl ⟨t, by omega, t2, t3, t4⟩
/-- the offsets, as they are filled -/
theorem off_step {B nb i : Nat} {offs : Nat → Int32} {b : Nat → Bool} (hB : okB B) (h : ∀ k, k < nb → k * B < i → offs k = nI (cn b (k * B))) (hz : i % B = 0) : ∀ k, k < nb → k * B < i + 1 → upd offs (i / B) (nI (cn b i)) k = nI (cn b (k * B)) := by
  intro k hk hlt
  by_cases q : k = i / B
  · have e : k * B = i := by rcases hB with z | z | z | z <;> subst z <;> omega
    rw [q, pk_us, ← q, e]
  · rw [pk_un q]
    refine h k hk ?_
    rcases hB with z | z | z | z <;> subst z <;> omega
theorem off_skip {B nb i : Nat} {offs : Nat → Int32} {b : Nat → Bool} (hB : okB B) (h : ∀ k, k < nb → k * B < i → offs k = nI (cn b (k * B))) (hz : 0 < i % B) : ∀ k, k < nb → k * B < i + 1 → offs k = nI (cn b (k * B)) := by
  intro k hk hlt
  refine h k hk ?_
  rcases hB with z | z | z | z <;> subst z <;> omega
theorem off_all {B nb n : Nat} {offs : Nat → Int32} {b : Nat → Bool} (hB : okB B) (hnb : nb = n / B + 1) (h : ∀ k, k < nb → k * B < n + 1 → offs k = nI (cn b (k * B))) : offOk B nb offs b := by
  intro k hk
  refine h k hk ?_
  rcases hB with z | z | z | z <;> subst z <;> omega
/-- the bits of the first f found -/
def MK (n : Nat) (mem fnd : Nat → Int32) (f i : Nat) : Prop := ∃ g, g < f ∧ ∃ o, fnd g = nI o ∧ o ≤ n ∧ o ≤ i ∧ i < o + siz mem o
theorem MK_s {n : Nat} {mem fnd : Nat → Int32} {f o : Nat} (hn : n ≤ 4000) (ho : o ≤ n) (e : fnd f = nI o) (i : Nat) : MK n mem fnd (f + 1) i ↔ MK n mem fnd f i ∨ (o ≤ i ∧ i < o + siz mem o) := by
  constructor
  · rintro ⟨g, g1, o', h1, h2, h3⟩
    by_cases q : g = f
    · subst q
      have : o = o' := (nI_eq (by omega) (by omega)).mp (e.symm.trans h1)
      subst this
      exact Or.inr h3
    · exact Or.inl ⟨g, by omega, o', h1, h2, h3⟩
  · rintro (⟨g, g1, h⟩ | h)
    · exact ⟨g, by omega, h⟩
    · exact ⟨f, by omega, o, e, ho, h⟩
theorem MK_all {n : Nat} {mem rt fnd : Nat → Int32} {snw : Nat → Int64} {z : Nat} (hn : n ≤ 4000) (hF : FI n snw fnd z) (hN : ∀ x, x ≤ n → (bo snw x = true ↔ NR mem rt n x)) (hNn : ∀ x, NR mem rt n x → x ≤ n) (i : Nat) : MK n mem fnd z i ↔ LW n mem rt i := by
  constructor
  · rintro ⟨g, g1, o, h1, h2, h3⟩
    obtain ⟨x, x1, x2, x3, x4⟩ := hF.2.2.1 g g1
    have : x = o := (nI_eq (by omega) (by omega)).mp (x3.symm.trans h1)
    subst this
    exact ⟨x, (hN x x2).mp x4, h3⟩
  · rintro ⟨o, h1, h2⟩
    have ho := hNn o h1
    obtain ⟨f, f1, f2⟩ := hF.2.2.2 o ho ((hN o ho).mpr h1)
    exact ⟨f, f1, o, f2, ho, h2⟩
