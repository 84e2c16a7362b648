/-! what always holds of a state, and what roots lead to -/
def okS (n tp : Nat) (mem : Nat → Int32) (st : Nat → Bool) (rt : Nat → Int32) : Prop :=
  (1 ≤ tp ∧ tp ≤ n + 1 ∧ n ≤ 4000) ∧ (1 < tp → st 1 = true) ∧
  (∀ o, 1 ≤ o → o < tp → st o = true → (mem o = nI (tn (mem o)) ∧ tn (mem o) ≤ 25840) ∧ o + siz mem o ≤ tp ∧ (o + siz mem o < tp → st (o + siz mem o) = true) ∧ (∀ j, o < j → j < o + siz mem o → st j = false) ∧ (∀ k, k < rfs mem o → isL tp st (mem (o + 1 + k)) = true)) ∧
  (st 0 = false ∧ mem 0 = 0) ∧ (∀ j, tp ≤ j → j ≤ n → st j = false ∧ mem j = 0) ∧ (∀ k, k < 8 → isL tp st (rt k) = true)
theorem okS.hdr {n tp : Nat} {mem : Nat → Int32} {st : Nat → Bool} {rt : Nat → Int32} (h : okS n tp mem st rt) {o : Nat} (h1 : 1 ≤ o) (h2 : o < tp) (h3 : st o = true) : mem o = nI (tn (mem o)) := (h.2.2.1 o h1 h2 h3).1.1
theorem okS.hsm {n tp : Nat} {mem : Nat → Int32} {st : Nat → Bool} {rt : Nat → Int32} (h : okS n tp mem st rt) {o : Nat} (h1 : 1 ≤ o) (h2 : o < tp) (h3 : st o = true) : tn (mem o) ≤ 25840 := (h.2.2.1 o h1 h2 h3).1.2
theorem okS.fit {n tp : Nat} {mem : Nat → Int32} {st : Nat → Bool} {rt : Nat → Int32} (h : okS n tp mem st rt) {o : Nat} (h1 : 1 ≤ o) (h2 : o < tp) (h3 : st o = true) : o + siz mem o ≤ tp := (h.2.2.1 o h1 h2 h3).2.1
theorem okS.next {n tp : Nat} {mem : Nat → Int32} {st : Nat → Bool} {rt : Nat → Int32} (h : okS n tp mem st rt) {o : Nat} (h1 : 1 ≤ o) (h2 : o < tp) (h3 : st o = true) : o + siz mem o < tp → st (o + siz mem o) = true := (h.2.2.1 o h1 h2 h3).2.2.1
theorem okS.gap {n tp : Nat} {mem : Nat → Int32} {st : Nat → Bool} {rt : Nat → Int32} (h : okS n tp mem st rt) {o : Nat} (h1 : 1 ≤ o) (h2 : o < tp) (h3 : st o = true) {j : Nat} (h4 : o < j) (h5 : j < o + siz mem o) : st j = false := (h.2.2.1 o h1 h2 h3).2.2.2.1 j h4 h5
theorem okS.ref {n tp : Nat} {mem : Nat → Int32} {st : Nat → Bool} {rt : Nat → Int32} (h : okS n tp mem st rt) {o : Nat} (h1 : 1 ≤ o) (h2 : o < tp) (h3 : st o = true) {k : Nat} (h4 : k < rfs mem o) : isL tp st (mem (o + 1 + k)) = true := (h.2.2.1 o h1 h2 h3).2.2.2.2 k h4
theorem okS.refN {n tp : Nat} {mem : Nat → Int32} {st : Nat → Bool} {rt : Nat → Int32} (h : okS n tp mem st rt) {o : Nat} (h1 : 1 ≤ o) (h2 : o < tp) (h3 : st o = true) {k : Nat} (h4 : k < rfs mem o) : mem (o + 1 + k) = nI (tn (mem (o + 1 + k))) ∧ (tn (mem (o + 1 + k)) = 0 ∨ (1 ≤ tn (mem (o + 1 + k)) ∧ tn (mem (o + 1 + k)) < tp ∧ st (tn (mem (o + 1 + k))) = true)) := by
  obtain ⟨a, ha, e, q⟩ := isL_t (h.ref h1 h2 h3 h4)
  rw [e, tn_nI ha]
  exact ⟨rfl, q⟩
theorem okS.rootN {n tp : Nat} {mem : Nat → Int32} {st : Nat → Bool} {rt : Nat → Int32} (h : okS n tp mem st rt) {k : Nat} (h4 : k < 8) : rt k = nI (tn (rt k)) ∧ (tn (rt k) = 0 ∨ (1 ≤ tn (rt k) ∧ tn (rt k) < tp ∧ st (tn (rt k)) = true)) := by
  obtain ⟨a, ha, e, q⟩ := isL_t (h.2.2.2.2.2 k h4)
  rw [e, tn_nI ha]
  exact ⟨rfl, q⟩
theorem siz_pos (mem : Nat → Int32) (o : Nat) : 1 ≤ siz mem o := by unfold siz; omega
theorem siz_rfs (mem : Nat → Int32) (o : Nat) : siz mem o = 1 + rfs mem o + pln mem o := rfl
/-- every word below the top is of one object -/
theorem okS.own {n tp : Nat} {mem : Nat → Int32} {st : Nat → Bool} {rt : Nat → Int32} (h : okS n tp mem st rt) : ∀ i, 1 ≤ i → i < tp → ∃ o, 1 ≤ o ∧ o ≤ i ∧ st o = true ∧ i < o + siz mem o := by
  intro i
  induction i with
  | zero => intro h1; omega
  | succ i ih =>
    intro h1 h2
    by_cases hi : i = 0
    · subst hi
      exact ⟨1, by omega, by omega, h.2.1 (by omega), by have := siz_pos mem 1; omega⟩
    · obtain ⟨o, a1, a2, a3, a4⟩ := ih (by omega) (by omega)
      by_cases q : i + 1 < o + siz mem o
      · exact ⟨o, a1, by omega, a3, q⟩
      · have e : i + 1 = o + siz mem o := by omega
        have := h.next a1 (by omega) a3 (by omega)
        rw [← e] at this
        exact ⟨i + 1, by omega, by omega, this, by have := siz_pos mem (i + 1); omega⟩
theorem okS.own1 {n tp : Nat} {mem : Nat → Int32} {st : Nat → Bool} {rt : Nat → Int32} (h : okS n tp mem st rt) {o o' i : Nat} (h1 : 1 ≤ o) (h2 : o < tp) (h3 : st o = true) (g1 : 1 ≤ o') (g2 : o' < tp) (g3 : st o' = true) (a1 : o ≤ i) (a2 : i < o + siz mem o) (b1 : o' ≤ i) (b2 : i < o' + siz mem o') : o = o' := by
  rcases Nat.lt_trichotomy o o' with q | q | q
  · have := h.gap h1 h2 h3 q (by omega)
    rw [g3] at this; cases this
  · exact q
  · have := h.gap g1 g2 g3 q (by omega)
    rw [h3] at this; cases this
/-- led to by at most so many references -/
def NR (mem rt : Nat → Int32) : Nat → Nat → Prop
  | 0, x => 0 < x ∧ ∃ k, k < 8 ∧ tn (rt k) = x
  | s + 1, x => NR mem rt s x ∨ ∃ y, NR mem rt s y ∧ 0 < x ∧ ∃ k, k < rfs mem y ∧ tn (mem (y + 1 + k)) = x
theorem NR_obj {n tp : Nat} {mem : Nat → Int32} {st : Nat → Bool} {rt : Nat → Int32} (h : okS n tp mem st rt) : ∀ s x, NR mem rt s x → 1 ≤ x ∧ x < tp ∧ st x = true := by
  intro s
  induction s with
  | zero =>
    intro x hx
    obtain ⟨h0, k, hk, e⟩ := hx
    rcases (h.rootN hk).2 with q | q
    · omega
    · rw [e] at q; exact q
  | succ s ih =>
    intro x hx
    rcases hx with q | ⟨y, hy, h0, k, hk, e⟩
    · exact ih x q
    · obtain ⟨y1, y2, y3⟩ := ih y hy
      rcases (h.refN y1 y2 y3 hk).2 with q | q
      · omega
      · rw [e] at q; exact q
theorem NR_mono {mem rt : Nat → Int32} {s t x : Nat} (h : s ≤ t) (hx : NR mem rt s x) : NR mem rt t x := by
  induction t with
  | zero => rw [show s = 0 by omega] at hx; exact hx
  | succ t ih =>
    by_cases q : s ≤ t
    · exact Or.inl (ih q)
    · rw [show s = t + 1 by omega] at hx; exact hx
/-- closed once, closed for ever -/
theorem NR_closed {mem rt : Nat → Int32} {s : Nat} (h : ∀ x, NR mem rt (s + 1) x → NR mem rt s x) : ∀ t x, NR mem rt t x → NR mem rt s x := by
  have key : ∀ d x, NR mem rt (s + d) x → NR mem rt s x := by
    intro d
    induction d with
    | zero => intro x hx; exact hx
    | succ d ih =>
      intro x hx
      rcases (show NR mem rt ((s + d) + 1) x from hx) with q | ⟨y, hy, q⟩
      · exact ih x q
      · exact h x (Or.inr ⟨y, ih y hy, q⟩)
  intro t x hx
  exact key t x (NR_mono (by omega) hx)
/-- with n words, n steps are enough -/
theorem NR_n {n tp : Nat} {mem : Nat → Int32} {st : Nat → Bool} {rt : Nat → Int32} (h : okS n tp mem st rt) : ∀ t x, NR mem rt t x → NR mem rt n x := by
  refine NR_closed ?_
  -- by counting
  have dec : ∀ s, ∃ b : Nat → Bool, ∀ x, b x = true ↔ NR mem rt s x := fun s => ⟨fun x => @decide (NR mem rt s x) (Classical.propDecidable _), fun x => by simp⟩
  have hc : ∀ s, (∃ x, NR mem rt (s + 1) x ∧ ¬ NR mem rt s x) → ∀ b, (∀ x, b x = true ↔ NR mem rt s x) → s ≤ cn b (n + 1) := by
    intro s
    induction s with
    | zero => intro _ b _; omega
    | succ s ih =>
      intro hx b hb
      obtain ⟨b0, hb0⟩ := dec s
      have hne : ∃ x, NR mem rt (s + 1) x ∧ ¬ NR mem rt s x := by
        apply Classical.byContradiction
        intro q
        have q2 : ∀ x, NR mem rt (s + 1) x → NR mem rt s x := fun x hx => Classical.byContradiction (fun z => q ⟨x, hx, z⟩)
        obtain ⟨x, h1, h2⟩ := hx
        exact h2 (Or.inl (NR_closed q2 _ x h1))
      have i1 := ih hne b0 hb0
      obtain ⟨a, ha1, ha2⟩ := hne
      have ha3 := NR_obj h _ a ha1
      have ha4 : b0 a = false := by
        cases hq : b0 a with
        | false => rfl
        | true => exact absurd ((hb0 a).mp hq) ha2
      have c1 := cn_add (b := b0) (b' := fun i => b0 i || decide (i = a)) ha4 (fun _ => rfl) (k := n + 1)
      rw [if_pos (by have := h.1.2.1; omega)] at c1
      have c2 : ∀ k, cn (fun i => b0 i || decide (i = a)) k ≤ cn b k := by
        intro k
        induction k with
        | zero => exact Nat.le_refl _
        | succ k ihk =>
          rw [cn_s, cn_s]
          have : (b0 k || decide (k = a)).toNat ≤ (b k).toNat := by
            cases hk : (b0 k || decide (k = a)) with
            | false => exact Nat.zero_le _
            | true =>
              have : b k = true := by
                rw [hb]
                simp at hk
                rcases hk with q | q
                · exact Or.inl ((hb0 k).mp q)
                · rw [q]; exact ha1
              rw [this]; exact Nat.le_refl _
          exact Nat.add_le_add ihk this
      have := c2 (n + 1)
      omega
  intro x hx
  apply Classical.byContradiction
  intro hn
  obtain ⟨b, hb⟩ := dec n
  have h1 := hc n ⟨x, hx, hn⟩ b hb
  have hx3 := NR_obj h _ x hx
  have b0 : b 0 = false := by
    cases hq : b 0 with
    | false => rfl
    | true => have := NR_obj h _ 0 ((hb 0).mp hq); omega
  have bx : b x = false := by
    cases hq : b x with
    | false => rfl
    | true => exact absurd ((hb x).mp hq) hn
  have h2 := cn_lt2 (b := b) (a0 := 0) (a := x) (k := n + 1) (by omega) b0 (by have := h.1.2.1; omega) bx (by omega)
  omega
/-- a list of what was seen -/
def FI (n : Nat) (snw : Nat → Int64) (fnd : Nat → Int32) (z : Nat) : Prop :=
  z = cn (bo snw) (n + 1) ∧ bo snw 0 = false ∧ (∀ f, f < z → ∃ x, 1 ≤ x ∧ x ≤ n ∧ fnd f = nI x ∧ bo snw x = true) ∧ ∀ x, x ≤ n → bo snw x = true → ∃ f, f < z ∧ fnd f = nI x
def StpF (n : Nat) (snw : Nat → Int64) (fnd : Nat → Int32) (z : Nat) (S : Nat → Prop) (snw' : Nat → Int64) (fnd' : Nat → Int32) (z' : Nat) : Prop :=
  FI n snw' fnd' z' ∧ (∀ x, x ≤ n → (bo snw' x = true ↔ bo snw x = true ∨ (x ≠ 0 ∧ S x))) ∧ z ≤ z' ∧ ∀ f, f < z → fnd' f = fnd f
theorem FI.le {n : Nat} {snw : Nat → Int64} {fnd : Nat → Int32} {z : Nat} (h : FI n snw fnd z) : z ≤ n := by
  have := cn_lt (b := bo snw) (a := 0) (k := n + 1) (by omega) h.2.1
  have := h.1
  omega
theorem FI.lt {n : Nat} {snw : Nat → Int64} {fnd : Nat → Int32} {z a : Nat} (h : FI n snw fnd z) (h1 : a ≠ 0) (h2 : a ≤ n) (h3 : bo snw a = false) : z < n := by
  have := cn_lt2 (b := bo snw) (a0 := 0) (a := a) (k := n + 1) (by omega) h.2.1 (by omega) h3 h1
  have := h.1
  omega
theorem StpF.refl {n : Nat} {snw : Nat → Int64} {fnd : Nat → Int32} {z : Nat} {S : Nat → Prop} (h : FI n snw fnd z) (hS : ∀ x, x ≤ n → x ≠ 0 → S x → bo snw x = true) : StpF n snw fnd z S snw fnd z :=
  ⟨h, fun x hx => ⟨Or.inl, fun q => q.elim id (fun q => hS x hx q.1 q.2)⟩, Nat.le_refl _, fun _ _ => rfl⟩
theorem StpF.trans {n : Nat} {snw snw1 snw2 : Nat → Int64} {fnd fnd1 fnd2 : Nat → Int32} {z z1 z2 : Nat} {S1 S2 S : Nat → Prop} (h1 : StpF n snw fnd z S1 snw1 fnd1 z1) (h2 : StpF n snw1 fnd1 z1 S2 snw2 fnd2 z2) (hS : ∀ x, x ≤ n → (S x ↔ S1 x ∨ S2 x)) : StpF n snw fnd z S snw2 fnd2 z2 := by
  obtain ⟨a1, a2, a3, a4⟩ := h1
  obtain ⟨b1, b2, b3, b4⟩ := h2
  refine ⟨b1, fun x hx => ?_, by omega, fun f hf => by rw [b4 f (by omega), a4 f hf]⟩
  rw [b2 x hx, a2 x hx, hS x hx]
  constructor
  · rintro ((q | q) | q)
    · exact Or.inl q
    · exact Or.inr ⟨q.1, Or.inl q.2⟩
    · exact Or.inr ⟨q.1, Or.inr q.2⟩
  · rintro (q | ⟨q0, q | q⟩)
    · exact Or.inl (Or.inl q)
    · exact Or.inl (Or.inr ⟨q0, q⟩)
    · exact Or.inr ⟨q0, q⟩
theorem StpF.congr {n : Nat} {snw snw1 : Nat → Int64} {fnd fnd1 : Nat → Int32} {z z1 : Nat} {S1 S : Nat → Prop} (h1 : StpF n snw fnd z S1 snw1 fnd1 z1) (hS : ∀ x, x ≤ n → x ≠ 0 → (S x ↔ S1 x)) : StpF n snw fnd z S snw1 fnd1 z1 := by
  refine ⟨h1.1, fun x hx => ?_, h1.2.2.1, h1.2.2.2⟩
  rw [h1.2.1 x hx]
  constructor
  · rintro (q | q)
    · exact Or.inl q
    · exact Or.inr ⟨q.1, (hS x hx q.1).mpr q.2⟩
  · rintro (q | q)
    · exact Or.inl q
    · exact Or.inr ⟨q.1, (hS x hx q.1).mp q.2⟩
theorem StpF.add {n : Nat} {snw : Nat → Int64} {fnd : Nat → Int32} {z a : Nat} (h : FI n snw fnd z) (h1 : a ≠ 0) (h2 : a ≤ n) (h3 : bo snw a = false) : StpF n snw fnd z (fun x => x = a) (bput snw a) (upd fnd z (nI a)) (z + 1) := by
  obtain ⟨b1, b2, b3, b4⟩ := h
  have c1 := cn_add (b := bo snw) (b' := bo (bput snw a)) h3 (bo_put snw a) (k := n + 1)
  rw [if_pos (by omega)] at c1
  refine ⟨⟨by omega, ?_, fun f hf => ?_, fun x hx hb => ?_⟩, fun x hx => ?_, by omega, fun f hf => pk_un (by omega)⟩
  · rw [bo_put, b2]; simp [Ne.symm h1]
  · by_cases q : f = z
    · subst q
      exact ⟨a, by omega, h2, pk_us, by rw [bo_put]; simp⟩
    · obtain ⟨x, x1, x2, x3, x4⟩ := b3 f (by omega)
      exact ⟨x, x1, x2, by rw [pk_un q]; exact x3, by rw [bo_put, x4]; rfl⟩
  · rw [bo_put] at hb
    simp at hb
    by_cases q : x = a
    · subst q
      exact ⟨z, by omega, pk_us⟩
    · rcases hb with q2 | q2
      · obtain ⟨f, f1, f2⟩ := b4 x hx q2
        exact ⟨f, by omega, by rw [pk_un (by omega)]; exact f2⟩
      · exact absurd q2 q
  · rw [bo_put]
    simp
    constructor
    · rintro (q | q)
      · exact Or.inl q
      · exact Or.inr ⟨by omega, q⟩
    · rintro (q | q)
      · exact Or.inl q
      · exact Or.inr q.2
