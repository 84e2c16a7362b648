/-! the search: what its loops come to -/
theorem ex_s {f : Nat → Nat} {i x : Nat} : (∃ k, k < i + 1 ∧ f k = x) ↔ (∃ k, k < i ∧ f k = x) ∨ x = f i := by
  constructor
  · rintro ⟨k, h1, h2⟩
    by_cases q : k = i
    · subst q; exact Or.inr h2.symm
    · exact Or.inl ⟨k, by omega, h2⟩
  · rintro (⟨k, h1, h2⟩ | h)
    · exact ⟨k, by omega, h2⟩
    · exact ⟨i, by omega, h.symm⟩
theorem ex_0 {f : Nat → Nat} {x : Nat} : ¬ ∃ k, k < 0 ∧ f k = x := fun ⟨k, h, _⟩ => by omega
def SS (n : Nat) (mem fnd : Nat → Int32) (a b : Nat) : Nat → Prop := fun x => ∃ g, a ≤ g ∧ g < b ∧ ∃ o, fnd g = nI o ∧ o ≤ n ∧ ∃ k, k < rfs mem o ∧ tn (mem (o + 1 + k)) = x
theorem SS_s {n : Nat} {mem fnd : Nat → Int32} {a f o : Nat} (hn : n ≤ 4000) (ha : a ≤ f) (ho : o ≤ n) (e : fnd f = nI o) (x : Nat) : SS n mem fnd a (f + 1) x ↔ SS n mem fnd a f x ∨ ∃ k, k < rfs mem o ∧ tn (mem (o + 1 + k)) = x := by
  constructor
  · rintro ⟨g, g1, g2, o', h1, h2, h3⟩
    by_cases q : g = f
    · subst q
      have : o = o' := (nI_eq (by omega) (by omega)).mp (e.symm.trans h1)
      subst this
      exact Or.inr h3
    · exact Or.inl ⟨g, g1, by omega, o', h1, h2, h3⟩
  · rintro (⟨g, g1, g2, h⟩ | h)
    · exact ⟨g, g1, by omega, h⟩
    · exact ⟨f, ha, by omega, o, e, ho, h⟩
theorem SS_0 {n : Nat} {mem fnd : Nat → Int32} {a x : Nat} : ¬ SS n mem fnd a a x := fun ⟨g, g1, g2, _⟩ => by omega
def PR (n : Nat) (mem fnd : Nat → Int32) (snw : Nat → Int64) (a : Nat) : Prop := ∀ f, f < a → ∀ o, fnd f = nI o → o ≤ n → ∀ k, k < rfs mem o → tn (mem (o + 1 + k)) ≠ 0 → bo snw (tn (mem (o + 1 + k))) = true
theorem fw_step {n tp : Nat} {mem : Nat → Int32} {st : Nat → Bool} {rt : Nat → Int32} (hok : okS n tp mem st rt) {step a z1 z2 : Nat} {snw1 snw2 : Nat → Int64} {fnd1 fnd2 : Nat → Int32} (hF : FI n snw1 fnd1 z1) (hN : ∀ x, x ≤ n → (bo snw1 x = true ↔ NR mem rt step x)) (hpr : PR n mem fnd1 snw1 a) (hI : StpF n snw1 fnd1 z1 (SS n mem fnd1 a z1) snw2 fnd2 z2) :
    (∀ x, x ≤ n → (bo snw2 x = true ↔ NR mem rt (step + 1) x)) ∧ PR n mem fnd2 snw2 z1 := by
  obtain ⟨i1, i2, i3, i4⟩ := hI
  have htp := hok.1.2.1
  have lead : ∀ o, NR mem rt step o → ∀ k, k < rfs mem o → tn (mem (o + 1 + k)) ≠ 0 → bo snw2 (tn (mem (o + 1 + k))) = true := by
    intro o ho k hk h0
    obtain ⟨o1, o2, o3⟩ := NR_obj hok _ o ho
    have hle : tn (mem (o + 1 + k)) ≤ n := by
      rcases (hok.refN o1 o2 o3 hk).2 with q | q
      · omega
      · omega
    obtain ⟨f, f1, f2⟩ := hF.2.2.2 o (by omega) ((hN o (by omega)).mpr ho)
    rw [i2 _ hle]
    by_cases q : f < a
    · exact Or.inl (hpr f q o f2 (by omega) k hk h0)
    · exact Or.inr ⟨h0, f, by omega, f1, o, f2, by omega, k, hk, rfl⟩
  refine ⟨fun x hx => ?_, fun f hf o e ho k hk h0 => ?_⟩
  · constructor
    · intro h
      rw [i2 x hx] at h
      rcases h with q | ⟨h0, g, g1, g2, o, e, ho, k, hk, ek⟩
      · exact Or.inl ((hN x hx).mp q)
      · obtain ⟨x', x1, x2, x3, x4⟩ := hF.2.2.1 g g2
        have : x' = o := (nI_eq (by have := hok.1.2.2; omega) (by have := hok.1.2.2; omega)).mp (x3.symm.trans e)
        subst this
        exact Or.inr ⟨x', (hN x' x2).mp x4, by omega, k, hk, ek⟩
    · rintro (q | ⟨y, hy, h0, k, hk, ek⟩)
      · rw [i2 x hx]; exact Or.inl ((hN x hx).mpr q)
      · rw [← ek]; exact lead y hy k hk (by omega)
  · rw [i4 f hf] at e
    obtain ⟨x', x1, x2, x3, x4⟩ := hF.2.2.1 f hf
    have : x' = o := (nI_eq (by have := hok.1.2.2; omega) (by have := hok.1.2.2; omega)).mp (x3.symm.trans e)
    subst this
    exact lead x' ((hN x' x2).mp x4) k hk h0
/-- all that was found is followed: nothing more is led to -/
theorem fw_closed {n tp : Nat} {mem : Nat → Int32} {st : Nat → Bool} {rt : Nat → Int32} (hok : okS n tp mem st rt) {step a z1 : Nat} {snw1 : Nat → Int64} {fnd1 : Nat → Int32} (hF : FI n snw1 fnd1 z1) (hN : ∀ x, x ≤ n → (bo snw1 x = true ↔ NR mem rt step x)) (hpr : PR n mem fnd1 snw1 a) (ha : z1 ≤ a) : ∀ t x, NR mem rt t x → NR mem rt step x := by
  refine NR_closed ?_
  rintro x (q | ⟨y, hy, h0, k, hk, ek⟩)
  · exact q
  · obtain ⟨y1, y2, y3⟩ := NR_obj hok _ y hy
    have htp := hok.1.2.1
    obtain ⟨f, f1, f2⟩ := hF.2.2.2 y (by omega) ((hN y (by omega)).mpr hy)
    have h := hpr f (by omega) y f2 (by omega) k hk (by omega)
    rw [ek] at h
    have hx : x ≤ n := by
      rcases (hok.refN y1 y2 y3 hk).2 with q | q
      · omega
      · omega
    exact (hN x hx).mp h
