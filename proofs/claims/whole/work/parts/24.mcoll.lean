/-! the reference's collecting: what its loops come to -/
theorem st_gap {n tp : Nat} {mem : Nat → Int32} {st : Nat → Bool} {rt : Nat → Int32} (hok : okS n tp mem st rt) {a : Nat} (h1 : 1 ≤ a) (h2 : a < tp) (h3 : st a = true) : cn st (a + siz mem a) = cn st a + 1 := by
  have e : a + siz mem a = (a + 1) + (siz mem a - 1) := by have := siz_pos mem a; omega
  rw [e, ← cn_t h3]
  exact cn_gap0 (fun j j1 j2 => hok.gap h1 h2 h3 (by omega) (by omega))
theorem st_end {n tp : Nat} {mem : Nat → Int32} {st : Nat → Bool} {rt : Nat → Int32} (hok : okS n tp mem st rt) : cn st (n + 1) = cn st tp := by
  have htp := hok.1.2.1
  have e : n + 1 = tp + (n + 1 - tp) := by omega
  rw [e]
  exact cn_gap0 (fun j j1 j2 => (hok.2.2.2.2.1 j j1 (by omega)).1)
def CPf (n tp : Nat) (mem : Nat → Int32) (st b : Nat → Bool) (frs : Nat → Int32) (i : Nat) : Prop := (∀ j, j < i → b j = true → TV tp mem st b j (frs (1 + cn b j))) ∧ ∀ j, j ≤ n → (j = 0 ∨ cn b i < j) → frs j = 0
def CPs (n : Nat) (st b fst : Nat → Bool) (ob i : Nat) : Prop := ob = cn (fun j => b j && st j) i ∧ ∀ j, j ≤ n → (fst j = true ↔ ∃ t, t < i ∧ b t = true ∧ st t = true ∧ 1 + cn b t = j)
theorem cpf_store {n tp : Nat} {mem : Nat → Int32} {st b : Nat → Bool} {frs : Nat → Int32} {i : Nat} {v : Int32} (h : CPf n tp mem st b frs i) (hbi : b i = true) (hv : TV tp mem st b i v) : CPf n tp mem st b (upd frs (1 + cn b i) v) (i + 1) := by
  refine ⟨fun j hj hbj => ?_, fun j hj q => ?_⟩
  · by_cases q : j = i
    · subst q; rw [pk_us]; exact hv
    · have := cn_lt_of hbj (show j < i by omega)
      rw [pk_un (by omega)]
      exact h.1 j (by omega) hbj
  · rw [cn_t hbi] at q
    rw [pk_un (by omega)]
    exact h.2 j hj (by omega)
theorem cpf_gap {n tp : Nat} {mem : Nat → Int32} {st b : Nat → Bool} {frs : Nat → Int32} {i d : Nat} (h : CPf n tp mem st b frs i) (hb : ∀ j, i ≤ j → j < i + d → b j = false) : CPf n tp mem st b frs (i + d) := by
  refine ⟨fun j hj hbj => ?_, fun j hj q => ?_⟩
  · refine h.1 j ?_ hbj
    apply Classical.byContradiction
    intro q
    rw [hb j (by omega) hj] at hbj
    cases hbj
  · rw [cn_gap0 hb] at q; exact h.2 j hj q
theorem cps_head {n : Nat} {st b fst : Nat → Bool} {ob a : Nat} (h : CPs n st b fst ob a) (hb : b a = true) (hs : st a = true) : CPs n st b (fun j => fst j || decide (j = 1 + cn b a)) (ob + 1) (a + 1) := by
  refine ⟨by rw [cn_t (by simp [hb, hs])]; have := h.1; omega, fun j hj => ?_⟩
  show ((fst j || decide (j = 1 + cn b a)) = true) ↔ _
  rw [Bool.or_eq_true, decide_eq_true_eq, h.2 j hj]
  constructor
  · rintro (⟨t, t1, t2⟩ | q)
    · exact ⟨t, by omega, t2⟩
    · exact ⟨a, by omega, hb, hs, q.symm⟩
  · rintro ⟨t, t1, t2, t3, t4⟩
    by_cases q : t = a
    · subst q; exact Or.inr t4.symm
    · exact Or.inl ⟨t, by omega, t2, t3, t4⟩
theorem cps_gap {n : Nat} {st b fst : Nat → Bool} {ob i d : Nat} (h : CPs n st b fst ob i) (hb : ∀ j, i ≤ j → j < i + d → (b j && st j) = false) : CPs n st b fst ob (i + d) := by
  refine ⟨by rw [cn_gap0 hb]; exact h.1, fun j hj => ?_⟩
  rw [h.2 j hj]
  constructor
  · rintro ⟨t, t1, t2⟩; exact ⟨t, by omega, t2⟩
  · rintro ⟨t, t1, t2, t3, t4⟩
    refine ⟨t, ?_, t2, t3, t4⟩
    apply Classical.byContradiction
    intro q
    have := hb t (by omega) t1
    rw [t2, t3] at this
    cases this
theorem cpf_congr {n tp : Nat} {mem : Nat → Int32} {st b : Nat → Bool} {f g : Nat → Int32} {i : Nat} (h : CPf n tp mem st b f i) (e : ∀ j, j ≤ n → g j = f j) (hl : ∀ j, j < i → b j = true → 1 + cn b j ≤ n) : CPf n tp mem st b g i :=
  ⟨fun j hj hbj => by rw [e _ (hl j hj hbj)]; exact h.1 j hj hbj, fun j hj q => by rw [e j hj]; exact h.2 j hj q⟩
theorem cp_of {n tp : Nat} {mem : Nat → Int32} {st b fst : Nat → Bool} {frs : Nat → Int32} {ob i : Nat} (h1 : 1 ≤ i) (h2 : i ≤ tp) (hf : CPf n tp mem st b frs i) (hs : CPs n st b fst ob i) : CP n tp mem st b frs fst (cn b i) ob i := ⟨⟨h1, h2, rfl, hs.1⟩, hf.1, hf.2, hs.2⟩
/-- where each word went, up to a word -/
def WN (n : Nat) (b : Nat → Bool) (wnt : Nat → Int32) (i nx : Nat) : Prop := (∀ j, j < i → j ≤ n → wnt j = nI (if b j then 1 + cn b j else 0)) ∧ (∀ j, i ≤ j → j ≤ n → wnt j = nI 0) ∧ nx = 1 + cn b i
theorem wn_live {n : Nat} {b : Nat → Bool} {wnt : Nat → Int32} {i nx : Nat} (h : WN n b wnt i nx) (hb : b i = true) : WN n b (upd wnt i (nI nx)) (i + 1) (nx + 1) := by
  refine ⟨fun j hj hjn => ?_, fun j hj hjn => ?_, by rw [cn_t hb]; have := h.2.2; omega⟩
  · by_cases q : j = i
    · subst q; rw [pk_us, if_pos hb, h.2.2]
    · rw [pk_un q]; exact h.1 j (by omega) hjn
  · rw [pk_un (by omega)]; exact h.2.1 j (by omega) hjn
theorem wn_gap {n : Nat} {b : Nat → Bool} {wnt : Nat → Int32} {i nx d : Nat} (h : WN n b wnt i nx) (hb : ∀ j, i ≤ j → j < i + d → b j = false) : WN n b wnt (i + d) nx := by
  refine ⟨fun j hj hjn => ?_, fun j hj hjn => h.2.1 j (by omega) hjn, by rw [cn_gap0 hb]; exact h.2.2⟩
  by_cases q : j < i
  · exact h.1 j q hjn
  · rw [h.2.1 j (by omega) hjn, hb j (by omega) hj]; rfl
theorem wn_end {n tp : Nat} {b : Nat → Bool} {wnt : Nat → Int32} {nx : Nat} (h : WN n b wnt tp nx) (hb : ∀ j, j ≤ n → b j = true → 1 ≤ j ∧ j < tp) (htp : tp ≤ n + 1) : (∀ j, j ≤ n → wnt j = nI (if b j then 1 + cn b j else 0)) ∧ nx = 1 + cn b (n + 1) := by
  have g := wn_gap (d := n + 1 - tp) h (fun j j1 j2 => by
    cases z : b j with
    | false => rfl
    | true => have := hb j (by omega) z; omega)
  rw [show tp + (n + 1 - tp) = n + 1 by omega] at g
  exact ⟨fun j hj => g.1 j (by omega) hj, g.2.2⟩
theorem lv_dead {n tp : Nat} {mem : Nat → Int32} {st : Nat → Bool} {rt : Nat → Int32} {b : Nat → Bool} (hb : okL n mem rt b) (hok : okS n tp mem st rt) {o : Nat} (h1 : 1 ≤ o) (h2 : o < tp) (h3 : st o = true) (h4 : b o = false) : ∀ j, o ≤ j → j < o + siz mem o → b j = false := by
  intro j j1 j2
  cases z : b j with
  | false => rfl
  | true =>
    have := (hb.obj hok h1 h2 h3 (Nat.le_refl o) (by have := siz_pos mem o; omega)).mpr ((hb.obj hok h1 h2 h3 j1 j2).mp z)
    rw [h4] at this; cases this
theorem lv_live {n tp : Nat} {mem : Nat → Int32} {st : Nat → Bool} {rt : Nat → Int32} {b : Nat → Bool} (hb : okL n mem rt b) (hok : okS n tp mem st rt) {o : Nat} (h1 : 1 ≤ o) (h2 : o < tp) (h3 : st o = true) (h4 : b o = true) : ∀ j, o ≤ j → j < o + siz mem o → b j = true := by
  intro j j1 j2
  exact (hb.obj hok h1 h2 h3 j1 j2).mpr ((hb.obj hok h1 h2 h3 (Nat.le_refl o) (by have := siz_pos mem o; omega)).mp h4)
theorem fl_s {f : Nat → Int32} {i : Nat} {v : Nat → Int32} (h : ∀ j, j < i → f j = v j) : ∀ j, j < i + 1 → upd f i (v i) j = v j := by
  intro j hj
  by_cases q : j = i
  · subst q; exact pk_us
  · rw [pk_un q]; exact h j (by omega)
theorem fb_u {f : Nat → Int32} {fst : Nat → Bool} {n a : Nat} (h : ∀ j, j ≤ n → f j = bI (fst j)) : ∀ j, j ≤ n → upd f a (bI true) j = bI (fst j || decide (j = a)) := by
  intro j hj
  by_cases q : j = a
  · subst q; rw [pk_us]; simp
  · rw [pk_un q, h j hj]; simp [q]
