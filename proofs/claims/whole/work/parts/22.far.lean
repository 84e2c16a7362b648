/-! the reference's distances -/
def sm (F : Nat → Nat) : Nat → Nat
  | 0 => 0
  | k + 1 => sm F k + F k
def fu (F : Nat → Nat) (k v : Nat) : Nat → Nat := fun j => if j = k then v else F j
theorem fu_s {F : Nat → Nat} {k v : Nat} : fu F k v k = v := if_pos rfl
theorem fu_n {F : Nat → Nat} {k v j : Nat} (h : j ≠ k) : fu F k v j = F j := if_neg h
theorem sm_fu {F : Nat → Nat} {k v : Nat} (h : v < F k) : ∀ {m : Nat}, sm (fu F k v) m ≤ sm F m ∧ (k < m → sm (fu F k v) m < sm F m) := by
  intro m
  induction m with
  | zero => exact ⟨Nat.le_refl _, fun q => by omega⟩
  | succ m ih =>
    show sm (fu F k v) m + fu F k v m ≤ sm F m + F m ∧ (k < m + 1 → sm (fu F k v) m + fu F k v m < sm F m + F m)
    by_cases q : m = k
    · subst q
      rw [fu_s]
      omega
    · rw [fu_n q]
      refine ⟨by omega, fun z => ?_⟩
      have := ih.2 (by omega)
      omega
def FR (n : Nat) (far : Nat → Int32) (F : Nat → Nat) : Prop := ∀ a, a ≤ n → far a = nI (F a)
theorem FR_u {n k v : Nat} {far : Nat → Int32} {F : Nat → Nat} (h : FR n far F) : FR n (upd far k (nI v)) (fu F k v) := by
  intro a ha
  by_cases q : a = k
  · subst q; rw [pk_us, fu_s]
  · rw [pk_un q, fu_n q]; exact h a ha
def FS (n : Nat) (mem rt : Nat → Int32) (F : Nat → Nat) : Prop := (∀ a, a ≤ n → F a ≤ 1000000 ∧ (F a < 1000000 → NR mem rt (F a) a)) ∧ ∀ k, k < 8 → tn (rt k) ≠ 0 → F (tn (rt k)) = 0
def SB (mem : Nat → Int32) (st : Nat → Bool) (F : Nat → Nat) (a : Nat) : Prop := ∀ o, 1 ≤ o → o < a → st o = true → ∀ k, k < rfs mem o → tn (mem (o + 1 + k)) ≠ 0 → F (tn (mem (o + 1 + k))) ≤ F o + 1
def PI (n : Nat) (mem : Nat → Int32) (st : Nat → Bool) (F0 F : Nat → Nat) (M : Bool) (a k : Nat) : Prop := (M = false ∧ F = F0 ∧ SB mem st F a ∧ ∀ j, j < k → tn (mem (a + 1 + j)) ≠ 0 → F (tn (mem (a + 1 + j))) ≤ F a + 1) ∨ (M = true ∧ sm F (n + 1) < sm F0 (n + 1))
theorem fs_relax {n tp : Nat} {mem : Nat → Int32} {st : Nat → Bool} {rt : Nat → Int32} (hok : okS n tp mem st rt) {F : Nat → Nat} (h : FS n mem rt F) {o k : Nat} (h1 : 1 ≤ o) (h2 : o < tp) (h3 : st o = true) (hk : k < rfs mem o) (h0 : 0 < tn (mem (o + 1 + k))) (hlt : F o + 1 < F (tn (mem (o + 1 + k)))) : FS n mem rt (fu F (tn (mem (o + 1 + k))) (F o + 1)) := by
  have htp := hok.1.2.1
  have hto : tn (mem (o + 1 + k)) ≤ n := by
    rcases (hok.refN h1 h2 h3 hk).2 with q | q
    · omega
    · omega
  have ht := (h.1 _ hto).1
  refine ⟨fun a ha => ?_, fun j hj hr => ?_⟩
  · by_cases q : a = tn (mem (o + 1 + k))
    · rw [q, fu_s]
      refine ⟨by omega, fun _ => ?_⟩
      exact Or.inr ⟨o, (h.1 o (by omega)).2 (by omega), h0, k, hk, rfl⟩
    · rw [fu_n q]; exact h.1 a ha
  · have := h.2 j hj hr
    rw [fu_n (fun q => by rw [q] at this; omega)]
    exact this
theorem pi_skip {n : Nat} {mem : Nat → Int32} {st : Nat → Bool} {F0 F : Nat → Nat} {M : Bool} {a k : Nat} (h : PI n mem st F0 F M a k) (hs : tn (mem (a + 1 + k)) = 0 ∨ F (tn (mem (a + 1 + k))) ≤ F a + 1) : PI n mem st F0 F M a (k + 1) := by
  rcases h with ⟨m0, e, s1, s2⟩ | h
  · refine Or.inl ⟨m0, e, s1, fun j hj h0 => ?_⟩
    by_cases q : j = k
    · subst q
      rcases hs with q | q
      · exact absurd q h0
      · exact q
    · exact s2 j (by omega) h0
  · exact Or.inr h
theorem pi_store {n : Nat} {mem : Nat → Int32} {st : Nat → Bool} {F0 F : Nat → Nat} {M : Bool} {a k t v : Nat} (h : PI n mem st F0 F M a k) (ht : t ≤ n) (hv : v < F t) (a' k' : Nat) : PI n mem st F0 (fu F t v) true a' k' := by
  refine Or.inr ⟨rfl, ?_⟩
  have := (sm_fu (m := n + 1) hv).2 (by omega)
  rcases h with ⟨_, e, _⟩ | ⟨_, h⟩
  · rw [← e]; exact this
  · omega
theorem pi_next {n tp : Nat} {mem : Nat → Int32} {st : Nat → Bool} {rt : Nat → Int32} (hok : okS n tp mem st rt) {F0 F : Nat → Nat} {M : Bool} {a : Nat} (h1 : 1 ≤ a) (h2 : a < tp) (h3 : st a = true) (h : PI n mem st F0 F M a (rfs mem a)) : PI n mem st F0 F M (a + siz mem a) 0 := by
  rcases h with ⟨m0, e, s1, s2⟩ | h
  · refine Or.inl ⟨m0, e, fun o o1 o2 o3 k hk h0 => ?_, fun j hj => by omega⟩
    rcases Nat.lt_trichotomy o a with q | q | q
    · exact s1 o o1 q o3 k hk h0
    · subst q; exact s2 k hk h0
    · have := hok.gap h1 h2 h3 q o2
      rw [o3] at this; cases this
  · exact Or.inr h
/-- at the end: a distance at most s, led to by at most s references -/
def MF (n tp : Nat) (mem : Nat → Int32) (st : Nat → Bool) (rt far : Nat → Int32) : Prop := ∃ F : Nat → Nat, (∀ a, a ≤ n → far a = nI (F a) ∧ F a ≤ 1000000) ∧ ∀ o, o ≤ n → ∀ s, s < 1000000 → (F o ≤ s ↔ NR mem rt s o)
theorem mf_end {n tp : Nat} {mem : Nat → Int32} {st : Nat → Bool} {rt far : Nat → Int32} (hok : okS n tp mem st rt) {F : Nat → Nat} (hR : FR n far F) (hS : FS n mem rt F) (hB : SB mem st F tp) : MF n tp mem st rt far := by
  have htp := hok.1.2.1
  have cpl : ∀ s x, NR mem rt s x → F x ≤ s := by
    intro s
    induction s with
    | zero =>
      rintro x ⟨h0, k, hk, e⟩
      have := hS.2 k hk (by omega)
      rw [e] at this; omega
    | succ s ih =>
      rintro x (q | ⟨y, hy, h0, k, hk, e⟩)
      · have := ih x q; omega
      · obtain ⟨y1, y2, y3⟩ := NR_obj hok _ y hy
        have h1 := hB y y1 y2 y3 k hk (by omega)
        have h2 := ih y hy
        rw [e] at h1
        omega
  refine ⟨F, fun a ha => ⟨hR a ha, (hS.1 a ha).1⟩, fun o ho s hs => ⟨fun h => ?_, fun h => cpl s o h⟩⟩
  exact NR_mono h ((hS.1 o ho).2 (by omega))
theorem mf_live {n tp : Nat} {mem : Nat → Int32} {st : Nat → Bool} {rt : Nat → Int32} (hok : okS n tp mem st rt) {F : Nat → Nat} {o : Nat} (h : ∀ s, s < 1000000 → (F o ≤ s ↔ NR mem rt s o)) : F o < 1000000 ↔ NR mem rt n o := by
  constructor
  · intro q
    exact NR_n hok _ o ((h (F o) q).mp (Nat.le_refl _))
  · intro q
    have := hok.1.2.2
    have := (h n (by omega)).mpr q
    omega
/-- the roots' distances -/
def R0 (n : Nat) (mem rt : Nat → Int32) (F : Nat → Nat) (k : Nat) : Prop := (∀ a, a ≤ n → F a ≤ 1000000 ∧ (F a < 1000000 → NR mem rt (F a) a)) ∧ ∀ j, j < k → tn (rt j) ≠ 0 → F (tn (rt j)) = 0
theorem r0_s {n : Nat} {mem rt : Nat → Int32} {F : Nat → Nat} {k : Nat} (h : R0 n mem rt F k) (hk : k < 8) (h0 : 0 < tn (rt k)) : R0 n mem rt (fu F (tn (rt k)) 0) (k + 1) := by
  refine ⟨fun a ha => ?_, fun j hj hr => ?_⟩
  · by_cases q : a = tn (rt k)
    · rw [q, fu_s]
      exact ⟨by omega, fun _ => ⟨h0, k, hk, rfl⟩⟩
    · rw [fu_n q]; exact h.1 a ha
  · by_cases q : tn (rt j) = tn (rt k)
    · rw [q, fu_s]
    · rw [fu_n q]
      refine h.2 j ?_ hr
      by_cases z : j = k
      · subst z; exact absurd rfl q
      · omega
theorem r0_n {n : Nat} {mem rt : Nat → Int32} {F : Nat → Nat} {k : Nat} (h : R0 n mem rt F k) (h0 : tn (rt k) = 0) : R0 n mem rt F (k + 1) := by
  refine ⟨h.1, fun j hj hr => ?_⟩
  by_cases z : j = k
  · subst z; exact absurd h0 hr
  · exact h.2 j (by omega) hr
