/-! states that are the same where it matters; what each call keeps -/
theorem isL_congr {tp : Nat} {st st' : Nat → Bool} (h : ∀ a, a < tp → st' a = st a) (x : Int32) : isL tp st' x = isL tp st x := by
  unfold isL
  split
  · rfl
  · rename_i a _
    by_cases q : a < tp
    · rw [h a q]
    · simp [q]
theorem isL_mono {tp tp' : Nat} {st st' : Nat → Bool} (ht : tp ≤ tp') (h : ∀ a, a < tp → st a = true → st' a = true) {x : Int32} (hx : isL tp st x = true) : isL tp' st' x = true := by
  obtain ⟨a, ha, e, q⟩ := isL_t hx
  rw [e, isL_nat ha]
  rcases q with q | ⟨q1, q2, q3⟩
  · simp [q]
  · simp [q1, h a q2 q3, show a < tp' by omega]
theorem isL_of {tp a : Nat} {st : Nat → Bool} (ha : a < 2 ^ 31) (h : a = 0 ∨ (1 ≤ a ∧ a < tp ∧ st a = true)) : isL tp st (nI a) = true := by
  rw [isL_nat ha]
  rcases h with q | ⟨q1, q2, q3⟩
  · simp [q]
  · simp [q1, q2, q3]
theorem isO_congr {tp : Nat} {st st' : Nat → Bool} (h : ∀ a, a < tp → st' a = st a) (x : Int32) : isO tp st' x = isO tp st x := by
  unfold isO
  split
  · rfl
  · rename_i a _
    by_cases q : a < tp
    · rw [h a q]
    · simp [q]
theorem siz_c {mem mem' : Nat → Int32} {o : Nat} (h : mem' o = mem o) : siz mem' o = siz mem o := by unfold siz; rw [h]
theorem rfs_c {mem mem' : Nat → Int32} {o : Nat} (h : mem' o = mem o) : rfs mem' o = rfs mem o := by unfold rfs; rw [h]
theorem okS.congr {n tp : Nat} {mem mem' : Nat → Int32} {st st' : Nat → Bool} {rt rt' : Nat → Int32} (h : okS n tp mem st rt) (hm : ∀ i, i ≤ n → mem' i = mem i) (hs : ∀ i, i ≤ n → st' i = st i) (hr : ∀ k, k < 8 → rt' k = rt k) : okS n tp mem' st' rt' := by
  have htp := h.1.2.1
  have htp1 := h.1.1
  have hL : ∀ x, isL tp st' x = isL tp st x := isL_congr (fun a ha => hs a (by omega))
  refine ⟨h.1, fun q => ?_, fun o h1 h2 h3 => ?_, ⟨?_, ?_⟩, fun j j1 j2 => ?_, fun k hk => ?_⟩
  · rw [hs 1 (by omega)]; exact h.2.1 q
  · rw [hs o (by omega)] at h3
    have e := hm o (by omega)
    have hf := h.fit h1 h2 h3
    rw [siz_c e, rfs_c e, e]
    refine ⟨⟨h.hdr h1 h2 h3, h.hsm h1 h2 h3⟩, hf, fun q => ?_, fun j j1 j2 => ?_, fun k hk => ?_⟩
    · rw [hs _ (by omega)]; exact h.next h1 h2 h3 q
    · rw [hs _ (by omega)]; exact h.gap h1 h2 h3 j1 j2
    · rw [siz_rfs] at hf
      rw [hL, hm _ (by omega)]; exact h.ref h1 h2 h3 hk
  · rw [hs 0 (by omega)]; exact h.2.2.2.1.1
  · rw [hm 0 (by omega)]; exact h.2.2.2.1.2
  · rw [hs j j2, hm j j2]; exact h.2.2.2.2.1 j j1 j2
  · rw [hL, hr k hk]; exact h.2.2.2.2.2 k hk
theorem NR_congr {n tp : Nat} {mem mem' : Nat → Int32} {st : Nat → Bool} {rt rt' : Nat → Int32} (h : okS n tp mem st rt) (hm : ∀ i, i ≤ n → mem' i = mem i) (hr : ∀ k, k < 8 → rt' k = rt k) : ∀ s x, NR mem' rt' s x ↔ NR mem rt s x := by
  have htp := h.1.2.1
  intro s
  induction s with
  | zero =>
    intro x
    constructor
    · rintro ⟨h0, k, hk, e⟩; exact ⟨h0, k, hk, by rw [← hr k hk]; exact e⟩
    · rintro ⟨h0, k, hk, e⟩; exact ⟨h0, k, hk, by rw [hr k hk]; exact e⟩
  | succ s ih =>
    have key : ∀ y k, NR mem rt s y → k < rfs mem y → mem' (y + 1 + k) = mem (y + 1 + k) := by
      intro y k hy hk
      obtain ⟨y1, y2, y3⟩ := NR_obj h _ y hy
      have hf := h.fit y1 y2 y3
      rw [siz_rfs] at hf
      exact hm _ (by omega)
    intro x
    constructor
    · rintro (q | ⟨y, hy, h0, k, hk, e⟩)
      · exact Or.inl ((ih x).mp q)
      · have hy2 := (ih y).mp hy
        have e2 : mem' y = mem y := hm y (by have := NR_obj h _ y hy2; omega)
        rw [rfs_c e2] at hk
        exact Or.inr ⟨y, hy2, h0, k, hk, by rw [← key y k hy2 hk]; exact e⟩
    · rintro (q | ⟨y, hy, h0, k, hk, e⟩)
      · exact Or.inl ((ih x).mpr q)
      · have e2 : mem' y = mem y := hm y (by have := NR_obj h _ y hy; omega)
        exact Or.inr ⟨y, (ih y).mpr hy, h0, k, by rw [rfs_c e2]; exact hk, by rw [key y k hy hk]; exact e⟩
theorem okL_congr {n tp : Nat} {mem mem' : Nat → Int32} {st : Nat → Bool} {rt rt' : Nat → Int32} {b : Nat → Bool} (h : okS n tp mem st rt) (hm : ∀ i, i ≤ n → mem' i = mem i) (hr : ∀ k, k < 8 → rt' k = rt k) (hb : okL n mem' rt' b) : okL n mem rt b := by
  have htp := h.1.2.1
  intro i hi
  rw [hb i hi]
  constructor
  · rintro ⟨o, h1, h2, h3⟩
    have h4 := (NR_congr h hm hr n o).mp h1
    have := NR_obj h _ o h4
    rw [siz_c (hm o (by omega))] at h3
    exact ⟨o, h4, h2, h3⟩
  · rintro ⟨o, h1, h2, h3⟩
    have := NR_obj h _ o h1
    rw [← siz_c (hm o (by omega))] at h3
    exact ⟨o, (NR_congr h hm hr n o).mpr h1, h2, h3⟩
theorem okL_eq {n : Nat} {mem rt : Nat → Int32} {b b' : Nat → Bool} (h : okL n mem rt b) (h' : okL n mem rt b') : ∀ i, i ≤ n → b' i = b i := by
  intro i hi
  have h1 := h i hi
  have h2 := h' i hi
  cases e : b i <;> cases e' : b' i
  · rfl
  · rw [e'] at h2; rw [e] at h1; exact absurd (h1.mpr (h2.mp rfl)) (by decide)
  · rw [e'] at h2; rw [e] at h1; exact absurd (h2.mpr (h1.mp rfl)) (by decide)
  · rfl
theorem RW_c {n tp : Nat} {mem mem' : Nat → Int32} {st : Nat → Bool} (htp : tp ≤ n + 1) (hm : ∀ i, i ≤ n → mem' i = mem i) (j : Nat) : RW tp mem' st j ↔ RW tp mem st j := by
  constructor
  · rintro ⟨o, h1, h2, h3, h4, h5⟩
    rw [rfs_c (hm o (by omega))] at h5
    exact ⟨o, h1, h2, h3, h4, h5⟩
  · rintro ⟨o, h1, h2, h3, h4, h5⟩
    rw [← rfs_c (hm o (by omega))] at h5
    exact ⟨o, h1, h2, h3, h4, h5⟩
theorem RW_tn {n tp : Nat} {mem : Nat → Int32} {st : Nat → Bool} {rt : Nat → Int32} (h : okS n tp mem st rt) {j : Nat} (hr : RW tp mem st j) : tn (mem j) ≤ n := by
  obtain ⟨o, h1, h2, h3, h4, h5⟩ := hr
  have q := h.refN h1 h2 h3 (k := j - (o + 1)) (by omega)
  rw [show o + 1 + (j - (o + 1)) = j by omega] at q
  have htp := h.1.2.1
  rcases q.2 with q | q
  · omega
  · omega
theorem cp_congr {n tp : Nat} {mem mem' : Nat → Int32} {st : Nat → Bool} {rt : Nat → Int32} {b b' : Nat → Bool} {f : Nat → Int32} {fst : Nat → Bool} {rd ob : Nat} (h : okS n tp mem st rt) (hm : ∀ i, i ≤ n → mem' i = mem i) (hb : ∀ i, i ≤ n → b' i = b i) (hc : CP n tp mem' st b' f fst rd ob tp) : CP n tp mem st b f fst rd ob tp := by
  have htp := h.1.2.1
  have hcn : ∀ k, k ≤ n + 1 → cn b' k = cn b k := fun k hk => cn_congr (fun i hi => hb i (by omega))
  obtain ⟨⟨a1, a2, a3, a4⟩, h2, h3, h4⟩ := hc
  refine ⟨⟨a1, a2, by rw [← hcn tp htp]; exact a3, ?_⟩, fun j hj hbj => ?_, fun j hj q => ?_, fun j hj => ?_⟩
  · rw [a4]; exact cn_congr (fun i hi => by rw [hb i (by omega)])
  · rw [← hb j (by omega)] at hbj
    obtain ⟨t1, t2⟩ := h2 j hj hbj
    rw [hcn j (by omega)] at t1 t2
    rw [hm j (by omega)] at t1 t2
    refine ⟨fun q => ?_, fun q => t2 (fun z => q ((RW_c htp hm j).mp z))⟩
    rw [t1 ((RW_c htp hm j).mpr q), hcn _ (by have := RW_tn h q; omega)]
  · rw [← hcn tp htp] at q; exact h3 j hj q
  · rw [h4 j hj]
    constructor
    · rintro ⟨t, t1, t2, t3, t4⟩
      exact ⟨t, t1, by rw [← hb t (by omega)]; exact t2, t3, by rw [← hcn t (by omega)]; exact t4⟩
    · rintro ⟨t, t1, t2, t3, t4⟩
      exact ⟨t, t1, by rw [hb t (by omega)]; exact t2, t3, by rw [hcn t (by omega)]; exact t4⟩
theorem cp_uniq {n tp : Nat} {mem : Nat → Int32} {st b : Nat → Bool} {f f' : Nat → Int32} {fst fst' : Nat → Bool} {rd rd' ob ob' : Nat} (h : CP n tp mem st b f fst rd ob tp) (h' : CP n tp mem st b f' fst' rd' ob' tp) : (∀ j, j ≤ n → f' j = f j) ∧ (∀ j, j ≤ n → fst' j = fst j) ∧ ob' = ob ∧ rd' = rd := by
  obtain ⟨⟨a1, a2, a3, a4⟩, h2, h3, h4⟩ := h
  obtain ⟨⟨b1, b2, b3, b4⟩, g2, g3, g4⟩ := h'
  refine ⟨fun j hj => ?_, fun j hj => ?_, by omega, by omega⟩
  · by_cases q : j = 0 ∨ cn b tp < j
    · rw [h3 j hj q, g3 j hj q]
    · obtain ⟨i, i1, i2, i3⟩ := cn_sur (b := b) (k := tp) (t := j - 1) (by omega)
      have e : 1 + cn b i = j := by omega
      have t1 := h2 i i1 i2
      have t2 := g2 i i1 i2
      rw [e] at t1 t2
      by_cases r : RW tp mem st i
      · rw [t1.1 r, t2.1 r]
      · rw [t1.2 r, t2.2 r]
  · have e1 := h4 j hj
    have e2 := g4 j hj
    cases z : fst j <;> cases z' : fst' j
    · rfl
    · rw [z] at e1; rw [z'] at e2; exact absurd (e1.mpr (e2.mp rfl)) (by decide)
    · rw [z] at e1; rw [z'] at e2; exact absurd (e2.mpr (e1.mp rfl)) (by decide)
    · rfl
/-- make keeps -/
theorem okS_make {n tp r w : Nat} {mem : Nat → Int32} {st st' : Nat → Bool} {rt : Nat → Int32} (h : okS n tp mem st rt) (hr : r ≤ 15) (hw : w ≤ 100) (ht : tp + r + w ≤ n) (hst : ∀ j, st' j = (st j || decide (j = tp))) : okS n (tp + (1 + r + w)) (upd mem tp (nI (256 * w + 16 * r))) st' rt ∧ cn st' (n + 1) = cn st (n + 1) + 1 := by
  have htp := h.1.2.1
  have htp1 := h.1.1
  have hn := h.1.2.2
  have hh : tn (nI (256 * w + 16 * r)) = 256 * w + 16 * r := tn_nI (by omega)
  have hs : ∀ a, st a = true → st' a = true := fun a q => by rw [hst, q]; rfl
  have hmono : ∀ {x}, isL tp st x = true → isL (tp + (1 + r + w)) st' x = true := fun hx => isL_mono (by omega) (fun a _ q => hs a q) hx
  have hd := hd_p (w := w) (r := r) hr
  refine ⟨⟨⟨by omega, by omega, hn⟩, fun _ => ?_, fun o h1 h2 h3 => ?_, ⟨?_, ?_⟩, fun j j1 j2 => ?_, fun k hk => hmono (h.2.2.2.2.2 k hk)⟩, ?_⟩
  · by_cases q : 1 < tp
    · exact hs 1 (h.2.1 q)
    · rw [hst, show tp = 1 by omega]; simp
  · by_cases q : o = tp
    · subst q
      have es : siz (upd mem o (nI (256 * w + 16 * r))) o = 1 + r + w := by unfold siz; rw [pk_us, hh, hd.1, hd.2]
      have er : rfs (upd mem o (nI (256 * w + 16 * r))) o = r := by unfold rfs; rw [pk_us, hh, hd.1]
      rw [es, er, pk_us, hh]
      refine ⟨⟨rfl, by omega⟩, Nat.le_refl _, fun z => by omega, fun j j1 j2 => ?_, fun k hk => ?_⟩
      · rw [hst, (h.2.2.2.2.1 j (by omega) (by omega)).1]; simp; omega
      · rw [pk_un (by omega), (h.2.2.2.2.1 (o + 1 + k) (by omega) (by omega)).2]
        exact isL_0
    · have h3' : st o = true := by rw [hst] at h3; simp [q] at h3; exact h3
      have h2' : o < tp := Nat.lt_of_not_le (fun z => by have := (h.2.2.2.2.1 o z (by omega)).1; rw [h3'] at this; cases this)
      have e : upd mem tp (nI (256 * w + 16 * r)) o = mem o := pk_un q
      have hf := h.fit h1 h2' h3'
      rw [siz_c e, rfs_c e, e]
      refine ⟨⟨h.hdr h1 h2' h3', h.hsm h1 h2' h3'⟩, by omega, fun z => ?_, fun j j1 j2 => ?_, fun k hk => ?_⟩
      · by_cases y : o + siz mem o = tp
        · rw [y, hst]; simp
        · exact hs _ (h.next h1 h2' h3' (by omega))
      · rw [hst, h.gap h1 h2' h3' j1 j2]; simp; omega
      · have hf2 := hf
        rw [siz_rfs] at hf2
        rw [pk_un (by omega)]
        exact hmono (h.ref h1 h2' h3' hk)
  · rw [hst, h.2.2.2.1.1]; simp; omega
  · rw [pk_un (by omega)]; exact h.2.2.2.1.2
  · rw [hst, pk_un (by omega), (h.2.2.2.2.1 j (by omega) j2).1, (h.2.2.2.2.1 j (by omega) j2).2]
    simp; omega
  · rw [cn_add (b := st) (b' := st') (a := tp) (h.2.2.2.2.1 tp (Nat.le_refl _) (by omega)).1 hst, if_pos (by omega)]
/-- a word that is no header is written -/
theorem okS_word {n tp a : Nat} {mem : Nat → Int32} {st : Nat → Bool} {rt : Nat → Int32} {v : Int32} (h : okS n tp mem st rt) (h1 : 1 ≤ a) (h2 : a < tp) (h3 : st a = false) (hv : RW tp mem st a → isL tp st v = true) : okS n tp (upd mem a v) st rt := by
  have htp := h.1.2.1
  refine ⟨h.1, h.2.1, fun o o1 o2 o3 => ?_, ⟨h.2.2.2.1.1, by rw [pk_un (by omega)]; exact h.2.2.2.1.2⟩, fun j j1 j2 => ⟨(h.2.2.2.2.1 j j1 j2).1, by rw [pk_un (by omega)]; exact (h.2.2.2.2.1 j j1 j2).2⟩, h.2.2.2.2.2⟩
  have ne : o ≠ a := fun q => by rw [q, h3] at o3; cases o3
  have e : upd mem a v o = mem o := pk_un ne
  rw [siz_c e, rfs_c e, e]
  refine ⟨⟨h.hdr o1 o2 o3, h.hsm o1 o2 o3⟩, h.fit o1 o2 o3, h.next o1 o2 o3, fun j j1 j2 => h.gap o1 o2 o3 j1 j2, fun k hk => ?_⟩
  by_cases q : o + 1 + k = a
  · rw [q, pk_us]
    exact hv ⟨o, o1, o2, o3, by omega, by omega⟩
  · rw [pk_un q]; exact h.ref o1 o2 o3 hk
theorem okS_refer {n tp o j : Nat} {mem : Nat → Int32} {st : Nat → Bool} {rt : Nat → Int32} {x k v : Int32} (h : okS n tp mem st rt) (c : cRef tp mem st x k v o j) : okS n tp (upd mem (o + 1 + j) v) st rt ∧ o + 1 + j ≤ n := by
  obtain ⟨⟨-, -, o1, o2, o3⟩, ⟨-, -, j3⟩, hv⟩ := c
  have hf := h.fit o1 o2 o3
  have hs := siz_rfs mem o
  have htp := h.1.2.1
  exact ⟨okS_word h (by omega) (by omega) (h.gap o1 o2 o3 (by omega) (by omega)) (fun _ => hv), by omega⟩
theorem okS_set {n tp o j : Nat} {mem : Nat → Int32} {st : Nat → Bool} {rt : Nat → Int32} {x k v : Int32} (h : okS n tp mem st rt) (c : cSet tp mem st x k o j) : okS n tp (upd mem (o + 1 + rfs mem o + j) v) st rt ∧ o + 1 + rfs mem o + j ≤ n := by
  obtain ⟨⟨-, -, o1, o2, o3⟩, -, -, j3⟩ := c
  have hf := h.fit o1 o2 o3
  have hs := siz_rfs mem o
  have htp := h.1.2.1
  refine ⟨okS_word h (by omega) (by omega) (h.gap o1 o2 o3 (by omega) (by omega)) (fun q => ?_), by omega⟩
  have := (RW_in h o1 o2 o3 (j := o + 1 + rfs mem o + j) (by omega) (by omega)).mp q
  omega
theorem okS_root {n tp j : Nat} {mem : Nat → Int32} {st : Nat → Bool} {rt : Nat → Int32} {v : Int32} (h : okS n tp mem st rt) (hv : isL tp st v = true) : okS n tp mem st (upd rt j v) := by
  refine ⟨h.1, h.2.1, h.2.2.1, h.2.2.2.1, h.2.2.2.2.1, fun k hk => ?_⟩
  by_cases q : k = j
  · rw [q, pk_us]; exact hv
  · rw [pk_un q]; exact h.2.2.2.2.2 k hk
