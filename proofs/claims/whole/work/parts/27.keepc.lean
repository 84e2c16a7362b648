/-! collecting keeps what always holds -/
theorem okS_coll {n tp rd ob : Nat} {mem mem' : Nat → Int32} {st st' b : Nat → Bool} {rt rt' : Nat → Int32} (h : okS n tp mem st rt) (hb : okL n mem rt b) (hc : CP n tp mem st b mem' st' rd ob tp) (hr : ∀ k, k < 8 → rt' k = nI (if tn (rt k) = 0 then 0 else 1 + cn b (tn (rt k)))) : okS n (1 + cn b (n + 1)) mem' st' rt' ∧ ob = cn st' (n + 1) ∧ rd = cn b (n + 1) := by
  have htp := h.1.2.1
  have htp1 := h.1.1
  have hn := h.1.2.2
  have hz := hb.zero h
  have e0 : cn b (n + 1) = cn b tp := by
    have e : n + 1 = tp + (n + 1 - tp) := by omega
    rw [e]
    refine cn_gap0 (fun j j1 j2 => ?_)
    cases z : b j with
    | false => rfl
    | true => have := hb.tp h (by omega) z; omega
  obtain ⟨⟨-, -, c3, c4⟩, hv, h0, hs⟩ := hc
  have hLn : cn b tp < tp := hb.lt h htp1
  have hlt : ∀ i, i < tp → b i = true → cn b i < cn b tp := fun i hi hbi => cn_lt_of hbi hi
  have hsn : ∀ t, t < tp → b t = true → st t = true → st' (1 + cn b t) = true := fun t t1 t2 t3 => (hs _ (by have := hlt t t1 t2; omega)).mpr ⟨t, t1, t2, t3, rfl⟩
  have hso : ∀ j, j ≤ n → st' j = true → ∃ t, 1 ≤ t ∧ t < tp ∧ b t = true ∧ st t = true ∧ 1 + cn b t = j := by
    intro j hj q
    obtain ⟨t, t1, t2, t3, t4⟩ := (hs j hj).mp q
    exact ⟨t, (hb.tp h (by omega) t2).1, t1, t2, t3, t4⟩
  have hbnd : ∀ x, (∀ o, 1 ≤ o → o < x → o < tp → st o = true → o + siz mem o ≤ x) → cn b x < cn b tp → st' (1 + cn b x) = true := by
    intro x hx hlx
    obtain ⟨i, i1, i2, i3⟩ := cn_sur hlx
    have hi1 := (hb.tp h (by omega) i2).1
    obtain ⟨o, o1, o2, o3, o4⟩ := h.own i hi1 i1
    have hbo : b o = true := (hb.obj h o1 (by omega) o3 (Nat.le_refl o) (by have := siz_pos mem o; omega)).mpr ((hb.obj h o1 (by omega) o3 o2 o4).mp i2)
    have hxi : x ≤ i := Nat.le_of_not_lt (fun q => by have := cn_lt_of i2 q; omega)
    have hox : x ≤ o := Nat.le_of_not_lt (fun q => by have := hx o o1 q (by omega) o3; omega)
    have hoi : o = i := by
      apply Classical.byContradiction
      intro q
      have g1 := cn_lt_of hbo (show o < i by omega)
      have g2 := cn_mono b hox
      omega
    rw [← i3, ← hoi]
    exact hsn o (by omega) hbo o3
  have hrun : ∀ t, 1 ≤ t → t < tp → st t = true → b t = true → ∀ d, d ≤ siz mem t → cn b (t + d) = cn b t + d := by
    intro t t1 t2 t3 t4 d hd
    exact cn_run (fun j j1 j2 => lv_live hb h t1 t2 t3 t4 j j1 (by omega))
  have hhd : ∀ t, 1 ≤ t → t < tp → st t = true → b t = true → mem' (1 + cn b t) = mem t := by
    intro t t1 t2 t3 t4
    refine (hv t t2 t4).2 (fun q => ?_)
    have := (RW_in h t1 t2 t3 (Nat.le_refl t) (by have := siz_pos mem t; omega)).mp q
    omega
  have hlead : ∀ a, a = 0 ∨ (1 ≤ a ∧ a < tp ∧ st a = true ∧ b a = true) → isL (1 + cn b (n + 1)) st' (nI (if a = 0 then 0 else 1 + cn b a)) = true := by
    intro a ha
    rcases ha with q | ⟨q1, q2, q3, q4⟩
    · rw [if_pos q]; exact isL_0
    · rw [if_neg (by omega)]
      have := hlt a q2 q4
      exact isL_of (by omega) (Or.inr ⟨by omega, by omega, hsn a q2 q4 q3⟩)
  rw [e0] at hlead ⊢
  refine ⟨⟨⟨by omega, by omega, hn⟩, fun q => ?_, fun o' h1 h2 h3 => ?_, ⟨?_, h0 0 (by omega) (Or.inl rfl)⟩, fun j j1 j2 => ⟨?_, h0 j j2 (Or.inr (by omega))⟩, fun k hk => ?_⟩, ?_, c3⟩
  · have e1 : cn b 1 = 0 := cn_0 (fun i hi => by rw [show i = 0 by omega]; exact hz)
    have := hbnd 1 (fun o o1 o2 => by omega) (by omega)
    rw [e1] at this
    exact this
  · obtain ⟨t, t1, t2, t3, t4, t5⟩ := hso o' (by omega) h3
    subst t5
    have em := hhd t t1 t2 t4 t3
    have hf := h.fit t1 t2 t4
    have hrt := hrun t t1 t2 t4 t3
    have es : cn b (t + siz mem t) = cn b t + siz mem t := hrt _ (Nat.le_refl _)
    have hmn := cn_mono b hf
    have es2 : siz mem' (1 + cn b t) = siz mem t := by unfold siz; rw [em]
    have er2 : rfs mem' (1 + cn b t) = rfs mem t := by unfold rfs; rw [em]
    rw [es2, er2, em]
    refine ⟨⟨h.hdr t1 t2 t4, h.hsm t1 t2 t4⟩, by omega, fun q => ?_, fun j j1 j2 => ?_, fun k hk => ?_⟩
    · have := hbnd (t + siz mem t) (fun o o1 o2 o3 o4 => ?_) (by omega)
      · rw [es] at this
        rw [show 1 + cn b t + siz mem t = 1 + (cn b t + siz mem t) by omega]
        exact this
      · rcases Nat.lt_trichotomy o t with q | q | q
        · have : o + siz mem o ≤ t := Nat.le_of_not_lt (fun z => by have := h.gap o1 o3 o4 q z; rw [t4] at this; cases this)
          omega
        · subst q; exact Nat.le_refl _
        · have := h.gap t1 t2 t4 q o2
          rw [o4] at this; cases this
    · cases z : st' j with
      | false => rfl
      | true =>
        obtain ⟨t', u1, u2, u3, u4, u5⟩ := hso j (by omega) z
        have g1 : t < t' := Nat.lt_of_not_le (fun q => by have := cn_mono b q; omega)
        have g2 : t' < t + siz mem t := Nat.lt_of_not_le (fun q => by have := cn_mono b q; omega)
        have := h.gap t1 t2 t4 g1 g2
        rw [u4] at this; cases this
    · have hsr := siz_rfs mem t
      have ek := hrt (1 + k) (by omega)
      have hbk := lv_live hb h t1 t2 t4 t3 (t + 1 + k) (by omega) (by omega)
      have tv := hv (t + 1 + k) (by omega) hbk
      rw [show t + 1 + k = t + (1 + k) by omega, ek, show 1 + (cn b t + (1 + k)) = 1 + cn b t + 1 + k by omega] at tv
      rw [tv.1 ⟨t, t1, t2, t4, by omega, by omega⟩, show t + (1 + k) = t + 1 + k by omega]
      refine hlead _ ?_
      by_cases q : tn (mem (t + 1 + k)) = 0
      · exact Or.inl q
      · exact Or.inr (hb.ref h t1 t2 t4 t3 hk q)
  · cases z : st' 0 with
    | false => rfl
    | true => obtain ⟨t, _, _, _, _, t5⟩ := hso 0 (by omega) z; omega
  · cases z : st' j with
    | false => rfl
    | true =>
      obtain ⟨t, t1, t2, t3, t4, t5⟩ := hso j j2 z
      have := hlt t t2 t3
      omega
  · rw [hr k hk]
    refine hlead _ ?_
    by_cases q : tn (rt k) = 0
    · exact Or.inl q
    · exact Or.inr (hb.root h hk q)
  · have key : ∀ i, i ≤ tp → cn st' (1 + cn b i) = cn (fun j => b j && st j) i := by
      intro i
      induction i with
      | zero =>
        intro _
        show cn st' (0 + 1) = 0
        refine cn_f ?_
        cases z : st' 0 with
        | false => rfl
        | true => obtain ⟨t, _, _, _, _, t5⟩ := hso 0 (by omega) z; omega
      | succ i ih =>
        intro hi
        cases z : b i with
        | false => rw [cn_f z, cn_f (b := fun j => b j && st j) (by simp [z])]; exact ih (by omega)
        | true =>
          rw [cn_t z, show 1 + (cn b i + 1) = (1 + cn b i) + 1 by omega, cn_s, cn_s, ih (by omega), z, Bool.true_and]
          congr 2
          cases y : st i with
          | true => exact hsn i (by omega) z y
          | false =>
            cases w : st' (1 + cn b i) with
            | false => rfl
            | true =>
              obtain ⟨t, t1, t2, t3, t4, t5⟩ := hso _ (by have := hlt i (by omega) z; omega) w
              rw [cn_inj (b := b) t3 z (by omega)] at t4
              rw [t4] at y; cases y
    have k1 := key tp (Nat.le_refl _)
    rw [c4, ← k1]
    have e : n + 1 = (1 + cn b tp) + (n + 1 - (1 + cn b tp)) := by omega
    rw [e]
    refine (cn_gap0 (fun j j1 j2 => ?_)).symm
    cases z : st' j with
    | false => rfl
    | true =>
      obtain ⟨t, t1, t2, t3, t4, t5⟩ := hso j (by omega) z
      have := hlt t t2 t3
      omega
