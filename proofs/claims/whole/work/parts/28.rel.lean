/-! both sides tell the same: the relation, and what each pair of calls does to it -/
def RelS (n B nb tp ob rd lv : Nat) (rts offs mem : Nat → Int32) (btw stw : Nat → Int64) (wrd bgs mrt wnt : Nat → Int32) : Prop :=
  okS n tp mem (bo stw) rts ∧ (okB B ∧ nb = n / B + 1 ∧ offOk B nb offs (bo btw)) ∧ (ob = cn (bo stw) (n + 1) ∧ rd = cn (bo btw) (n + 1) ∧ lv = rd) ∧ (∀ i, i ≤ n → wrd i = mem i) ∧ (∀ a, a ≤ n → bgs a = bI (bo stw a)) ∧ (∀ k, k < 8 → mrt k = rts k) ∧ ∀ a, a ≤ n → wnt a = nI (if bo btw a then 1 + cn (bo btw) a else 0)
theorem RelS.okM {n B nb tp ob rd lv : Nat} {rts offs mem : Nat → Int32} {btw stw : Nat → Int64} {wrd bgs mrt wnt : Nat → Int32} (h : RelS n B nb tp ob rd lv rts offs mem btw stw wrd bgs mrt wnt) : okS n tp wrd (bo stw) mrt := h.1.congr h.2.2.2.1 (fun _ _ => rfl) h.2.2.2.2.2.1
theorem mk_in {x y : Int32} {r w : Nat} (ex : x = nI r) (ey : y = nI w) (hr : r ≤ 15) (hw : w ≤ 100) (h : inR 16 x = false ∨ inR 101 y = false) : False := by
  rw [ex, ey, inR_nat (by omega), inR_nat (by omega)] at h
  simp at h
  omega
theorem rl_make {n B nb tp ob rd lv : Nat} {rts offs mem : Nat → Int32} {btw stw : Nat → Int64} {wrd bgs mrt wnt : Nat → Int32} {x y r1 r2 : Int32} {u1 : Nat × Nat × (Nat → Int32) × (Nat → Int64)} {u2 : Nat × Nat × (Nat → Int32) × (Nat → Int32)} (hR : RelS n B nb tp ob rd lv rts offs mem btw stw wrd bgs mrt wnt) (hp1 : (u1 = (tp, ob, mem, stw) ∧ ((inR 16 x = false ∨ inR 101 y = false) ∧ r1 = -1)) ∨ (u1 = (tp, ob, mem, stw) ∧ ∃ r w, x = nI r ∧ y = nI w ∧ r ≤ 15 ∧ w ≤ 100 ∧ n < tp + r + w ∧ r1 = nI 0) ∨ (∃ r w, x = nI r ∧ y = nI w ∧ r ≤ 15 ∧ w ≤ 100 ∧ tp + r + w ≤ n ∧ r1 = nI tp ∧ u1 = (tp + (1 + r + w), ob + 1, upd mem tp (nI (256 * w + 16 * r)), bput stw tp))) (hp2 : (u2 = (tp, ob, wrd, bgs) ∧ ((inR 16 x = false ∨ inR 101 y = false) ∧ r2 = -1)) ∨ (u2 = (tp, ob, wrd, bgs) ∧ ∃ r w, x = nI r ∧ y = nI w ∧ r ≤ 15 ∧ w ≤ 100 ∧ n < tp + r + w ∧ r2 = nI 0) ∨ (∃ r w, x = nI r ∧ y = nI w ∧ r ≤ 15 ∧ w ≤ 100 ∧ tp + r + w ≤ n ∧ r2 = nI tp ∧ u2.1 = tp + (1 + r + w) ∧ u2.2.1 = ob + 1 ∧ u2.2.2.1 tp = nI (256 * w + 16 * r) ∧ (∀ j, tp < j → j ≤ tp + r + w → u2.2.2.1 j = 0) ∧ (∀ j, j < tp ∨ tp + r + w < j → u2.2.2.1 j = wrd j) ∧ u2.2.2.2 = upd bgs tp (bI true))) : r1 = r2 ∧ u2.1 = u1.1 ∧ u2.2.1 = u1.2.1 ∧ RelS n B nb u1.1 u1.2.1 rd lv rts offs u1.2.2.1 btw u1.2.2.2 u2.2.2.1 u2.2.2.2 mrt wnt := by
  rcases hp1 with ⟨rfl, ho, rfl⟩ | ⟨rfl, r, w, ex, ey, hr, hw, hgt, rfl⟩ | ⟨r, w, ex, ey, hr, hw, hle, rfl, rfl⟩
  · rcases hp2 with ⟨rfl, _, rfl⟩ | ⟨rfl, r', w', ex', ey', hr', hw', _⟩ | ⟨r', w', ex', ey', hr', hw', _⟩
    · exact ⟨rfl, rfl, rfl, hR⟩
    · exact (mk_in ex' ey' hr' hw' ho).elim
    · exact (mk_in ex' ey' hr' hw' ho).elim
  · rcases hp2 with ⟨rfl, ho', rfl⟩ | ⟨rfl, r', w', ex', ey', hr', hw', _, rfl⟩ | ⟨r', w', ex', ey', hr', hw', hle', _⟩
    · exact (mk_in ex ey hr hw ho').elim
    · exact ⟨rfl, rfl, rfl, hR⟩
    · have e1 := nI_inj (by omega) (by omega) (ex.symm.trans ex')
      have e2 := nI_inj (by omega) (by omega) (ey.symm.trans ey')
      omega
  · rcases hp2 with ⟨rfl, ho', rfl⟩ | ⟨rfl, r', w', ex', ey', hr', hw', hgt', rfl⟩ | ⟨r', w', ex', ey', hr', hw', hle', rfl, k1, k2, k3, k4, k5, k6⟩
    · exact (mk_in ex ey hr hw ho').elim
    · have e1 := nI_inj (by omega) (by omega) (ex.symm.trans ex')
      have e2 := nI_inj (by omega) (by omega) (ey.symm.trans ey')
      omega
    · have e1 := nI_inj (by omega) (by omega) (ex.symm.trans ex')
      have e2 := nI_inj (by omega) (by omega) (ey.symm.trans ey')
      subst e1 e2
      obtain ⟨hok, hB, ⟨hob, hrd, hlv⟩, hw1, hbg, hmr, hwn⟩ := hR
      obtain ⟨hok', hcn⟩ := okS_make hok hr hw hle (bo_put stw tp)
      refine ⟨rfl, k1, k2, hok', hB, ⟨?_, hrd, hlv⟩, fun i hi => ?_, fun a ha => ?_, hmr, hwn⟩
      · show ob + 1 = cn (bo (bput stw tp)) (n + 1)
        rw [hcn, hob]
      · show u2.2.2.1 i = upd mem tp (nI (256 * w + 16 * r)) i
        by_cases q : i = tp
        · rw [q, k3, pk_us]
        · rw [pk_un q]
          by_cases q2 : i < tp ∨ tp + r + w < i
          · rw [k5 i q2]; exact hw1 i hi
          · rw [k4 i (by omega) (by omega)]
            exact ((hok.2.2.2.2.1 i (by omega) hi).2).symm
      · show u2.2.2.2 a = bI (bo (bput stw tp) a)
        rw [k6, bo_put]
        by_cases q : a = tp
        · rw [q, pk_us]; simp
        · rw [pk_un q, hbg a ha]; simp [q]
theorem cRef_c {n tp : Nat} {mem wrd : Nat → Int32} {st : Nat → Bool} (htp : tp ≤ n + 1) (hw : ∀ i, i ≤ n → wrd i = mem i) {x k v : Int32} {o j : Nat} (h : cRef tp wrd st x k v o j) : cRef tp mem st x k v o j := by
  obtain ⟨h1, ⟨h2, h3, h4⟩, h5⟩ := h
  rw [rfs_c (hw o (by omega))] at h4
  exact ⟨h1, ⟨h2, h3, h4⟩, h5⟩
theorem cSet_c {n tp : Nat} {mem wrd : Nat → Int32} {st : Nat → Bool} (htp : tp ≤ n + 1) (hw : ∀ i, i ≤ n → wrd i = mem i) {x k : Int32} {o j : Nat} (h : cSet tp wrd st x k o j) : cSet tp mem st x k o j := by
  obtain ⟨h1, h2, h3, h4⟩ := h
  have e : pln wrd o = pln mem o := by unfold pln; rw [hw o (by omega)]
  rw [e] at h4
  exact ⟨h1, h2, h3, h4⟩
theorem upd_c {n a : Nat} {mem wrd : Nat → Int32} {v : Int32} (hw : ∀ i, i ≤ n → wrd i = mem i) : ∀ i, i ≤ n → upd wrd a v i = upd mem a v i := by
  intro i hi
  by_cases q : i = a
  · rw [q, pk_us, pk_us]
  · rw [pk_un q, pk_un q]; exact hw i hi
theorem rl_refer {n B nb tp ob rd lv : Nat} {rts offs mem : Nat → Int32} {btw stw : Nat → Int64} {wrd bgs mrt wnt : Nat → Int32} {x k v r1 r2 : Int32} {u1 u2 : Nat → Int32} (hR : RelS n B nb tp ob rd lv rts offs mem btw stw wrd bgs mrt wnt) (hp1 : ((∀ o j, ¬ cRef tp mem (bo stw) x k v o j) ∧ r1 = nI 0 ∧ u1 = mem) ∨ ∃ o j, cRef tp mem (bo stw) x k v o j ∧ r1 = nI 1 ∧ u1 = upd mem (o + 1 + j) v) (hp2 : ((∀ o j, ¬ cRef tp wrd (bo stw) x k v o j) ∧ r2 = nI 0 ∧ u2 = wrd) ∨ ∃ o j, cRef tp wrd (bo stw) x k v o j ∧ r2 = nI 1 ∧ u2 = upd wrd (o + 1 + j) v) : r1 = r2 ∧ RelS n B nb tp ob rd lv rts offs u1 btw stw u2 bgs mrt wnt := by
  obtain ⟨hok, hB, hob, hw1, hbg, hmr, hwn⟩ := id hR
  have htp := hok.1.2.1
  have back : ∀ o j, cRef tp mem (bo stw) x k v o j → cRef tp wrd (bo stw) x k v o j := fun o j h => cRef_c htp (fun i hi => (hw1 i hi).symm) h
  rcases hp1 with ⟨hno, rfl, rfl⟩ | ⟨o, j, c1, rfl, rfl⟩
  · rcases hp2 with ⟨_, rfl, rfl⟩ | ⟨o', j', c2, _⟩
    · exact ⟨rfl, hR⟩
    · exact (hno o' j' (cRef_c htp hw1 c2)).elim
  · rcases hp2 with ⟨hno, _⟩ | ⟨o', j', c2, rfl, rfl⟩
    · exact (hno o j (back o j c1)).elim
    · have c2' := cRef_c htp hw1 c2
      have e1 : o = o' := nI_inj c1.1.1 c2'.1.1 (c1.1.2.1.symm.trans c2'.1.2.1)
      have e2 : j = j' := nI_inj c1.2.1.1 c2'.2.1.1 (c1.2.1.2.1.symm.trans c2'.2.1.2.1)
      subst e1 e2
      have ho : o ≤ n := by have := c1.1.2.2.2.1; omega
      refine ⟨rfl, (okS_refer hok c1).1, hB, hob, ?_, hbg, hmr, hwn⟩
      skip
      exact upd_c hw1
theorem rl_set {n B nb tp ob rd lv : Nat} {rts offs mem : Nat → Int32} {btw stw : Nat → Int64} {wrd bgs mrt wnt : Nat → Int32} {x k v r1 r2 : Int32} {u1 u2 : Nat → Int32} (hR : RelS n B nb tp ob rd lv rts offs mem btw stw wrd bgs mrt wnt) (hp1 : ((∀ o j, ¬ cSet tp mem (bo stw) x k o j) ∧ r1 = nI 0 ∧ u1 = mem) ∨ ∃ o j, cSet tp mem (bo stw) x k o j ∧ r1 = nI 1 ∧ u1 = upd mem (o + 1 + rfs mem o + j) v) (hp2 : ((∀ o j, ¬ cSet tp wrd (bo stw) x k o j) ∧ r2 = nI 0 ∧ u2 = wrd) ∨ ∃ o j, cSet tp wrd (bo stw) x k o j ∧ r2 = nI 1 ∧ u2 = upd wrd (o + 1 + rfs wrd o + j) v) : r1 = r2 ∧ RelS n B nb tp ob rd lv rts offs u1 btw stw u2 bgs mrt wnt := by
  obtain ⟨hok, hB, hob, hw1, hbg, hmr, hwn⟩ := id hR
  have htp := hok.1.2.1
  have back : ∀ o j, cSet tp mem (bo stw) x k o j → cSet tp wrd (bo stw) x k o j := fun o j h => cSet_c htp (fun i hi => (hw1 i hi).symm) h
  rcases hp1 with ⟨hno, rfl, rfl⟩ | ⟨o, j, c1, rfl, rfl⟩
  · rcases hp2 with ⟨_, rfl, rfl⟩ | ⟨o', j', c2, _⟩
    · exact ⟨rfl, hR⟩
    · exact (hno o' j' (cSet_c htp hw1 c2)).elim
  · rcases hp2 with ⟨hno, _⟩ | ⟨o', j', c2, rfl, rfl⟩
    · exact (hno o j (back o j c1)).elim
    · have c2' := cSet_c htp hw1 c2
      have e1 : o = o' := nI_inj c1.1.1 c2'.1.1 (c1.1.2.1.symm.trans c2'.1.2.1)
      have e2 : j = j' := nI_inj c1.2.1 c2'.2.1 (c1.2.2.1.symm.trans c2'.2.2.1)
      subst e1 e2
      have ho : o ≤ n := by have := c1.1.2.2.2.1; omega
      refine ⟨rfl, (okS_set hok c1).1, hB, hob, ?_, hbg, hmr, hwn⟩
      rw [rfs_c (hw1 o ho)]
      exact upd_c hw1
theorem rl_root {n B nb tp ob rd lv : Nat} {rts offs mem : Nat → Int32} {btw stw : Nat → Int64} {wrd bgs mrt wnt : Nat → Int32} {k v r1 r2 : Int32} {u1 u2 : Nat → Int32} (hR : RelS n B nb tp ob rd lv rts offs mem btw stw wrd bgs mrt wnt) (hp1 : ((inR 8 k = false ∨ isL tp (bo stw) v = false) ∧ r1 = nI 0 ∧ u1 = rts) ∨ ∃ j, j < 8 ∧ k = nI j ∧ isL tp (bo stw) v = true ∧ r1 = nI 1 ∧ u1 = upd rts j v) (hp2 : ((inR 8 k = false ∨ isL tp (bo stw) v = false) ∧ r2 = nI 0 ∧ u2 = mrt) ∨ ∃ j, j < 8 ∧ k = nI j ∧ isL tp (bo stw) v = true ∧ r2 = nI 1 ∧ u2 = upd mrt j v) : r1 = r2 ∧ RelS n B nb tp ob rd lv u1 offs mem btw stw wrd bgs u2 wnt := by
  obtain ⟨hok, hB, hob, hw1, hbg, hmr, hwn⟩ := id hR
  have no : ∀ j, j < 8 → k = nI j → isL tp (bo stw) v = true → (inR 8 k = false ∨ isL tp (bo stw) v = false) → False := by
    intro j hj e h1 h2
    rw [e, inR_nat (by omega), h1] at h2
    simp at h2
    omega
  rcases hp1 with ⟨hno, rfl, rfl⟩ | ⟨j, hj, e1, hv, rfl, rfl⟩
  · rcases hp2 with ⟨_, rfl, rfl⟩ | ⟨j', hj', e2, hv', _⟩
    · exact ⟨rfl, hR⟩
    · exact (no j' hj' e2 hv' hno).elim
  · rcases hp2 with ⟨hno, _⟩ | ⟨j', hj', e2, hv', rfl, rfl⟩
    · exact (no j hj e1 hv hno).elim
    · have e : j = j' := nI_inj (by omega) (by omega) (e1.symm.trans e2)
      subst e
      refine ⟨rfl, okS_root hok hv, hB, hob, hw1, hbg, fun i hi => ?_, hwn⟩
      by_cases q : i = j
      · rw [q, pk_us, pk_us]
      · rw [pk_un q, pk_un q]; exact hmr i hi
theorem rl_near {n B nb tp ob rd lv : Nat} {rts offs mem : Nat → Int32} {btw stw : Nat → Int64} {wrd bgs mrt wnt : Nat → Int32} {x r1 r2 : Int32} (hR : RelS n B nb tp ob rd lv rts offs mem btw stw wrd bgs mrt wnt) (hp1 : (inR 101 x = false ∧ r1 = -1) ∨ ∃ q b, q ≤ 100 ∧ x = nI q ∧ (∀ y, y ≤ n → (b y = true ↔ NR mem rts q y)) ∧ r1 = nI (cn b (n + 1))) (hp2 : (inR 101 x = false ∧ r2 = -1) ∨ ∃ q b, q ≤ 100 ∧ x = nI q ∧ (∀ y, y ≤ n → (b y = true ↔ NR wrd mrt q y)) ∧ r2 = nI (cn b (n + 1))) : r1 = r2 := by
  obtain ⟨hok, hB, hob, hw1, hbg, hmr, hwn⟩ := hR
  have no : ∀ q, q ≤ 100 → x = nI q → inR 101 x = false → False := by
    intro q hq e h
    rw [e, inR_nat (by omega)] at h
    simp at h
    omega
  rcases hp1 with ⟨h1, rfl⟩ | ⟨q, b, hq, e, hb, rfl⟩
  · rcases hp2 with ⟨_, rfl⟩ | ⟨q', b', hq', e', _⟩
    · rfl
    · exact (no q' hq' e' h1).elim
  · rcases hp2 with ⟨h2, _⟩ | ⟨q', b', hq', e', hb', rfl⟩
    · exact (no q hq e h2).elim
    · have eq : q = q' := nI_inj (by omega) (by omega) (e.symm.trans e')
      subst eq
      congr 1
      refine cn_congr (fun i hi => ?_)
      have h1 := hb i (by omega)
      have h2 := hb' i (by omega)
      rw [NR_congr hok hw1 hmr] at h2
      cases z : b i <;> cases z' : b' i
      · rfl
      · rw [z] at h1; rw [z'] at h2; exact absurd (h1.mpr (h2.mp rfl)) (by decide)
      · rw [z] at h1; rw [z'] at h2; exact absurd (h2.mpr (h1.mp rfl)) (by decide)
      · rfl
theorem rl_coll {n B nb tp ob rd lv : Nat} {rts offs mem : Nat → Int32} {btw stw : Nat → Int64} {wrd bgs mrt wnt : Nat → Int32} {r1 r2 : Int32} {tp1 ob1 rd1 tp2 ob2 lv2 : Nat} {rts1 offs1 mem1 : Nat → Int32} {btw1 stw1 : Nat → Int64} {wrd2 bgs2 mrt2 wnt2 : Nat → Int32} (hR : RelS n B nb tp ob rd lv rts offs mem btw stw wrd bgs mrt wnt) (hp1 : (r1 = nI (cn (bo btw1) (n + 1)) ∧ tp1 = 1 + cn (bo btw1) (n + 1) ∧ offOk B nb offs1 (bo btw1)) ∧ okL n mem rts (bo btw1) ∧ CP n tp mem (bo stw) (bo btw1) mem1 (bo stw1) rd1 ob1 tp ∧ ∀ j, j < 8 → rts1 j = nI (if tn (rts j) = 0 then 0 else 1 + cn (bo btw1) (tn (rts j)))) (hp2 : ∃ b fst : Nat → Bool, (r2 = nI (cn b (n + 1)) ∧ tp2 = 1 + cn b (n + 1) ∧ lv2 = cn b (n + 1)) ∧ okL n wrd mrt b ∧ (∀ a, a ≤ n → wnt2 a = nI (if b a then 1 + cn b a else 0)) ∧ CP n tp wrd (bo stw) b wrd2 fst (cn b tp) ob2 tp ∧ (∀ j, j ≤ n → bgs2 j = bI (fst j)) ∧ ∀ j, j < 8 → mrt2 j = nI (if tn (mrt j) = 0 then 0 else 1 + cn b (tn (mrt j)))) : r1 = r2 ∧ tp2 = tp1 ∧ ob2 = ob1 ∧ RelS n B nb tp1 ob1 rd1 lv2 rts1 offs1 mem1 btw1 stw1 wrd2 bgs2 mrt2 wnt2 := by
  obtain ⟨hok, ⟨hB, hnb, -⟩, -, hw1, hbg, hmr, hwn⟩ := hR
  obtain ⟨⟨er1, et1, hof⟩, hL, hC, hrt⟩ := hp1
  obtain ⟨b, fst, ⟨er2, et2, el2⟩, hLM, hwM, hCM, hbM, hrM⟩ := hp2
  have hLM2 : okL n mem rts b := okL_congr hok hw1 hmr hLM
  have hbb := okL_eq hL hLM2
  have hcn : ∀ k, k ≤ n + 1 → cn b k = cn (bo btw1) k := fun k hk => cn_congr (fun i hi => hbb i (by omega))
  have hCM2 := cp_congr hok hw1 hbb hCM
  obtain ⟨q1, q2, q3, q4⟩ := cp_uniq hC hCM2
  obtain ⟨k1, k2, k3⟩ := okS_coll hok hL hC hrt
  have hc1 := hcn (n + 1) (Nat.le_refl _)
  refine ⟨by rw [er1, er2, hc1], by rw [et1, et2, hc1], q3, by rw [et1]; exact k1, ⟨hB, hnb, hof⟩, ⟨k2, k3, by rw [el2, k3, hc1]⟩, q1, fun a ha => by rw [hbM a ha, q2 a ha], fun k hk => ?_, fun a ha => by rw [hwM a ha, hbb a ha, hcn a (by omega)]⟩
  rw [hrM k hk, hrt k hk, hmr k hk]
  have htn : tn (rts k) ≤ n := by
    have := hok.1.2.1
    rcases (hok.rootN hk).2 with q | q
    · omega
    · omega
  rw [hcn _ (by omega)]
