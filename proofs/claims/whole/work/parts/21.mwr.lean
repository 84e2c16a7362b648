/-! the reference: make, refer, set, root, its making -/
theorem mz_s {f : Nat → Int32} {a i : Nat} (h : ∀ j, a < j → j < a + i → f j = 0) : ∀ j, a < j → j < a + (i + 1) → upd f (a + i) (nI 0) j = 0 := by
  intro j h1 h2
  by_cases q : j = a + i
  · rw [q]; exact pk_us
  · rw [pk_un q]; exact h j h1 (by omega)
theorem in_X2_init_X2 : ∀ w ∈ wsX20, w ∈ wsX2_init := by decide +kernel
set_option maxHeartbeats 4000000 in
set_option maxRecDepth 100000 in
/-- make -/
theorem c_mmake (l : Launch) (D : va_G) (cI cZ : ClassId) (h1 : Nat) (am : Nat → Nat) (th n B tp ob co lv : Nat) (wrd frs bgs fbs rts wnt far : Nat → Int32) (sz : Nat) (x y : Int32) (hn : n ≤ 4000) (htp : tp ≤ n + 1) (htp1 : 1 ≤ tp) : Met l yX2_make wsX2_make ({ frames := 2, cells := 0, slots := 0, locals := 60 }) (va_Pc [.ref h1, .int x, .int y] (fun U => U.heap.size = sz ∧ va_P D vwCl (mW cI cZ h1 am th n B tp ob co lv wrd frs bgs fbs rts wnt far) U.heap ∧ va_K D vwCl [(cI, .int), (cZ, .boolean)] U ∧ va_D (fun _ => True) (mW cI cZ h1 am th n B tp ob co lv wrd frs bgs fbs rts wnt far))) (va_Qi (fun (r9 : Int32) (u : Nat × Nat × (Nat → Int32) × (Nat → Int32)) => (u = (tp, ob, wrd, bgs) ∧ ((inR 16 x = false ∨ inR 101 y = false) ∧ r9 = -1)) ∨ (u = (tp, ob, wrd, bgs) ∧ ∃ r w, x = nI r ∧ y = nI w ∧ r ≤ 15 ∧ w ≤ 100 ∧ n < tp + r + w ∧ r9 = nI 0) ∨ (∃ r w, x = nI r ∧ y = nI w ∧ r ≤ 15 ∧ w ≤ 100 ∧ tp + r + w ≤ n ∧ r9 = nI tp ∧ u.1 = tp + (1 + r + w) ∧ u.2.1 = ob + 1 ∧ u.2.2.1 tp = nI (256 * w + 16 * r) ∧ (∀ j, tp < j → j ≤ tp + r + w → u.2.2.1 j = 0) ∧ (∀ j, j < tp ∨ tp + r + w < j → u.2.2.1 j = wrd j) ∧ u.2.2.2 = upd bgs tp (bI true))) (fun (u : Nat × Nat × (Nat → Int32) × (Nat → Int32)) t => va_P D vwCl (mW cI cZ h1 am th n B u.1 u.2.1 co lv u.2.2.1 frs u.2.2.2 fbs rts wnt far) t.heap ∧ va_D (va_A (mW cI cZ h1 am th n B tp ob co lv wrd frs bgs fbs rts wnt far) sz) (mW cI cZ h1 am th n B u.1 u.2.1 co lv u.2.2.1 frs u.2.2.2 fbs rts wnt far)) (va_A (mW cI cZ h1 am th n B tp ob co lv wrd frs bgs fbs rts wnt far) sz)) 0 0 (va_A (mW cI cZ h1 am th n B tp ob co lv wrd frs bgs fbs rts wnt far) sz) := by
  refine Met.ofW (cc := cX2_make) (maxL := 5) (ret := (some .int)) (by decide) rfl ?_
  intro p e s m args below meth c s₁ B9 hml hv
  obtain ⟨rfl, hsz, hP, hK, hD0⟩ := hv
  have hx := B9.exec
  have hb := B9.bytes
  have hr := B9.returns
  have hts := atoms_spec (ws := wsX2_make) B9.pre
  have hown : s.vm.findClass RX2 = some m.cls := findClass_of_methodNamed B9.named
  have hlocks := B9.notSynchronized
  subst hsz
  have hD := hD0.self (sz := s.heap.size)
  generalize hAe : va_A (mW cI cZ h1 am th n B tp ob co lv wrd frs bgs fbs rts wnt far) s.heap.size = A at hD ⊢
  have hA : ∀ q : Nat, s.heap.size ≤ q → A q := fun q h => by rw [← hAe]; exact Or.inr h
  have hS : va_S A s.heap s.heap [] := va_S.rf
  have hl := lv_entry ([.ref h1, .int x, .int y]) (n := 5) (Nat.le_of_ble_eq_true rfl)
  rw [lg_entry_eq]
  generalize (lg_sl ([.ref h1, .int x, .int y]) ++ List.replicate (5 - (lg_sl ([.ref h1, .int x, .int y])).length) Slot.unset).toArray = ls at hl ⊢
  have hl : lv_has ls 5 [(0, .ref h1), (1, .int x), (2, .int y)] := hl
  refine lv_iload_n hx hb dX2_make_0 rfl (lv_at hl 1 rfl) ?_
  refine lv_iconst (v := nI 0) hx hb dX2_make_1 (by decide +kernel) ?_
  refine lv_bipush (v := nI 15) hx hb dX2_make_2 (by decide +kernel) ?_
  refine xk_roS (As := [.int x, .int (nI 0), .int (nI 15)]) (rest := []) ⟨hx, hb, hml, hown, hts⟩ (c_isIn l x 0 (16) (nI 15) (by omega) (by omega) (by decide)) (va_cwS 3 hts gX2_make_X2_isIn rfl rfl rfl (by decide +kernel) ⟨Nat.le_of_ble_eq_true rfl, Nat.le_of_ble_eq_true rfl⟩) rfl hl.1 rfl (Nat.le_of_ble_eq_true rfl) dX2_make_4 ⟨Nat.zero_le _, Nat.zero_le _⟩ ?_
  refine xk_if_eqB (tgt := 20) hx hb dX2_make_7 (by decide) (fun c7 => ?_) (fun c7 => ?_)
  · refine lv_iconst (v := (-1)) hx hb dX2_make_20 (by decide +kernel) ?_
    exact W.iret hx hb hr (fun t ht hW => ⟨⟨_, (tp, ob, wrd, bgs), rfl, Or.inl ⟨rfl, Or.inl (by rw [inL_0] at c7; exact c7), rfl⟩, by rw [ht]; exact hP, hD⟩, hS.F ht⟩) hS.2.2 dX2_make_21
  · refine lv_iload_n hx hb dX2_make_10 rfl (lv_at hl 2 rfl) ?_
    refine lv_iconst (v := nI 0) hx hb dX2_make_11 (by decide +kernel) ?_
    refine lv_bipush (v := nI 100) hx hb dX2_make_12 (by decide +kernel) ?_
    refine xk_roS (As := [.int y, .int (nI 0), .int (nI 100)]) (rest := []) ⟨hx, hb, hml, hown, hts⟩ (c_isIn l y 0 (101) (nI 100) (by omega) (by omega) (by decide)) (va_cwS 3 hts gX2_make_X2_isIn rfl rfl rfl (by decide +kernel) ⟨Nat.le_of_ble_eq_true rfl, Nat.le_of_ble_eq_true rfl⟩) rfl hl.1 rfl (Nat.le_of_ble_eq_true rfl) dX2_make_14 ⟨Nat.zero_le _, Nat.zero_le _⟩ ?_
    refine xk_if_neB (tgt := 22) hx hb dX2_make_17 (by decide) (fun c17 => ?_) (fun c17 => ?_)
    · rw [inL_0] at c7 c17
      obtain ⟨r, hr0, er, hr1⟩ := inR_t c7
      obtain ⟨w, hw0, ew, hw1⟩ := inR_t c17
      refine lv_aload_n hx hb dX2_make_22 rfl (lv_at hl 0 rfl) ?_
      refine va_get (D := D) (ci := 2) (v := .int (nI tp)) (C := RX2) (T := TX2) (N := 14) hx hb hts in_X2_make_X2 hown hK hP 0 rfl rfl 3 (by decide) (hts (.fieldLink RX2 7 "OffsetHeapModel" "top" "I") (by decide +kernel)) (fun _ h9 => h9) rfl dX2_make_23 ?_
      refine lv_iload_n hx hb dX2_make_26 rfl (lv_at hl 1 rfl) ?_
      refine xk_top er ?_
      refine lv_iadd hx hb dX2_make_27 ?_
      refine xk_top (nI_add _ _) ?_
      refine lv_iload_n hx hb dX2_make_28 rfl (lv_at hl 2 rfl) ?_
      refine xk_top ew ?_
      refine lv_iadd hx hb dX2_make_29 ?_
      refine xk_top (nI_add _ _) ?_
      refine lv_aload_n hx hb dX2_make_30 rfl (lv_at hl 0 rfl) ?_
      refine va_get (D := D) (ci := 2) (v := .int (nI n)) (C := RX2) (T := TX2) (N := 14) hx hb hts in_X2_make_X2 hown hK hP 0 rfl rfl 1 (by decide) (hts (.fieldLink RX2 36 "OffsetHeapModel" "most" "I") (by decide +kernel)) (fun _ h9 => h9) rfl dX2_make_31 ?_
      refine xk_icmp_le (tgt := 39) hx hb (by omega) (by omega) dX2_make_34 (by decide) (fun c34 => ?_) (fun c34 => ?_)
      · refine lv_aload_n hx hb dX2_make_39 rfl (lv_at hl 0 rfl) ?_
        refine va_get (D := D) (ci := 2) (v := .int (nI tp)) (C := RX2) (T := TX2) (N := 14) hx hb hts in_X2_make_X2 hown hK hP 0 rfl rfl 3 (by decide) (hts (.fieldLink RX2 7 "OffsetHeapModel" "top" "I") (by decide +kernel)) (fun _ h9 => h9) rfl dX2_make_40 ?_
        refine lv_istore_n (lv' := [(3, .int (nI tp)), (0, .ref h1), (1, .int x), (2, .int y)]) hx hb dX2_make_43 rfl hl (by decide) rfl (fun ls hl => ?_)
        refine lv_aload_n hx hb dX2_make_44 rfl (lv_at hl 1 rfl) ?_
        refine va_get (D := D) (ci := 2) (v := .ref (am 1)) (C := RX2) (T := TX2) (N := 14) hx hb hts in_X2_make_X2 hown hK hP 0 rfl rfl 7 (by decide) (hts (.fieldLink RX2 13 "OffsetHeapModel" "words" "[I") (by decide +kernel)) (fun _ h9 => h9) rfl dX2_make_45 ?_
        refine lv_iload_n hx hb dX2_make_48 rfl (lv_at hl 0 rfl) ?_
        refine lv_sipush (v := nI 256) hx hb dX2_make_49 (by decide +kernel) ?_
        refine lv_iload_n hx hb dX2_make_52 rfl (lv_at hl 3 rfl) ?_
        refine xk_top ew ?_
        refine lv_imul hx hb dX2_make_53 ?_
        refine xk_top (pk_mul _ _) ?_
        refine lv_bipush (v := nI 16) hx hb dX2_make_54 (by decide +kernel) ?_
        refine lv_iload_n hx hb dX2_make_56 rfl (lv_at hl 2 rfl) ?_
        refine xk_top er ?_
        refine lv_imul hx hb dX2_make_57 ?_
        refine xk_top (pk_mul _ _) ?_
        refine lv_iadd hx hb dX2_make_58 ?_
        refine xk_top (nI_add _ _) ?_
        refine xk_iast hx hb hK hP hD hS 1 0 rfl rfl (by omega) (by omega) dX2_make_59 (fun H locs hP hD hS => ?_)
        have hP : va_P D vwCl (mW cI cZ h1 am th n B tp ob co lv (upd wrd tp (nI ((256 * w) + (16 * r)))) frs bgs fbs rts wnt far) H := hP
        have hD : va_D A (mW cI cZ h1 am th n B tp ob co lv (upd wrd tp (nI ((256 * w) + (16 * r)))) frs bgs fbs rts wnt far) := hD
        have key : ∀ (d : Nat) (wrd1 : Nat → Int32) (i : Nat) (H : Heap) (locs : List Loc) (ls : Array Slot), r + w + 2 ≤ i + d → i ≤ r + w + 1 → 1 ≤ i → wrd1 tp = nI (256 * w + 16 * r) → (∀ j, tp < j → j < tp + i → wrd1 j = 0) → (∀ j, j < tp ∨ tp + i ≤ j → wrd1 j = wrd j) → va_P D vwCl (mW cI cZ h1 am th n B tp ob co lv wrd1 frs bgs fbs rts wnt far) H → va_D A (mW cI cZ h1 am th n B tp ob co lv wrd1 frs bgs fbs rts wnt far) → va_S A s.heap H locs → lv_has ls 5 [(0, .ref h1), (1, .int x), (2, .int y), (3, .int (nI tp)), (4, .int (nI i))] → W p l e (headSpec wsX2_make ({ frames := 2, cells := 0, slots := 0, locals := 60 })).room s m ([.ref h1, .int x, .int y] : List Value).toArray below meth c H locs 0 0 (MQ below (va_Qi (fun (r9 : Int32) (u : Nat × Nat × (Nat → Int32) × (Nat → Int32)) => (u = (tp, ob, wrd, bgs) ∧ ((inR 16 x = false ∨ inR 101 y = false) ∧ r9 = -1)) ∨ (u = (tp, ob, wrd, bgs) ∧ ∃ r w, x = nI r ∧ y = nI w ∧ r ≤ 15 ∧ w ≤ 100 ∧ n < tp + r + w ∧ r9 = nI 0) ∨ (∃ r w, x = nI r ∧ y = nI w ∧ r ≤ 15 ∧ w ≤ 100 ∧ tp + r + w ≤ n ∧ r9 = nI tp ∧ u.1 = tp + (1 + r + w) ∧ u.2.1 = ob + 1 ∧ u.2.2.1 tp = nI (256 * w + 16 * r) ∧ (∀ j, tp < j → j ≤ tp + r + w → u.2.2.1 j = 0) ∧ (∀ j, j < tp ∨ tp + r + w < j → u.2.2.1 j = wrd j) ∧ u.2.2.2 = upd bgs tp (bI true))) (fun (u : Nat × Nat × (Nat → Int32) × (Nat → Int32)) t => va_P D vwCl (mW cI cZ h1 am th n B u.1 u.2.1 co lv u.2.2.1 frs u.2.2.2 fbs rts wnt far) t.heap ∧ va_D A (mW cI cZ h1 am th n B u.1 u.2.1 co lv u.2.2.1 frs u.2.2.2 fbs rts wnt far)) A) ([.ref h1, .int x, .int y] : List Value).toArray s 0 0 A) (F0 m 63 ls []) := by
          intro d
          induction d with
          | zero =>
            intro wrd1 i H locs ls hd hi hi1 h1w h2w h3w hP hD hS hl
            exfalso; omega
          | succ d ih =>
            intro wrd1 i H locs ls hd hi hi1 h1w h2w h3w hP hD hS hl
            refine lv_iload hx hb dX2_make_63 (lv_at hl 4 rfl) ?_
            refine lv_iload_n hx hb dX2_make_65 rfl (lv_at hl 1 rfl) ?_
            refine xk_top er ?_
            refine lv_iload_n hx hb dX2_make_66 rfl (lv_at hl 2 rfl) ?_
            refine xk_top ew ?_
            refine lv_iadd hx hb dX2_make_67 ?_
            refine xk_top (nI_add _ _) ?_
            refine xk_icmp_gt (tgt := 87) hx hb (by omega) (by omega) dX2_make_68 (by decide) (fun c68 => ?_) (fun c68 => ?_)
            · refine lv_aload_n hx hb dX2_make_87 rfl (lv_at hl 0 rfl) ?_
              refine va_get (D := D) (ci := 2) (v := .ref (am 3)) (C := RX2) (T := TX2) (N := 14) hx hb hts in_X2_make_X2 hown hK hP 0 rfl rfl 9 (by decide) (hts (.fieldLink RX2 20 "OffsetHeapModel" "begins" "[Z") (by decide +kernel)) (fun _ h9 => h9) rfl dX2_make_88 ?_
              refine lv_iload_n hx hb dX2_make_91 rfl (lv_at hl 3 rfl) ?_
              refine lv_iconst (v := nI 1) hx hb dX2_make_92 (by decide +kernel) ?_
              refine xk_zast (z := true) hx hb hK hP hD hS 3 1 rfl rfl (by omega) (by omega) dX2_make_93 (fun H locs hP hD hS => ?_)
              have hP : va_P D vwCl (mW cI cZ h1 am th n B tp ob co lv wrd1 frs (upd bgs tp (bI true)) fbs rts wnt far) H := hP
              have hD : va_D A (mW cI cZ h1 am th n B tp ob co lv wrd1 frs (upd bgs tp (bI true)) fbs rts wnt far) := hD
              refine lv_aload_n hx hb dX2_make_94 rfl (lv_at hl 0 rfl) ?_
              refine lv_aload_n hx hb dX2_make_95 rfl (lv_at hl 0 rfl) ?_
              refine va_get (D := D) (ci := 2) (v := .int (nI tp)) (C := RX2) (T := TX2) (N := 14) hx hb hts in_X2_make_X2 hown hK hP 0 rfl rfl 3 (by decide) (hts (.fieldLink RX2 7 "OffsetHeapModel" "top" "I") (by decide +kernel)) (fun _ h9 => h9) rfl dX2_make_96 ?_
              refine lv_iconst (v := nI 1) hx hb dX2_make_99 (by decide +kernel) ?_
              refine lv_iadd hx hb dX2_make_100 ?_
              refine xk_top (nI_add _ _) ?_
              refine lv_iload_n hx hb dX2_make_101 rfl (lv_at hl 1 rfl) ?_
              refine xk_top er ?_
              refine lv_iadd hx hb dX2_make_102 ?_
              refine xk_top (nI_add _ _) ?_
              refine lv_iload_n hx hb dX2_make_103 rfl (lv_at hl 2 rfl) ?_
              refine xk_top ew ?_
              refine lv_iadd hx hb dX2_make_104 ?_
              refine xk_top (nI_add _ _) ?_
              refine va_put (D := D) (ci := 2) (v := .int (nI (((tp + 1) + r) + w))) (ty := .int) (C := RX2) (T := TX2) (N := 14) hx hb hts in_X2_make_X2 tyX2 tyX2_ok nmX2 hown hK hP hD hS 0 rfl rfl 3 (by decide) (hts (.fieldLink RX2 7 "OffsetHeapModel" "top" "I") (by decide +kernel)) (fun _ h9 => h9) rfl (by decide +kernel) rfl rfl (Nat.le_of_ble_eq_true rfl) dX2_make_105 (fun H locs hP hD hS => ?_)
              have hP : va_P D vwCl (mW cI cZ h1 am th n B (((tp + 1) + r) + w) ob co lv wrd1 frs (upd bgs tp (bI true)) fbs rts wnt far) H := hP
              have hD : va_D A (mW cI cZ h1 am th n B (((tp + 1) + r) + w) ob co lv wrd1 frs (upd bgs tp (bI true)) fbs rts wnt far) := hD
              refine lv_aload_n hx hb dX2_make_108 rfl (lv_at hl 0 rfl) ?_
              refine lv_dup hx hb dX2_make_109 rfl ?_
              refine va_get (D := D) (ci := 2) (v := .int (nI ob)) (C := RX2) (T := TX2) (N := 14) hx hb hts in_X2_make_X2 hown hK hP 0 rfl rfl 4 (by decide) (hts (.fieldLink RX2 56 "OffsetHeapModel" "objects" "I") (by decide +kernel)) (fun _ h9 => h9) rfl dX2_make_110 ?_
              refine lv_iconst (v := nI 1) hx hb dX2_make_113 (by decide +kernel) ?_
              refine lv_iadd hx hb dX2_make_114 ?_
              refine xk_top (nI_add _ _) ?_
              refine va_put (D := D) (ci := 2) (v := .int (nI (ob + 1))) (ty := .int) (C := RX2) (T := TX2) (N := 14) hx hb hts in_X2_make_X2 tyX2 tyX2_ok nmX2 hown hK hP hD hS 0 rfl rfl 4 (by decide) (hts (.fieldLink RX2 56 "OffsetHeapModel" "objects" "I") (by decide +kernel)) (fun _ h9 => h9) rfl (by decide +kernel) rfl rfl (Nat.le_of_ble_eq_true rfl) dX2_make_115 (fun H locs hP hD hS => ?_)
              have hP : va_P D vwCl (mW cI cZ h1 am th n B (((tp + 1) + r) + w) (ob + 1) co lv wrd1 frs (upd bgs tp (bI true)) fbs rts wnt far) H := hP
              have hD : va_D A (mW cI cZ h1 am th n B (((tp + 1) + r) + w) (ob + 1) co lv wrd1 frs (upd bgs tp (bI true)) fbs rts wnt far) := hD
              refine lv_iload_n hx hb dX2_make_118 rfl (lv_at hl 3 rfl) ?_
              exact W.iret hx hb hr (fun t ht hW => ⟨⟨_, (tp + 1 + r + w, ob + 1, wrd1, upd bgs tp (bI true)), rfl, Or.inr (Or.inr ⟨r, w, er, ew, by omega, by omega, by omega, rfl, by show tp + 1 + r + w = _; omega, rfl, h1w, fun j j1 j2 => h2w j j1 (by omega), fun j hj => h3w j (by omega), rfl⟩), by rw [ht]; exact hP, hD⟩, hS.F ht⟩) hS.2.2 dX2_make_119
            · refine lv_aload_n hx hb dX2_make_71 rfl (lv_at hl 0 rfl) ?_
              refine va_get (D := D) (ci := 2) (v := .ref (am 1)) (C := RX2) (T := TX2) (N := 14) hx hb hts in_X2_make_X2 hown hK hP 0 rfl rfl 7 (by decide) (hts (.fieldLink RX2 13 "OffsetHeapModel" "words" "[I") (by decide +kernel)) (fun _ h9 => h9) rfl dX2_make_72 ?_
              refine lv_iload_n hx hb dX2_make_75 rfl (lv_at hl 3 rfl) ?_
              refine lv_iload hx hb dX2_make_76 (lv_at hl 4 rfl) ?_
              refine lv_iadd hx hb dX2_make_78 ?_
              refine xk_top (nI_add _ _) ?_
              refine lv_iconst (v := nI 0) hx hb dX2_make_79 (by decide +kernel) ?_
              refine xk_iast hx hb hK hP hD hS 1 0 rfl rfl (by omega) (by omega) dX2_make_80 (fun H locs hP hD hS => ?_)
              have hP : va_P D vwCl (mW cI cZ h1 am th n B tp ob co lv (upd wrd1 (tp + i) (nI 0)) frs bgs fbs rts wnt far) H := hP
              have hD : va_D A (mW cI cZ h1 am th n B tp ob co lv (upd wrd1 (tp + i) (nI 0)) frs bgs fbs rts wnt far) := hD
              refine lv_iinc (v := nI (i + 1)) (lv' := [(4, .int (nI (i + 1))), (0, .ref h1), (1, .int x), (2, .int y), (3, .int (nI tp))]) hx hb dX2_make_81 hl (k := 4) rfl (xk_inc i) (by decide) rfl (fun ls hl => ?_)
              refine lv_goto (tgt := 63) hx hb dX2_make_84 (by decide) ?_
              exact ih (upd wrd1 (tp + i) (nI 0)) (i + 1) H locs ls (by omega) (by omega) (by omega) (by rw [pk_un (by omega)]; exact h1w) (mz_s h2w) (fun j hj => by rw [pk_un (by omega)]; exact h3w j (by omega)) hP hD hS (lv_sub hl [1, 2, 3, 4, 0] rfl)
        refine lv_iconst (v := nI 1) hx hb dX2_make_60 (by decide +kernel) ?_
        refine lv_istore (lv' := [(4, .int (nI 1)), (3, .int (nI tp)), (0, .ref h1), (1, .int x), (2, .int y)]) hx hb dX2_make_61 hl (by decide) rfl (fun ls hl => ?_)
        exact key (r + w + 2) _ 1 H locs ls (by omega) (by omega) (by omega) pk_us (fun j j1 j2 => by omega) (fun j hj => pk_un (by omega)) hP hD hS (lv_sub hl [2, 3, 4, 1, 0] rfl)
      · refine lv_iconst (v := nI 0) hx hb dX2_make_37 (by decide +kernel) ?_
        exact W.iret hx hb hr (fun t ht hW => ⟨⟨_, (tp, ob, wrd, bgs), rfl, Or.inr (Or.inl ⟨rfl, r, w, er, ew, by omega, by omega, by omega, rfl⟩), by rw [ht]; exact hP, hD⟩, hS.F ht⟩) hS.2.2 dX2_make_38
    · refine lv_iconst (v := (-1)) hx hb dX2_make_20 (by decide +kernel) ?_
      exact W.iret hx hb hr (fun t ht hW => ⟨⟨_, (tp, ob, wrd, bgs), rfl, Or.inl ⟨rfl, Or.inr (by rw [inL_0] at c17; exact c17), rfl⟩, by rw [ht]; exact hP, hD⟩, hS.F ht⟩) hS.2.2 dX2_make_21
set_option maxHeartbeats 4000000 in
set_option maxRecDepth 100000 in
/-- refer -/
theorem c_mrefer (l : Launch) (D : va_G) (cI cZ : ClassId) (h1 : Nat) (am : Nat → Nat) (th n B tp ob co lv : Nat) (wrd frs bgs fbs rts wnt far : Nat → Int32) (sz : Nat) (st : Nat → Bool) (x k v : Int32) (hok : okS n tp wrd st rts) (hbg : ∀ a, a ≤ n → bgs a = bI (st a)) : Met l yX2_refer wsX2_refer ({ frames := 3, cells := 0, slots := 0, locals := 90 }) (va_Pc [.ref h1, .int x, .int k, .int v] (fun U => U.heap.size = sz ∧ va_P D vwCl (mW cI cZ h1 am th n B tp ob co lv wrd frs bgs fbs rts wnt far) U.heap ∧ va_K D vwCl [(cI, .int), (cZ, .boolean)] U ∧ va_D (fun _ => True) (mW cI cZ h1 am th n B tp ob co lv wrd frs bgs fbs rts wnt far))) (va_Qi (fun (r9 : Int32) (u : Nat → Int32) => ((∀ o j, ¬ cRef tp wrd st x k v o j) ∧ r9 = nI 0 ∧ u = wrd) ∨ ∃ o j, cRef tp wrd st x k v o j ∧ r9 = nI 1 ∧ u = upd wrd (o + 1 + j) v) (fun (u : Nat → Int32) t => va_P D vwCl (mW cI cZ h1 am th n B tp ob co lv u frs bgs fbs rts wnt far) t.heap ∧ va_D (va_A (mW cI cZ h1 am th n B tp ob co lv wrd frs bgs fbs rts wnt far) sz) (mW cI cZ h1 am th n B tp ob co lv u frs bgs fbs rts wnt far)) (va_A (mW cI cZ h1 am th n B tp ob co lv wrd frs bgs fbs rts wnt far) sz)) 0 0 (va_A (mW cI cZ h1 am th n B tp ob co lv wrd frs bgs fbs rts wnt far) sz) := by
  refine Met.ofW (cc := cX2_refer) (maxL := 4) (ret := (some .boolean)) (by decide) rfl ?_
  intro p e s m args below meth c s₁ B9 hml hv
  obtain ⟨rfl, hsz, hP, hK, hD0⟩ := hv
  have hx := B9.exec
  have hb := B9.bytes
  have hr := B9.returns
  have hts := atoms_spec (ws := wsX2_refer) B9.pre
  have hown : s.vm.findClass RX2 = some m.cls := findClass_of_methodNamed B9.named
  have hlocks := B9.notSynchronized
  subst hsz
  have hD := hD0.self (sz := s.heap.size)
  generalize hAe : va_A (mW cI cZ h1 am th n B tp ob co lv wrd frs bgs fbs rts wnt far) s.heap.size = A at hD ⊢
  have hA : ∀ q : Nat, s.heap.size ≤ q → A q := fun q h => by rw [← hAe]; exact Or.inr h
  have hS : va_S A s.heap s.heap [] := va_S.rf
  have hl := lv_entry ([.ref h1, .int x, .int k, .int v]) (n := 4) (Nat.le_of_ble_eq_true rfl)
  rw [lg_entry_eq]
  generalize (lg_sl ([.ref h1, .int x, .int k, .int v]) ++ List.replicate (4 - (lg_sl ([.ref h1, .int x, .int k, .int v])).length) Slot.unset).toArray = ls at hl ⊢
  have hl : lv_has ls 4 [(0, .ref h1), (1, .int x), (2, .int k), (3, .int v)] := hl
  have htp := hok.1.2.1
  have hn := hok.1.2.2
  refine lv_aload_n hx hb dX2_refer_0 rfl (lv_at hl 0 rfl) ?_
  refine lv_iload_n hx hb dX2_refer_1 rfl (lv_at hl 1 rfl) ?_
  refine xk_roV (As := [.int x]) (rest := []) ⟨hx, hb, hml, hown, hts⟩ (c_misObject l D cI cZ h1 am th n B tp ob co lv wrd frs bgs fbs rts wnt far st x hok hbg) (cwV 1 hts gX2_refer_X2_isObject rfl rfl rfl (by decide +kernel) ⟨Nat.le_of_ble_eq_true rfl, Nat.le_of_ble_eq_true rfl⟩) (va_recv hK hP (ci := 2) (q0 := 0) rfl rfl) hP hK rfl hl.1 rfl (Nat.le_of_ble_eq_true rfl) dX2_refer_2 ⟨Nat.zero_le _, Nat.zero_le _⟩ ?_
  refine xk_if_eqB (tgt := 31) hx hb dX2_refer_5 (by decide) (fun c5 => ?_) (fun c5 => ?_)
  · refine lv_iconst (v := nI 0) hx hb dX2_refer_31 (by decide +kernel) ?_
    exact W.zret hx hb hr rfl (fun t ht hW => ⟨⟨_, wrd, rfl, Or.inl ⟨fun o' j' c => isO_no c5 c.1.1 c.1.2.1 c.1.2.2.1 c.1.2.2.2.1 c.1.2.2.2.2, rfl, rfl⟩, by rw [ht]; exact hP, hD⟩, hS.F ht⟩) hS.2.2 dX2_refer_32
  · obtain ⟨o, ho, eo, o1, o2, o3⟩ := isO_t c5
    have hh := hok.hdr o1 o2 o3
    have hs := hok.hsm o1 o2 o3
    have hf := hok.fit o1 o2 o3
    unfold siz at hf
    refine lv_aload_n hx hb dX2_refer_8 rfl (lv_at hl 0 rfl) ?_
    refine lv_iload_n hx hb dX2_refer_9 rfl (lv_at hl 3 rfl) ?_
    refine xk_roV (As := [.int v]) (rest := []) ⟨hx, hb, hml, hown, hts⟩ (c_misLead l D cI cZ h1 am th n B tp ob co lv wrd frs bgs fbs rts wnt far st v hok hbg) (cwV 1 hts gX2_refer_X2_isLead rfl rfl rfl (by decide +kernel) ⟨Nat.le_of_ble_eq_true rfl, Nat.le_of_ble_eq_true rfl⟩) (va_recv hK hP (ci := 2) (q0 := 0) rfl rfl) hP hK rfl hl.1 rfl (Nat.le_of_ble_eq_true rfl) dX2_refer_10 ⟨Nat.zero_le _, Nat.zero_le _⟩ ?_
    refine xk_if_eqB (tgt := 31) hx hb dX2_refer_13 (by decide) (fun c13 => ?_) (fun c13 => ?_)
    · refine lv_iconst (v := nI 0) hx hb dX2_refer_31 (by decide +kernel) ?_
      exact W.zret hx hb hr rfl (fun t ht hW => ⟨⟨_, wrd, rfl, Or.inl ⟨fun o' j' c => absurd c.2.2 (by rw [c13]; decide), rfl, rfl⟩, by rw [ht]; exact hP, hD⟩, hS.F ht⟩) hS.2.2 dX2_refer_32
    · refine lv_iload_n hx hb dX2_refer_16 rfl (lv_at hl 2 rfl) ?_
      refine lv_iconst (v := nI 0) hx hb dX2_refer_17 (by decide +kernel) ?_
      refine lv_aload_n hx hb dX2_refer_18 rfl (lv_at hl 0 rfl) ?_
      refine lv_iload_n hx hb dX2_refer_19 rfl (lv_at hl 1 rfl) ?_
      refine xk_top eo ?_
      refine xk_roV (As := [.int (nI o)]) (rest := [.int (nI 0), .int k]) ⟨hx, hb, hml, hown, hts⟩ (c_mreferences l D cI cZ h1 am th n B tp ob co lv wrd frs bgs fbs rts wnt far o (by omega) hh (by omega)) (cwV 1 hts gX2_refer_X2_references rfl rfl rfl (by decide +kernel) ⟨Nat.le_of_ble_eq_true rfl, Nat.le_of_ble_eq_true rfl⟩) (va_recv hK hP (ci := 2) (q0 := 0) rfl rfl) hP hK rfl hl.1 rfl (Nat.le_of_ble_eq_true rfl) dX2_refer_20 ⟨Nat.zero_le _, Nat.zero_le _⟩ ?_
      refine lv_iconst (v := nI 1) hx hb dX2_refer_23 (by decide +kernel) ?_
      refine lv_isub hx hb dX2_refer_24 ?_
      refine xk_top rfl ?_
      refine xk_roS (As := [.int k, .int (nI 0), .int (nI (tn (wrd o) / 16 % 16) - nI 1)]) (rest := []) ⟨hx, hb, hml, hown, hts⟩ (c_isIn l k 0 (tn (wrd o) / 16 % 16) (nI (tn (wrd o) / 16 % 16) - nI 1) (by omega) (by omega) (hi_s (by omega))) (va_cwS 3 hts gX2_refer_X2_isIn rfl rfl rfl (by decide +kernel) ⟨Nat.le_of_ble_eq_true rfl, Nat.le_of_ble_eq_true rfl⟩) rfl hl.1 rfl (Nat.le_of_ble_eq_true rfl) dX2_refer_25 ⟨Nat.zero_le _, Nat.zero_le _⟩ ?_
      refine xk_if_neB (tgt := 33) hx hb dX2_refer_28 (by decide) (fun c28 => ?_) (fun c28 => ?_)
      · rw [inL_0] at c28
        obtain ⟨j, hj, ej, hj1⟩ := inR_t c28
        refine lv_aload_n hx hb dX2_refer_33 rfl (lv_at hl 0 rfl) ?_
        refine va_get (D := D) (ci := 2) (v := .ref (am 1)) (C := RX2) (T := TX2) (N := 14) hx hb hts in_X2_refer_X2 hown hK hP 0 rfl rfl 7 (by decide) (hts (.fieldLink RX2 13 "OffsetHeapModel" "words" "[I") (by decide +kernel)) (fun _ h9 => h9) rfl dX2_refer_34 ?_
        refine lv_iload_n hx hb dX2_refer_37 rfl (lv_at hl 1 rfl) ?_
        refine xk_top eo ?_
        refine lv_iconst (v := nI 1) hx hb dX2_refer_38 (by decide +kernel) ?_
        refine lv_iadd hx hb dX2_refer_39 ?_
        refine xk_top (nI_add _ _) ?_
        refine lv_iload_n hx hb dX2_refer_40 rfl (lv_at hl 2 rfl) ?_
        refine xk_top ej ?_
        refine lv_iadd hx hb dX2_refer_41 ?_
        refine xk_top (nI_add _ _) ?_
        refine lv_iload_n hx hb dX2_refer_42 rfl (lv_at hl 3 rfl) ?_
        refine xk_iast hx hb hK hP hD hS 1 0 rfl rfl (by omega) (by omega) dX2_refer_43 (fun H locs hP hD hS => ?_)
        have hP : va_P D vwCl (mW cI cZ h1 am th n B tp ob co lv (upd wrd ((o + 1) + j) v) frs bgs fbs rts wnt far) H := hP
        have hD : va_D A (mW cI cZ h1 am th n B tp ob co lv (upd wrd ((o + 1) + j) v) frs bgs fbs rts wnt far) := hD
        refine lv_iconst (v := nI 1) hx hb dX2_refer_44 (by decide +kernel) ?_
        exact W.zret hx hb hr rfl (fun t ht hW => ⟨⟨_, _, rfl, Or.inr ⟨o, j, ⟨⟨ho, eo, o1, o2, o3⟩, ⟨hj, ej, by unfold rfs; omega⟩, c13⟩, rfl, rfl⟩, by rw [ht]; exact hP, hD⟩, hS.F ht⟩) hS.2.2 dX2_refer_45
      · refine lv_iconst (v := nI 0) hx hb dX2_refer_31 (by decide +kernel) ?_
        exact W.zret hx hb hr rfl (fun t ht hW => ⟨⟨_, wrd, rfl, Or.inl ⟨fun o' j' c => by have e1 := nI_inj c.1.1 ho (c.1.2.1.symm.trans eo); have e3 := c.2.1.2.2; rw [inL_0, c.2.1.2.1, inR_nat c.2.1.1] at c28; rw [e1] at e3; unfold rfs at e3; simp at c28; omega, rfl, rfl⟩, by rw [ht]; exact hP, hD⟩, hS.F ht⟩) hS.2.2 dX2_refer_32
set_option maxHeartbeats 4000000 in
set_option maxRecDepth 100000 in
/-- set -/
theorem c_mset (l : Launch) (D : va_G) (cI cZ : ClassId) (h1 : Nat) (am : Nat → Nat) (th n B tp ob co lv : Nat) (wrd frs bgs fbs rts wnt far : Nat → Int32) (sz : Nat) (st : Nat → Bool) (x k v : Int32) (hok : okS n tp wrd st rts) (hbg : ∀ a, a ≤ n → bgs a = bI (st a)) : Met l yX2_set wsX2_set ({ frames := 3, cells := 0, slots := 0, locals := 90 }) (va_Pc [.ref h1, .int x, .int k, .int v] (fun U => U.heap.size = sz ∧ va_P D vwCl (mW cI cZ h1 am th n B tp ob co lv wrd frs bgs fbs rts wnt far) U.heap ∧ va_K D vwCl [(cI, .int), (cZ, .boolean)] U ∧ va_D (fun _ => True) (mW cI cZ h1 am th n B tp ob co lv wrd frs bgs fbs rts wnt far))) (va_Qi (fun (r9 : Int32) (u : Nat → Int32) => ((∀ o j, ¬ cSet tp wrd st x k o j) ∧ r9 = nI 0 ∧ u = wrd) ∨ ∃ o j, cSet tp wrd st x k o j ∧ r9 = nI 1 ∧ u = upd wrd (o + 1 + rfs wrd o + j) v) (fun (u : Nat → Int32) t => va_P D vwCl (mW cI cZ h1 am th n B tp ob co lv u frs bgs fbs rts wnt far) t.heap ∧ va_D (va_A (mW cI cZ h1 am th n B tp ob co lv wrd frs bgs fbs rts wnt far) sz) (mW cI cZ h1 am th n B tp ob co lv u frs bgs fbs rts wnt far)) (va_A (mW cI cZ h1 am th n B tp ob co lv wrd frs bgs fbs rts wnt far) sz)) 0 0 (va_A (mW cI cZ h1 am th n B tp ob co lv wrd frs bgs fbs rts wnt far) sz) := by
  refine Met.ofW (cc := cX2_set) (maxL := 4) (ret := (some .boolean)) (by decide) rfl ?_
  intro p e s m args below meth c s₁ B9 hml hv
  obtain ⟨rfl, hsz, hP, hK, hD0⟩ := hv
  have hx := B9.exec
  have hb := B9.bytes
  have hr := B9.returns
  have hts := atoms_spec (ws := wsX2_set) B9.pre
  have hown : s.vm.findClass RX2 = some m.cls := findClass_of_methodNamed B9.named
  have hlocks := B9.notSynchronized
  subst hsz
  have hD := hD0.self (sz := s.heap.size)
  generalize hAe : va_A (mW cI cZ h1 am th n B tp ob co lv wrd frs bgs fbs rts wnt far) s.heap.size = A at hD ⊢
  have hA : ∀ q : Nat, s.heap.size ≤ q → A q := fun q h => by rw [← hAe]; exact Or.inr h
  have hS : va_S A s.heap s.heap [] := va_S.rf
  have hl := lv_entry ([.ref h1, .int x, .int k, .int v]) (n := 4) (Nat.le_of_ble_eq_true rfl)
  rw [lg_entry_eq]
  generalize (lg_sl ([.ref h1, .int x, .int k, .int v]) ++ List.replicate (4 - (lg_sl ([.ref h1, .int x, .int k, .int v])).length) Slot.unset).toArray = ls at hl ⊢
  have hl : lv_has ls 4 [(0, .ref h1), (1, .int x), (2, .int k), (3, .int v)] := hl
  have htp := hok.1.2.1
  have hn := hok.1.2.2
  refine lv_aload_n hx hb dX2_set_0 rfl (lv_at hl 0 rfl) ?_
  refine lv_iload_n hx hb dX2_set_1 rfl (lv_at hl 1 rfl) ?_
  refine xk_roV (As := [.int x]) (rest := []) ⟨hx, hb, hml, hown, hts⟩ (c_misObject l D cI cZ h1 am th n B tp ob co lv wrd frs bgs fbs rts wnt far st x hok hbg) (cwV 1 hts gX2_set_X2_isObject rfl rfl rfl (by decide +kernel) ⟨Nat.le_of_ble_eq_true rfl, Nat.le_of_ble_eq_true rfl⟩) (va_recv hK hP (ci := 2) (q0 := 0) rfl rfl) hP hK rfl hl.1 rfl (Nat.le_of_ble_eq_true rfl) dX2_set_2 ⟨Nat.zero_le _, Nat.zero_le _⟩ ?_
  refine xk_if_eqB (tgt := 23) hx hb dX2_set_5 (by decide) (fun c5 => ?_) (fun c5 => ?_)
  · refine lv_iconst (v := nI 0) hx hb dX2_set_23 (by decide +kernel) ?_
    exact W.zret hx hb hr rfl (fun t ht hW => ⟨⟨_, wrd, rfl, Or.inl ⟨fun o' j' c => isO_no c5 c.1.1 c.1.2.1 c.1.2.2.1 c.1.2.2.2.1 c.1.2.2.2.2, rfl, rfl⟩, by rw [ht]; exact hP, hD⟩, hS.F ht⟩) hS.2.2 dX2_set_24
  · obtain ⟨o, ho, eo, o1, o2, o3⟩ := isO_t c5
    have hh := hok.hdr o1 o2 o3
    have hs := hok.hsm o1 o2 o3
    have hf := hok.fit o1 o2 o3
    unfold siz at hf
    refine lv_iload_n hx hb dX2_set_8 rfl (lv_at hl 2 rfl) ?_
    refine lv_iconst (v := nI 0) hx hb dX2_set_9 (by decide +kernel) ?_
    refine lv_aload_n hx hb dX2_set_10 rfl (lv_at hl 0 rfl) ?_
    refine lv_iload_n hx hb dX2_set_11 rfl (lv_at hl 1 rfl) ?_
    refine xk_top eo ?_
    refine xk_roV (As := [.int (nI o)]) (rest := [.int (nI 0), .int k]) ⟨hx, hb, hml, hown, hts⟩ (c_mplain l D cI cZ h1 am th n B tp ob co lv wrd frs bgs fbs rts wnt far o (by omega) hh (by omega)) (cwV 1 hts gX2_set_X2_plain rfl rfl rfl (by decide +kernel) ⟨Nat.le_of_ble_eq_true rfl, Nat.le_of_ble_eq_true rfl⟩) (va_recv hK hP (ci := 2) (q0 := 0) rfl rfl) hP hK rfl hl.1 rfl (Nat.le_of_ble_eq_true rfl) dX2_set_12 ⟨Nat.zero_le _, Nat.zero_le _⟩ ?_
    refine lv_iconst (v := nI 1) hx hb dX2_set_15 (by decide +kernel) ?_
    refine lv_isub hx hb dX2_set_16 ?_
    refine xk_top rfl ?_
    refine xk_roS (As := [.int k, .int (nI 0), .int (nI (tn (wrd o) / 256) - nI 1)]) (rest := []) ⟨hx, hb, hml, hown, hts⟩ (c_isIn l k 0 (tn (wrd o) / 256) (nI (tn (wrd o) / 256) - nI 1) (by omega) (by omega) (hi_s (by omega))) (va_cwS 3 hts gX2_set_X2_isIn rfl rfl rfl (by decide +kernel) ⟨Nat.le_of_ble_eq_true rfl, Nat.le_of_ble_eq_true rfl⟩) rfl hl.1 rfl (Nat.le_of_ble_eq_true rfl) dX2_set_17 ⟨Nat.zero_le _, Nat.zero_le _⟩ ?_
    refine xk_if_neB (tgt := 25) hx hb dX2_set_20 (by decide) (fun c20 => ?_) (fun c20 => ?_)
    · rw [inL_0] at c20
      obtain ⟨j, hj, ej, hj1⟩ := inR_t c20
      refine lv_aload_n hx hb dX2_set_25 rfl (lv_at hl 0 rfl) ?_
      refine va_get (D := D) (ci := 2) (v := .ref (am 1)) (C := RX2) (T := TX2) (N := 14) hx hb hts in_X2_set_X2 hown hK hP 0 rfl rfl 7 (by decide) (hts (.fieldLink RX2 13 "OffsetHeapModel" "words" "[I") (by decide +kernel)) (fun _ h9 => h9) rfl dX2_set_26 ?_
      refine lv_iload_n hx hb dX2_set_29 rfl (lv_at hl 1 rfl) ?_
      refine xk_top eo ?_
      refine lv_iconst (v := nI 1) hx hb dX2_set_30 (by decide +kernel) ?_
      refine lv_iadd hx hb dX2_set_31 ?_
      refine xk_top (nI_add _ _) ?_
      refine lv_aload_n hx hb dX2_set_32 rfl (lv_at hl 0 rfl) ?_
      refine lv_iload_n hx hb dX2_set_33 rfl (lv_at hl 1 rfl) ?_
      refine xk_top eo ?_
      refine xk_roV (As := [.int (nI o)]) (rest := [.int (nI (o + 1)), .ref (am 1)]) ⟨hx, hb, hml, hown, hts⟩ (c_mreferences l D cI cZ h1 am th n B tp ob co lv wrd frs bgs fbs rts wnt far o (by omega) hh (by omega)) (cwV 1 hts gX2_set_X2_references rfl rfl rfl (by decide +kernel) ⟨Nat.le_of_ble_eq_true rfl, Nat.le_of_ble_eq_true rfl⟩) (va_recv hK hP (ci := 2) (q0 := 0) rfl rfl) hP hK rfl hl.1 rfl (Nat.le_of_ble_eq_true rfl) dX2_set_34 ⟨Nat.zero_le _, Nat.zero_le _⟩ ?_
      refine lv_iadd hx hb dX2_set_37 ?_
      refine xk_top (nI_add _ _) ?_
      refine lv_iload_n hx hb dX2_set_38 rfl (lv_at hl 2 rfl) ?_
      refine xk_top ej ?_
      refine lv_iadd hx hb dX2_set_39 ?_
      refine xk_top (nI_add _ _) ?_
      refine lv_iload_n hx hb dX2_set_40 rfl (lv_at hl 3 rfl) ?_
      refine xk_iast hx hb hK hP hD hS 1 0 rfl rfl (by omega) (by omega) dX2_set_41 (fun H locs hP hD hS => ?_)
      have hP : va_P D vwCl (mW cI cZ h1 am th n B tp ob co lv (upd wrd (((o + 1) + (tn (wrd o) / 16 % 16)) + j) v) frs bgs fbs rts wnt far) H := hP
      have hD : va_D A (mW cI cZ h1 am th n B tp ob co lv (upd wrd (((o + 1) + (tn (wrd o) / 16 % 16)) + j) v) frs bgs fbs rts wnt far) := hD
      refine lv_iconst (v := nI 1) hx hb dX2_set_42 (by decide +kernel) ?_
      exact W.zret hx hb hr rfl (fun t ht hW => ⟨⟨_, _, rfl, Or.inr ⟨o, j, ⟨⟨ho, eo, o1, o2, o3⟩, ⟨hj, ej, by unfold pln; omega⟩⟩, rfl, rfl⟩, by rw [ht]; exact hP, hD⟩, hS.F ht⟩) hS.2.2 dX2_set_43
    · refine lv_iconst (v := nI 0) hx hb dX2_set_23 (by decide +kernel) ?_
      exact W.zret hx hb hr rfl (fun t ht hW => ⟨⟨_, wrd, rfl, Or.inl ⟨fun o' j' c => by have e1 := nI_inj c.1.1 ho (c.1.2.1.symm.trans eo); have e3 := c.2.2.2; rw [inL_0, c.2.2.1, inR_nat c.2.1] at c20; rw [e1] at e3; unfold pln at e3; simp at c20; omega, rfl, rfl⟩, by rw [ht]; exact hP, hD⟩, hS.F ht⟩) hS.2.2 dX2_set_24
set_option maxHeartbeats 4000000 in
set_option maxRecDepth 100000 in
/-- root -/
theorem c_mroot (l : Launch) (D : va_G) (cI cZ : ClassId) (h1 : Nat) (am : Nat → Nat) (th n B tp ob co lv : Nat) (wrd frs bgs fbs rts wnt far : Nat → Int32) (sz : Nat) (st : Nat → Bool) (k v : Int32) (hok : okS n tp wrd st rts) (hbg : ∀ a, a ≤ n → bgs a = bI (st a)) : Met l yX2_root wsX2_root ({ frames := 3, cells := 0, slots := 0, locals := 90 }) (va_Pc [.ref h1, .int k, .int v] (fun U => U.heap.size = sz ∧ va_P D vwCl (mW cI cZ h1 am th n B tp ob co lv wrd frs bgs fbs rts wnt far) U.heap ∧ va_K D vwCl [(cI, .int), (cZ, .boolean)] U ∧ va_D (fun _ => True) (mW cI cZ h1 am th n B tp ob co lv wrd frs bgs fbs rts wnt far))) (va_Qi (fun (r9 : Int32) (u : Nat → Int32) => ((inR 8 k = false ∨ isL tp st v = false) ∧ r9 = nI 0 ∧ u = rts) ∨ ∃ j, j < 8 ∧ k = nI j ∧ isL tp st v = true ∧ r9 = nI 1 ∧ u = upd rts j v) (fun (u : Nat → Int32) t => va_P D vwCl (mW cI cZ h1 am th n B tp ob co lv wrd frs bgs fbs u wnt far) t.heap ∧ va_D (va_A (mW cI cZ h1 am th n B tp ob co lv wrd frs bgs fbs rts wnt far) sz) (mW cI cZ h1 am th n B tp ob co lv wrd frs bgs fbs u wnt far)) (va_A (mW cI cZ h1 am th n B tp ob co lv wrd frs bgs fbs rts wnt far) sz)) 0 0 (va_A (mW cI cZ h1 am th n B tp ob co lv wrd frs bgs fbs rts wnt far) sz) := by
  refine Met.ofW (cc := cX2_root) (maxL := 3) (ret := (some .boolean)) (by decide) rfl ?_
  intro p e s m args below meth c s₁ B9 hml hv
  obtain ⟨rfl, hsz, hP, hK, hD0⟩ := hv
  have hx := B9.exec
  have hb := B9.bytes
  have hr := B9.returns
  have hts := atoms_spec (ws := wsX2_root) B9.pre
  have hown : s.vm.findClass RX2 = some m.cls := findClass_of_methodNamed B9.named
  have hlocks := B9.notSynchronized
  subst hsz
  have hD := hD0.self (sz := s.heap.size)
  generalize hAe : va_A (mW cI cZ h1 am th n B tp ob co lv wrd frs bgs fbs rts wnt far) s.heap.size = A at hD ⊢
  have hA : ∀ q : Nat, s.heap.size ≤ q → A q := fun q h => by rw [← hAe]; exact Or.inr h
  have hS : va_S A s.heap s.heap [] := va_S.rf
  have hl := lv_entry ([.ref h1, .int k, .int v]) (n := 3) (Nat.le_of_ble_eq_true rfl)
  rw [lg_entry_eq]
  generalize (lg_sl ([.ref h1, .int k, .int v]) ++ List.replicate (3 - (lg_sl ([.ref h1, .int k, .int v])).length) Slot.unset).toArray = ls at hl ⊢
  have hl : lv_has ls 3 [(0, .ref h1), (1, .int k), (2, .int v)] := hl
  refine lv_iload_n hx hb dX2_root_0 rfl (lv_at hl 1 rfl) ?_
  refine lv_iconst (v := nI 0) hx hb dX2_root_1 (by decide +kernel) ?_
  refine lv_bipush (v := nI 7) hx hb dX2_root_2 (by decide +kernel) ?_
  refine xk_roS (As := [.int k, .int (nI 0), .int (nI 7)]) (rest := []) ⟨hx, hb, hml, hown, hts⟩ (c_isIn l k 0 (8) (nI 7) (by omega) (by omega) (by decide)) (va_cwS 3 hts gX2_root_X2_isIn rfl rfl rfl (by decide +kernel) ⟨Nat.le_of_ble_eq_true rfl, Nat.le_of_ble_eq_true rfl⟩) rfl hl.1 rfl (Nat.le_of_ble_eq_true rfl) dX2_root_4 ⟨Nat.zero_le _, Nat.zero_le _⟩ ?_
  refine xk_if_eqB (tgt := 18) hx hb dX2_root_7 (by decide) (fun c7 => ?_) (fun c7 => ?_)
  · refine lv_iconst (v := nI 0) hx hb dX2_root_18 (by decide +kernel) ?_
    exact W.zret hx hb hr rfl (fun t ht hW => ⟨⟨_, rts, rfl, Or.inl ⟨Or.inl (by rw [inL_0] at c7; exact c7), rfl, rfl⟩, by rw [ht]; exact hP, hD⟩, hS.F ht⟩) hS.2.2 dX2_root_19
  · refine lv_aload_n hx hb dX2_root_10 rfl (lv_at hl 0 rfl) ?_
    refine lv_iload_n hx hb dX2_root_11 rfl (lv_at hl 2 rfl) ?_
    refine xk_roV (As := [.int v]) (rest := []) ⟨hx, hb, hml, hown, hts⟩ (c_misLead l D cI cZ h1 am th n B tp ob co lv wrd frs bgs fbs rts wnt far st v hok hbg) (cwV 1 hts gX2_root_X2_isLead rfl rfl rfl (by decide +kernel) ⟨Nat.le_of_ble_eq_true rfl, Nat.le_of_ble_eq_true rfl⟩) (va_recv hK hP (ci := 2) (q0 := 0) rfl rfl) hP hK rfl hl.1 rfl (Nat.le_of_ble_eq_true rfl) dX2_root_12 ⟨Nat.zero_le _, Nat.zero_le _⟩ ?_
    refine xk_if_neB (tgt := 20) hx hb dX2_root_15 (by decide) (fun c15 => ?_) (fun c15 => ?_)
    · rw [inL_0] at c7
      obtain ⟨j, hj0, ej, hj⟩ := inR_t c7
      refine lv_aload_n hx hb dX2_root_20 rfl (lv_at hl 0 rfl) ?_
      refine va_get (D := D) (ci := 2) (v := .ref (am 5)) (C := RX2) (T := TX2) (N := 14) hx hb hts in_X2_root_X2 hown hK hP 0 rfl rfl 11 (by decide) (hts (.fieldLink RX2 27 "OffsetHeapModel" "roots" "[I") (by decide +kernel)) (fun _ h9 => h9) rfl dX2_root_21 ?_
      refine lv_iload_n hx hb dX2_root_24 rfl (lv_at hl 1 rfl) ?_
      refine xk_top ej ?_
      refine lv_iload_n hx hb dX2_root_25 rfl (lv_at hl 2 rfl) ?_
      refine xk_iast hx hb hK hP hD hS 5 0 rfl rfl (by omega) (by omega) dX2_root_26 (fun H locs hP hD hS => ?_)
      have hP : va_P D vwCl (mW cI cZ h1 am th n B tp ob co lv wrd frs bgs fbs (upd rts j v) wnt far) H := hP
      have hD : va_D A (mW cI cZ h1 am th n B tp ob co lv wrd frs bgs fbs (upd rts j v) wnt far) := hD
      refine lv_iconst (v := nI 1) hx hb dX2_root_27 (by decide +kernel) ?_
      exact W.zret hx hb hr rfl (fun t ht hW => ⟨⟨_, _, rfl, Or.inr ⟨j, hj, ej, c15, rfl, rfl⟩, by rw [ht]; exact hP, hD⟩, hS.F ht⟩) hS.2.2 dX2_root_28
    · refine lv_iconst (v := nI 0) hx hb dX2_root_18 (by decide +kernel) ?_
      exact W.zret hx hb hr rfl (fun t ht hW => ⟨⟨_, rts, rfl, Or.inl ⟨Or.inr c15, rfl, rfl⟩, by rw [ht]; exact hP, hD⟩, hS.F ht⟩) hS.2.2 dX2_root_19
set_option maxHeartbeats 4000000 in
set_option maxRecDepth 100000 in
/-- OffsetHeapModel(words, block) -/
theorem c_Model (l : Launch) (D : va_G) (cI cZ : ClassId) (h1 sz : Nat) (x y : Int32) (n B : Nat) (hnx : n = clp x) (hBy : B = blk y) : Met l yX2_init wsX2_init ({ frames := 1, cells := 7, slots := 24016, locals := 30 }) (va_Pc [.ref h1, .int x, .int y] (fun U => U.heap.size = sz ∧ va_P D vwCl [(h1, .inr (2, [.int 0, .int 0, .int 0, .int 0, .int 0, .int 0, .int 0, .null, .null, .null, .null, .null, .null, .null]))] U.heap ∧ va_K D vwCl [(cI, .int), (cZ, .boolean)] U ∧ va_D (fun _ => True) [(h1, .inr (2, [.int 0, .int 0, .int 0, .int 0, .int 0, .int 0, .int 0, .null, .null, .null, .null, .null, .null, .null]))])) (va_Qv (fun _ : Nat → Nat => True) (fun u t => va_P D vwCl (mW cI cZ h1 u 0 n B 1 0 0 0 (fun _ => 0) (fun _ => 0) (fun _ => 0) (fun _ => 0) (fun _ => 0) (fun _ => 0) (fun _ => 0)) t.heap ∧ va_D (va_A [(h1, .inr (2, [.int 0, .int 0, .int 0, .int 0, .int 0, .int 0, .int 0, .null, .null, .null, .null, .null, .null, .null]))] sz) (mW cI cZ h1 u 0 n B 1 0 0 0 (fun _ => 0) (fun _ => 0) (fun _ => 0) (fun _ => 0) (fun _ => 0) (fun _ => 0) (fun _ => 0))) (va_A [(h1, .inr (2, [.int 0, .int 0, .int 0, .int 0, .int 0, .int 0, .int 0, .null, .null, .null, .null, .null, .null, .null]))] sz)) 7 24016 (va_A [(h1, .inr (2, [.int 0, .int 0, .int 0, .int 0, .int 0, .int 0, .int 0, .null, .null, .null, .null, .null, .null, .null]))] sz) := by
  refine Met.ofW (cc := cX2_init) (maxL := 3) (ret := none) (by decide) rfl ?_
  intro p e s m args below meth c s₁ B9 hml hv
  obtain ⟨rfl, hsz, hP, hK, hD0⟩ := hv
  have hx := B9.exec
  have hb := B9.bytes
  have hr := B9.returns
  have hts := atoms_spec (ws := wsX2_init) B9.pre
  have hown : s.vm.findClass RX2 = some m.cls := findClass_of_methodNamed B9.named
  have hlocks := B9.notSynchronized
  subst hsz
  have hD := hD0.self (sz := s.heap.size)
  generalize hAe : va_A [(h1, .inr (2, [.int 0, .int 0, .int 0, .int 0, .int 0, .int 0, .int 0, .null, .null, .null, .null, .null, .null, .null]))] s.heap.size = A at hD ⊢
  have hA : ∀ q : Nat, s.heap.size ≤ q → A q := fun q h => by rw [← hAe]; exact Or.inr h
  have hS : va_S A s.heap s.heap [] := va_S.rf
  have hl := lv_entry ([.ref h1, .int x, .int y]) (n := 3) (Nat.le_of_ble_eq_true rfl)
  rw [lg_entry_eq]
  generalize (lg_sl ([.ref h1, .int x, .int y]) ++ List.replicate (3 - (lg_sl ([.ref h1, .int x, .int y])).length) Slot.unset).toArray = ls at hl ⊢
  have hl : lv_has ls 3 [(0, .ref h1), (1, .int x), (2, .int y)] := hl
  have hin : meth.name = "<init>" := (name_of_methodNamed B9.named B9.method).1
  refine lv_aload_n hx hb dX2_init_0 rfl (lv_at hl 0 rfl) ?_
  refine W.objInit hx hb hown (hts (.methodLink RX2 1 objectInit) (by decide +kernel)) (hts (.instanceMethod objectInit) (by decide +kernel)) (hts (.code objectInit ⟨#[0xb1]⟩ 1 none) (by decide +kernel)) rfl (by rw [hml]; exact hl.1) rfl dX2_init_1 (Nat.le_of_ble_eq_true rfl) (Nat.le_of_ble_eq_true rfl) ?_
  refine W.eq (g2 := F0 m 4 ls []) rfl ?_
  refine lv_aload_n hx hb dX2_init_4 rfl (lv_at hl 0 rfl) ?_
  refine lv_iconst (v := nI 1) hx hb dX2_init_5 (by decide +kernel) ?_
  refine va_put (D := D) (ci := 2) (v := .int (nI 1)) (ty := .int) (C := RX2) (T := TX2) (N := 14) hx hb hts in_X2_init_X2 tyX2 tyX2_ok nmX2 hown hK hP hD hS 0 rfl rfl 3 (by decide) (hts (.fieldLink RX2 7 "OffsetHeapModel" "top" "I") (by decide +kernel)) (fun _ h9 => h9) rfl (by decide +kernel) rfl rfl (Nat.le_of_ble_eq_true rfl) dX2_init_6 (fun H locs hP hD hS => ?_)
  have hP : va_P D vwCl [(h1, .inr (2, [.int 0, .int 0, .int 0, .int (nI 1), .int 0, .int 0, .int 0, .null, .null, .null, .null, .null, .null, .null]))] H := hP
  have hD : va_D A [(h1, .inr (2, [.int 0, .int 0, .int 0, .int (nI 1), .int 0, .int 0, .int 0, .null, .null, .null, .null, .null, .null, .null]))] := hD
  refine lv_aload_n hx hb dX2_init_9 rfl (lv_at hl 0 rfl) ?_
  refine lv_sipush (v := nI 4001) hx hb dX2_init_10 (by decide +kernel) ?_
  refine va_newa (atype := .int) (ty := .int) (N' := 4001) (a0 := (4001, .inl (fun _ => 0))) hx hb (hts (.arrayClass .int) (by decide +kernel)) rfl hK hP hD hS hA (fun _ => rfl) (nI_pos (by omega)) (nI_clamp (by omega)) (by show 4001 * 4 ≤ 536870912; omega) (Nat.le_of_ble_eq_true rfl) (by show 0 + 4001 ≤ 24016; omega) dX2_init_13 (fun q1 cA9 H hK9 hP hD hS => ?_)
  have eC : cA9 = cI := Option.some.inj ((hK9.2 2 _ rfl).2.symm.trans (hK9.2 0 _ rfl).2)
  rw [eC] at hP hD
  refine W.widen (k := 1) (n := 4001) (by omega) (by omega) ?_
  have hP : va_P D vwCl [(h1, .inr (2, [.int 0, .int 0, .int 0, .int (nI 1), .int 0, .int 0, .int 0, .null, .null, .null, .null, .null, .null, .null])), (q1, .inl (cI, 4001, .inl (fun _ => 0)))] H := hP
  have hD : va_D A [(h1, .inr (2, [.int 0, .int 0, .int 0, .int (nI 1), .int 0, .int 0, .int 0, .null, .null, .null, .null, .null, .null, .null])), (q1, .inl (cI, 4001, .inl (fun _ => 0)))] := hD
  refine va_putF (D := D) (ci := 2) (v := .ref q1) (ty := .array .int) (C := RX2) (T := TX2) (N := 14) hx hb hts in_X2_init_X2 tyX2 tyX2_ok nmX2 hown hK hP hD hS 0 rfl rfl 7 (by decide) (hts (.fieldLink RX2 13 "OffsetHeapModel" "words" "[I") (by decide +kernel)) (fun _ h9 => h9) rfl hin rfl (by decide +kernel) rfl rfl (Nat.le_of_ble_eq_true rfl) dX2_init_15 (fun H locs hP hD hS => ?_)
  have hP : va_P D vwCl [(h1, .inr (2, [.int 0, .int 0, .int 0, .int (nI 1), .int 0, .int 0, .int 0, .ref q1, .null, .null, .null, .null, .null, .null])), (q1, .inl (cI, 4001, .inl (fun _ => 0)))] H := hP
  have hD : va_D A [(h1, .inr (2, [.int 0, .int 0, .int 0, .int (nI 1), .int 0, .int 0, .int 0, .ref q1, .null, .null, .null, .null, .null, .null])), (q1, .inl (cI, 4001, .inl (fun _ => 0)))] := hD
  refine lv_aload_n hx hb dX2_init_18 rfl (lv_at hl 0 rfl) ?_
  refine lv_sipush (v := nI 4001) hx hb dX2_init_19 (by decide +kernel) ?_
  refine va_newa (atype := .int) (ty := .int) (N' := 4001) (a0 := (4001, .inl (fun _ => 0))) hx hb (hts (.arrayClass .int) (by decide +kernel)) rfl hK hP hD hS hA (fun _ => rfl) (nI_pos (by omega)) (nI_clamp (by omega)) (by show 4001 * 4 ≤ 536870912; omega) (Nat.le_of_ble_eq_true rfl) (by show 4001 + 4001 ≤ 24016; omega) dX2_init_22 (fun q2 cA9 H hK9 hP hD hS => ?_)
  have eC : cA9 = cI := Option.some.inj ((hK9.2 2 _ rfl).2.symm.trans (hK9.2 0 _ rfl).2)
  rw [eC] at hP hD
  refine W.widen (k := 2) (n := 8002) (by omega) (by omega) ?_
  have hP : va_P D vwCl [(h1, .inr (2, [.int 0, .int 0, .int 0, .int (nI 1), .int 0, .int 0, .int 0, .ref q1, .null, .null, .null, .null, .null, .null])), (q1, .inl (cI, 4001, .inl (fun _ => 0))), (q2, .inl (cI, 4001, .inl (fun _ => 0)))] H := hP
  have hD : va_D A [(h1, .inr (2, [.int 0, .int 0, .int 0, .int (nI 1), .int 0, .int 0, .int 0, .ref q1, .null, .null, .null, .null, .null, .null])), (q1, .inl (cI, 4001, .inl (fun _ => 0))), (q2, .inl (cI, 4001, .inl (fun _ => 0)))] := hD
  refine va_putF (D := D) (ci := 2) (v := .ref q2) (ty := .array .int) (C := RX2) (T := TX2) (N := 14) hx hb hts in_X2_init_X2 tyX2 tyX2_ok nmX2 hown hK hP hD hS 0 rfl rfl 8 (by decide) (hts (.fieldLink RX2 17 "OffsetHeapModel" "fresh" "[I") (by decide +kernel)) (fun _ h9 => h9) rfl hin rfl (by decide +kernel) rfl rfl (Nat.le_of_ble_eq_true rfl) dX2_init_24 (fun H locs hP hD hS => ?_)
  have hP : va_P D vwCl [(h1, .inr (2, [.int 0, .int 0, .int 0, .int (nI 1), .int 0, .int 0, .int 0, .ref q1, .ref q2, .null, .null, .null, .null, .null])), (q1, .inl (cI, 4001, .inl (fun _ => 0))), (q2, .inl (cI, 4001, .inl (fun _ => 0)))] H := hP
  have hD : va_D A [(h1, .inr (2, [.int 0, .int 0, .int 0, .int (nI 1), .int 0, .int 0, .int 0, .ref q1, .ref q2, .null, .null, .null, .null, .null])), (q1, .inl (cI, 4001, .inl (fun _ => 0))), (q2, .inl (cI, 4001, .inl (fun _ => 0)))] := hD
  refine lv_aload_n hx hb dX2_init_27 rfl (lv_at hl 0 rfl) ?_
  refine lv_sipush (v := nI 4002) hx hb dX2_init_28 (by decide +kernel) ?_
  refine va_newa (atype := .boolean) (ty := .boolean) (N' := 4002) (a0 := (4002, .inl (fun _ => 0))) hx hb (hts (.arrayClass .boolean) (by decide +kernel)) rfl hK hP hD hS hA (fun _ => rfl) (nI_pos (by omega)) (nI_clamp (by omega)) (by show 4002 * 1 ≤ 536870912; omega) (Nat.le_of_ble_eq_true rfl) (by show 8002 + 4002 ≤ 24016; omega) dX2_init_31 (fun q3 cA9 H hK9 hP hD hS => ?_)
  have eC : cA9 = cZ := Option.some.inj ((hK9.2 2 _ rfl).2.symm.trans (hK9.2 1 _ rfl).2)
  rw [eC] at hP hD
  refine W.widen (k := 3) (n := 12004) (by omega) (by omega) ?_
  have hP : va_P D vwCl [(h1, .inr (2, [.int 0, .int 0, .int 0, .int (nI 1), .int 0, .int 0, .int 0, .ref q1, .ref q2, .null, .null, .null, .null, .null])), (q1, .inl (cI, 4001, .inl (fun _ => 0))), (q2, .inl (cI, 4001, .inl (fun _ => 0))), (q3, .inl (cZ, 4002, .inl (fun _ => 0)))] H := hP
  have hD : va_D A [(h1, .inr (2, [.int 0, .int 0, .int 0, .int (nI 1), .int 0, .int 0, .int 0, .ref q1, .ref q2, .null, .null, .null, .null, .null])), (q1, .inl (cI, 4001, .inl (fun _ => 0))), (q2, .inl (cI, 4001, .inl (fun _ => 0))), (q3, .inl (cZ, 4002, .inl (fun _ => 0)))] := hD
  refine va_putF (D := D) (ci := 2) (v := .ref q3) (ty := .array .boolean) (C := RX2) (T := TX2) (N := 14) hx hb hts in_X2_init_X2 tyX2 tyX2_ok nmX2 hown hK hP hD hS 0 rfl rfl 9 (by decide) (hts (.fieldLink RX2 20 "OffsetHeapModel" "begins" "[Z") (by decide +kernel)) (fun _ h9 => h9) rfl hin rfl (by decide +kernel) rfl rfl (Nat.le_of_ble_eq_true rfl) dX2_init_33 (fun H locs hP hD hS => ?_)
  have hP : va_P D vwCl [(h1, .inr (2, [.int 0, .int 0, .int 0, .int (nI 1), .int 0, .int 0, .int 0, .ref q1, .ref q2, .ref q3, .null, .null, .null, .null])), (q1, .inl (cI, 4001, .inl (fun _ => 0))), (q2, .inl (cI, 4001, .inl (fun _ => 0))), (q3, .inl (cZ, 4002, .inl (fun _ => 0)))] H := hP
  have hD : va_D A [(h1, .inr (2, [.int 0, .int 0, .int 0, .int (nI 1), .int 0, .int 0, .int 0, .ref q1, .ref q2, .ref q3, .null, .null, .null, .null])), (q1, .inl (cI, 4001, .inl (fun _ => 0))), (q2, .inl (cI, 4001, .inl (fun _ => 0))), (q3, .inl (cZ, 4002, .inl (fun _ => 0)))] := hD
  refine lv_aload_n hx hb dX2_init_36 rfl (lv_at hl 0 rfl) ?_
  refine lv_sipush (v := nI 4002) hx hb dX2_init_37 (by decide +kernel) ?_
  refine va_newa (atype := .boolean) (ty := .boolean) (N' := 4002) (a0 := (4002, .inl (fun _ => 0))) hx hb (hts (.arrayClass .boolean) (by decide +kernel)) rfl hK hP hD hS hA (fun _ => rfl) (nI_pos (by omega)) (nI_clamp (by omega)) (by show 4002 * 1 ≤ 536870912; omega) (Nat.le_of_ble_eq_true rfl) (by show 12004 + 4002 ≤ 24016; omega) dX2_init_40 (fun q4 cA9 H hK9 hP hD hS => ?_)
  have eC : cA9 = cZ := Option.some.inj ((hK9.2 2 _ rfl).2.symm.trans (hK9.2 1 _ rfl).2)
  rw [eC] at hP hD
  refine W.widen (k := 4) (n := 16006) (by omega) (by omega) ?_
  have hP : va_P D vwCl [(h1, .inr (2, [.int 0, .int 0, .int 0, .int (nI 1), .int 0, .int 0, .int 0, .ref q1, .ref q2, .ref q3, .null, .null, .null, .null])), (q1, .inl (cI, 4001, .inl (fun _ => 0))), (q2, .inl (cI, 4001, .inl (fun _ => 0))), (q3, .inl (cZ, 4002, .inl (fun _ => 0))), (q4, .inl (cZ, 4002, .inl (fun _ => 0)))] H := hP
  have hD : va_D A [(h1, .inr (2, [.int 0, .int 0, .int 0, .int (nI 1), .int 0, .int 0, .int 0, .ref q1, .ref q2, .ref q3, .null, .null, .null, .null])), (q1, .inl (cI, 4001, .inl (fun _ => 0))), (q2, .inl (cI, 4001, .inl (fun _ => 0))), (q3, .inl (cZ, 4002, .inl (fun _ => 0))), (q4, .inl (cZ, 4002, .inl (fun _ => 0)))] := hD
  refine va_putF (D := D) (ci := 2) (v := .ref q4) (ty := .array .boolean) (C := RX2) (T := TX2) (N := 14) hx hb hts in_X2_init_X2 tyX2 tyX2_ok nmX2 hown hK hP hD hS 0 rfl rfl 10 (by decide) (hts (.fieldLink RX2 24 "OffsetHeapModel" "freshBegins" "[Z") (by decide +kernel)) (fun _ h9 => h9) rfl hin rfl (by decide +kernel) rfl rfl (Nat.le_of_ble_eq_true rfl) dX2_init_42 (fun H locs hP hD hS => ?_)
  have hP : va_P D vwCl [(h1, .inr (2, [.int 0, .int 0, .int 0, .int (nI 1), .int 0, .int 0, .int 0, .ref q1, .ref q2, .ref q3, .ref q4, .null, .null, .null])), (q1, .inl (cI, 4001, .inl (fun _ => 0))), (q2, .inl (cI, 4001, .inl (fun _ => 0))), (q3, .inl (cZ, 4002, .inl (fun _ => 0))), (q4, .inl (cZ, 4002, .inl (fun _ => 0)))] H := hP
  have hD : va_D A [(h1, .inr (2, [.int 0, .int 0, .int 0, .int (nI 1), .int 0, .int 0, .int 0, .ref q1, .ref q2, .ref q3, .ref q4, .null, .null, .null])), (q1, .inl (cI, 4001, .inl (fun _ => 0))), (q2, .inl (cI, 4001, .inl (fun _ => 0))), (q3, .inl (cZ, 4002, .inl (fun _ => 0))), (q4, .inl (cZ, 4002, .inl (fun _ => 0)))] := hD
  refine lv_aload_n hx hb dX2_init_45 rfl (lv_at hl 0 rfl) ?_
  refine lv_bipush (v := nI 8) hx hb dX2_init_46 (by decide +kernel) ?_
  refine va_newa (atype := .int) (ty := .int) (N' := 8) (a0 := (8, .inl (fun _ => 0))) hx hb (hts (.arrayClass .int) (by decide +kernel)) rfl hK hP hD hS hA (fun _ => rfl) (nI_pos (by omega)) (nI_clamp (by omega)) (by show 8 * 4 ≤ 536870912; omega) (Nat.le_of_ble_eq_true rfl) (by show 16006 + 8 ≤ 24016; omega) dX2_init_48 (fun q5 cA9 H hK9 hP hD hS => ?_)
  have eC : cA9 = cI := Option.some.inj ((hK9.2 2 _ rfl).2.symm.trans (hK9.2 0 _ rfl).2)
  rw [eC] at hP hD
  refine W.widen (k := 5) (n := 16014) (by omega) (by omega) ?_
  have hP : va_P D vwCl [(h1, .inr (2, [.int 0, .int 0, .int 0, .int (nI 1), .int 0, .int 0, .int 0, .ref q1, .ref q2, .ref q3, .ref q4, .null, .null, .null])), (q1, .inl (cI, 4001, .inl (fun _ => 0))), (q2, .inl (cI, 4001, .inl (fun _ => 0))), (q3, .inl (cZ, 4002, .inl (fun _ => 0))), (q4, .inl (cZ, 4002, .inl (fun _ => 0))), (q5, .inl (cI, 8, .inl (fun _ => 0)))] H := hP
  have hD : va_D A [(h1, .inr (2, [.int 0, .int 0, .int 0, .int (nI 1), .int 0, .int 0, .int 0, .ref q1, .ref q2, .ref q3, .ref q4, .null, .null, .null])), (q1, .inl (cI, 4001, .inl (fun _ => 0))), (q2, .inl (cI, 4001, .inl (fun _ => 0))), (q3, .inl (cZ, 4002, .inl (fun _ => 0))), (q4, .inl (cZ, 4002, .inl (fun _ => 0))), (q5, .inl (cI, 8, .inl (fun _ => 0)))] := hD
  refine va_putF (D := D) (ci := 2) (v := .ref q5) (ty := .array .int) (C := RX2) (T := TX2) (N := 14) hx hb hts in_X2_init_X2 tyX2 tyX2_ok nmX2 hown hK hP hD hS 0 rfl rfl 11 (by decide) (hts (.fieldLink RX2 27 "OffsetHeapModel" "roots" "[I") (by decide +kernel)) (fun _ h9 => h9) rfl hin rfl (by decide +kernel) rfl rfl (Nat.le_of_ble_eq_true rfl) dX2_init_50 (fun H locs hP hD hS => ?_)
  have hP : va_P D vwCl [(h1, .inr (2, [.int 0, .int 0, .int 0, .int (nI 1), .int 0, .int 0, .int 0, .ref q1, .ref q2, .ref q3, .ref q4, .ref q5, .null, .null])), (q1, .inl (cI, 4001, .inl (fun _ => 0))), (q2, .inl (cI, 4001, .inl (fun _ => 0))), (q3, .inl (cZ, 4002, .inl (fun _ => 0))), (q4, .inl (cZ, 4002, .inl (fun _ => 0))), (q5, .inl (cI, 8, .inl (fun _ => 0)))] H := hP
  have hD : va_D A [(h1, .inr (2, [.int 0, .int 0, .int 0, .int (nI 1), .int 0, .int 0, .int 0, .ref q1, .ref q2, .ref q3, .ref q4, .ref q5, .null, .null])), (q1, .inl (cI, 4001, .inl (fun _ => 0))), (q2, .inl (cI, 4001, .inl (fun _ => 0))), (q3, .inl (cZ, 4002, .inl (fun _ => 0))), (q4, .inl (cZ, 4002, .inl (fun _ => 0))), (q5, .inl (cI, 8, .inl (fun _ => 0)))] := hD
  refine lv_aload_n hx hb dX2_init_53 rfl (lv_at hl 0 rfl) ?_
  refine lv_sipush (v := nI 4001) hx hb dX2_init_54 (by decide +kernel) ?_
  refine va_newa (atype := .int) (ty := .int) (N' := 4001) (a0 := (4001, .inl (fun _ => 0))) hx hb (hts (.arrayClass .int) (by decide +kernel)) rfl hK hP hD hS hA (fun _ => rfl) (nI_pos (by omega)) (nI_clamp (by omega)) (by show 4001 * 4 ≤ 536870912; omega) (Nat.le_of_ble_eq_true rfl) (by show 16014 + 4001 ≤ 24016; omega) dX2_init_57 (fun q6 cA9 H hK9 hP hD hS => ?_)
  have eC : cA9 = cI := Option.some.inj ((hK9.2 2 _ rfl).2.symm.trans (hK9.2 0 _ rfl).2)
  rw [eC] at hP hD
  refine W.widen (k := 6) (n := 20015) (by omega) (by omega) ?_
  have hP : va_P D vwCl [(h1, .inr (2, [.int 0, .int 0, .int 0, .int (nI 1), .int 0, .int 0, .int 0, .ref q1, .ref q2, .ref q3, .ref q4, .ref q5, .null, .null])), (q1, .inl (cI, 4001, .inl (fun _ => 0))), (q2, .inl (cI, 4001, .inl (fun _ => 0))), (q3, .inl (cZ, 4002, .inl (fun _ => 0))), (q4, .inl (cZ, 4002, .inl (fun _ => 0))), (q5, .inl (cI, 8, .inl (fun _ => 0))), (q6, .inl (cI, 4001, .inl (fun _ => 0)))] H := hP
  have hD : va_D A [(h1, .inr (2, [.int 0, .int 0, .int 0, .int (nI 1), .int 0, .int 0, .int 0, .ref q1, .ref q2, .ref q3, .ref q4, .ref q5, .null, .null])), (q1, .inl (cI, 4001, .inl (fun _ => 0))), (q2, .inl (cI, 4001, .inl (fun _ => 0))), (q3, .inl (cZ, 4002, .inl (fun _ => 0))), (q4, .inl (cZ, 4002, .inl (fun _ => 0))), (q5, .inl (cI, 8, .inl (fun _ => 0))), (q6, .inl (cI, 4001, .inl (fun _ => 0)))] := hD
  refine va_putF (D := D) (ci := 2) (v := .ref q6) (ty := .array .int) (C := RX2) (T := TX2) (N := 14) hx hb hts in_X2_init_X2 tyX2 tyX2_ok nmX2 hown hK hP hD hS 0 rfl rfl 12 (by decide) (hts (.fieldLink RX2 30 "OffsetHeapModel" "went" "[I") (by decide +kernel)) (fun _ h9 => h9) rfl hin rfl (by decide +kernel) rfl rfl (Nat.le_of_ble_eq_true rfl) dX2_init_59 (fun H locs hP hD hS => ?_)
  have hP : va_P D vwCl [(h1, .inr (2, [.int 0, .int 0, .int 0, .int (nI 1), .int 0, .int 0, .int 0, .ref q1, .ref q2, .ref q3, .ref q4, .ref q5, .ref q6, .null])), (q1, .inl (cI, 4001, .inl (fun _ => 0))), (q2, .inl (cI, 4001, .inl (fun _ => 0))), (q3, .inl (cZ, 4002, .inl (fun _ => 0))), (q4, .inl (cZ, 4002, .inl (fun _ => 0))), (q5, .inl (cI, 8, .inl (fun _ => 0))), (q6, .inl (cI, 4001, .inl (fun _ => 0)))] H := hP
  have hD : va_D A [(h1, .inr (2, [.int 0, .int 0, .int 0, .int (nI 1), .int 0, .int 0, .int 0, .ref q1, .ref q2, .ref q3, .ref q4, .ref q5, .ref q6, .null])), (q1, .inl (cI, 4001, .inl (fun _ => 0))), (q2, .inl (cI, 4001, .inl (fun _ => 0))), (q3, .inl (cZ, 4002, .inl (fun _ => 0))), (q4, .inl (cZ, 4002, .inl (fun _ => 0))), (q5, .inl (cI, 8, .inl (fun _ => 0))), (q6, .inl (cI, 4001, .inl (fun _ => 0)))] := hD
  refine lv_aload_n hx hb dX2_init_62 rfl (lv_at hl 0 rfl) ?_
  refine lv_sipush (v := nI 4001) hx hb dX2_init_63 (by decide +kernel) ?_
  refine va_newa (atype := .int) (ty := .int) (N' := 4001) (a0 := (4001, .inl (fun _ => 0))) hx hb (hts (.arrayClass .int) (by decide +kernel)) rfl hK hP hD hS hA (fun _ => rfl) (nI_pos (by omega)) (nI_clamp (by omega)) (by show 4001 * 4 ≤ 536870912; omega) (Nat.le_of_ble_eq_true rfl) (by show 20015 + 4001 ≤ 24016; omega) dX2_init_66 (fun q7 cA9 H hK9 hP hD hS => ?_)
  have eC : cA9 = cI := Option.some.inj ((hK9.2 2 _ rfl).2.symm.trans (hK9.2 0 _ rfl).2)
  rw [eC] at hP hD
  refine W.widen (k := 7) (n := 24016) (by omega) (by omega) ?_
  have hP : va_P D vwCl [(h1, .inr (2, [.int 0, .int 0, .int 0, .int (nI 1), .int 0, .int 0, .int 0, .ref q1, .ref q2, .ref q3, .ref q4, .ref q5, .ref q6, .null])), (q1, .inl (cI, 4001, .inl (fun _ => 0))), (q2, .inl (cI, 4001, .inl (fun _ => 0))), (q3, .inl (cZ, 4002, .inl (fun _ => 0))), (q4, .inl (cZ, 4002, .inl (fun _ => 0))), (q5, .inl (cI, 8, .inl (fun _ => 0))), (q6, .inl (cI, 4001, .inl (fun _ => 0))), (q7, .inl (cI, 4001, .inl (fun _ => 0)))] H := hP
  have hD : va_D A [(h1, .inr (2, [.int 0, .int 0, .int 0, .int (nI 1), .int 0, .int 0, .int 0, .ref q1, .ref q2, .ref q3, .ref q4, .ref q5, .ref q6, .null])), (q1, .inl (cI, 4001, .inl (fun _ => 0))), (q2, .inl (cI, 4001, .inl (fun _ => 0))), (q3, .inl (cZ, 4002, .inl (fun _ => 0))), (q4, .inl (cZ, 4002, .inl (fun _ => 0))), (q5, .inl (cI, 8, .inl (fun _ => 0))), (q6, .inl (cI, 4001, .inl (fun _ => 0))), (q7, .inl (cI, 4001, .inl (fun _ => 0)))] := hD
  refine va_putF (D := D) (ci := 2) (v := .ref q7) (ty := .array .int) (C := RX2) (T := TX2) (N := 14) hx hb hts in_X2_init_X2 tyX2 tyX2_ok nmX2 hown hK hP hD hS 0 rfl rfl 13 (by decide) (hts (.fieldLink RX2 33 "OffsetHeapModel" "far" "[I") (by decide +kernel)) (fun _ h9 => h9) rfl hin rfl (by decide +kernel) rfl rfl (Nat.le_of_ble_eq_true rfl) dX2_init_68 (fun H locs hP hD hS => ?_)
  have hP : va_P D vwCl [(h1, .inr (2, [.int 0, .int 0, .int 0, .int (nI 1), .int 0, .int 0, .int 0, .ref q1, .ref q2, .ref q3, .ref q4, .ref q5, .ref q6, .ref q7])), (q1, .inl (cI, 4001, .inl (fun _ => 0))), (q2, .inl (cI, 4001, .inl (fun _ => 0))), (q3, .inl (cZ, 4002, .inl (fun _ => 0))), (q4, .inl (cZ, 4002, .inl (fun _ => 0))), (q5, .inl (cI, 8, .inl (fun _ => 0))), (q6, .inl (cI, 4001, .inl (fun _ => 0))), (q7, .inl (cI, 4001, .inl (fun _ => 0)))] H := hP
  have hD : va_D A [(h1, .inr (2, [.int 0, .int 0, .int 0, .int (nI 1), .int 0, .int 0, .int 0, .ref q1, .ref q2, .ref q3, .ref q4, .ref q5, .ref q6, .ref q7])), (q1, .inl (cI, 4001, .inl (fun _ => 0))), (q2, .inl (cI, 4001, .inl (fun _ => 0))), (q3, .inl (cZ, 4002, .inl (fun _ => 0))), (q4, .inl (cZ, 4002, .inl (fun _ => 0))), (q5, .inl (cI, 8, .inl (fun _ => 0))), (q6, .inl (cI, 4001, .inl (fun _ => 0))), (q7, .inl (cI, 4001, .inl (fun _ => 0)))] := hD
  refine lv_aload_n hx hb dX2_init_71 rfl (lv_at hl 0 rfl) ?_
  refine lv_iload_n hx hb dX2_init_72 rfl (lv_at hl 1 rfl) ?_
  refine lv_bipush (v := nI 16) hx hb dX2_init_73 (by decide +kernel) ?_
  refine lv_icmp_ge (tgt := 83) hx hb dX2_init_75 (by decide) (fun c75 => ?_) (fun c75 => ?_)
  · refine lv_iload_n hx hb dX2_init_83 rfl (lv_at hl 1 rfl) ?_
    refine lv_sipush (v := nI 4000) hx hb dX2_init_84 (by decide +kernel) ?_
    refine lv_icmp_le (tgt := 96) hx hb dX2_init_87 (by decide) (fun c87 => ?_) (fun c87 => ?_)
    · refine lv_iload_n hx hb dX2_init_96 rfl (lv_at hl 1 rfl) ?_
      refine xk_top (y := nI n) (by rw [hnx]; exact clp_mid c75 c87) ?_
      refine va_put (D := D) (ci := 2) (v := .int (nI n)) (ty := .int) (C := RX2) (T := TX2) (N := 14) hx hb hts in_X2_init_X2 tyX2 tyX2_ok nmX2 hown hK hP hD hS 0 rfl rfl 1 (by decide) (hts (.fieldLink RX2 36 "OffsetHeapModel" "most" "I") (by decide +kernel)) (fun _ h9 => h9) rfl (by decide +kernel) rfl rfl (Nat.le_of_ble_eq_true rfl) dX2_init_97 (fun H locs hP hD hS => ?_)
      have hP : va_P D vwCl [(h1, .inr (2, [.int 0, .int (nI n), .int 0, .int (nI 1), .int 0, .int 0, .int 0, .ref q1, .ref q2, .ref q3, .ref q4, .ref q5, .ref q6, .ref q7])), (q1, .inl (cI, 4001, .inl (fun _ => 0))), (q2, .inl (cI, 4001, .inl (fun _ => 0))), (q3, .inl (cZ, 4002, .inl (fun _ => 0))), (q4, .inl (cZ, 4002, .inl (fun _ => 0))), (q5, .inl (cI, 8, .inl (fun _ => 0))), (q6, .inl (cI, 4001, .inl (fun _ => 0))), (q7, .inl (cI, 4001, .inl (fun _ => 0)))] H := hP
      have hD : va_D A [(h1, .inr (2, [.int 0, .int (nI n), .int 0, .int (nI 1), .int 0, .int 0, .int 0, .ref q1, .ref q2, .ref q3, .ref q4, .ref q5, .ref q6, .ref q7])), (q1, .inl (cI, 4001, .inl (fun _ => 0))), (q2, .inl (cI, 4001, .inl (fun _ => 0))), (q3, .inl (cZ, 4002, .inl (fun _ => 0))), (q4, .inl (cZ, 4002, .inl (fun _ => 0))), (q5, .inl (cI, 8, .inl (fun _ => 0))), (q6, .inl (cI, 4001, .inl (fun _ => 0))), (q7, .inl (cI, 4001, .inl (fun _ => 0)))] := hD
      refine lv_aload_n hx hb dX2_init_100 rfl (lv_at hl 0 rfl) ?_
      refine lv_iload_n hx hb dX2_init_101 rfl (lv_at hl 2 rfl) ?_
      refine lv_bipush (v := nI 8) hx hb dX2_init_102 (by decide +kernel) ?_
      refine lv_icmp_eq (tgt := 119) hx hb dX2_init_104 (by decide) (fun c104 => ?_) (fun c104 => ?_)
      · refine lv_iload_n hx hb dX2_init_119 rfl (lv_at hl 2 rfl) ?_
        refine lv_goto (tgt := 125) hx hb dX2_init_120 (by decide) ?_
        refine xk_top (y := nI B) (by rw [hBy]; unfold blk; rw [if_pos c104]; exact c104) ?_
        refine va_put (D := D) (ci := 2) (v := .int (nI B)) (ty := .int) (C := RX2) (T := TX2) (N := 14) hx hb hts in_X2_init_X2 tyX2 tyX2_ok nmX2 hown hK hP hD hS 0 rfl rfl 2 (by decide) (hts (.fieldLink RX2 39 "OffsetHeapModel" "block" "I") (by decide +kernel)) (fun _ h9 => h9) rfl (by decide +kernel) rfl rfl (Nat.le_of_ble_eq_true rfl) dX2_init_125 (fun H locs hP hD hS => ?_)
        have hP : va_P D vwCl [(h1, .inr (2, [.int 0, .int (nI n), .int (nI B), .int (nI 1), .int 0, .int 0, .int 0, .ref q1, .ref q2, .ref q3, .ref q4, .ref q5, .ref q6, .ref q7])), (q1, .inl (cI, 4001, .inl (fun _ => 0))), (q2, .inl (cI, 4001, .inl (fun _ => 0))), (q3, .inl (cZ, 4002, .inl (fun _ => 0))), (q4, .inl (cZ, 4002, .inl (fun _ => 0))), (q5, .inl (cI, 8, .inl (fun _ => 0))), (q6, .inl (cI, 4001, .inl (fun _ => 0))), (q7, .inl (cI, 4001, .inl (fun _ => 0)))] H := hP
        have hD : va_D A [(h1, .inr (2, [.int 0, .int (nI n), .int (nI B), .int (nI 1), .int 0, .int 0, .int 0, .ref q1, .ref q2, .ref q3, .ref q4, .ref q5, .ref q6, .ref q7])), (q1, .inl (cI, 4001, .inl (fun _ => 0))), (q2, .inl (cI, 4001, .inl (fun _ => 0))), (q3, .inl (cZ, 4002, .inl (fun _ => 0))), (q4, .inl (cZ, 4002, .inl (fun _ => 0))), (q5, .inl (cI, 8, .inl (fun _ => 0))), (q6, .inl (cI, 4001, .inl (fun _ => 0))), (q7, .inl (cI, 4001, .inl (fun _ => 0)))] := hD
        exact W.vret hx hb hr (fun t ht hW => ⟨⟨adL [0, q1, q2, q3, q4, q5, q6, q7], rfl, trivial, by rw [ht]; exact hP.sub [0, 1, 2, 3, 4, 5, 6, 7] rfl, hD.sub [0, 1, 2, 3, 4, 5, 6, 7] (by decide) rfl⟩, hS.F ht⟩) hS.2.2 dX2_init_128
      · refine lv_iload_n hx hb dX2_init_107 rfl (lv_at hl 2 rfl) ?_
        refine lv_bipush (v := nI 16) hx hb dX2_init_108 (by decide +kernel) ?_
        refine lv_icmp_eq (tgt := 119) hx hb dX2_init_110 (by decide) (fun c110 => ?_) (fun c110 => ?_)
        · refine lv_iload_n hx hb dX2_init_119 rfl (lv_at hl 2 rfl) ?_
          refine lv_goto (tgt := 125) hx hb dX2_init_120 (by decide) ?_
          refine xk_top (y := nI B) (by rw [hBy]; unfold blk; rw [if_neg c104, if_pos c110]; exact c110) ?_
          refine va_put (D := D) (ci := 2) (v := .int (nI B)) (ty := .int) (C := RX2) (T := TX2) (N := 14) hx hb hts in_X2_init_X2 tyX2 tyX2_ok nmX2 hown hK hP hD hS 0 rfl rfl 2 (by decide) (hts (.fieldLink RX2 39 "OffsetHeapModel" "block" "I") (by decide +kernel)) (fun _ h9 => h9) rfl (by decide +kernel) rfl rfl (Nat.le_of_ble_eq_true rfl) dX2_init_125 (fun H locs hP hD hS => ?_)
          have hP : va_P D vwCl [(h1, .inr (2, [.int 0, .int (nI n), .int (nI B), .int (nI 1), .int 0, .int 0, .int 0, .ref q1, .ref q2, .ref q3, .ref q4, .ref q5, .ref q6, .ref q7])), (q1, .inl (cI, 4001, .inl (fun _ => 0))), (q2, .inl (cI, 4001, .inl (fun _ => 0))), (q3, .inl (cZ, 4002, .inl (fun _ => 0))), (q4, .inl (cZ, 4002, .inl (fun _ => 0))), (q5, .inl (cI, 8, .inl (fun _ => 0))), (q6, .inl (cI, 4001, .inl (fun _ => 0))), (q7, .inl (cI, 4001, .inl (fun _ => 0)))] H := hP
          have hD : va_D A [(h1, .inr (2, [.int 0, .int (nI n), .int (nI B), .int (nI 1), .int 0, .int 0, .int 0, .ref q1, .ref q2, .ref q3, .ref q4, .ref q5, .ref q6, .ref q7])), (q1, .inl (cI, 4001, .inl (fun _ => 0))), (q2, .inl (cI, 4001, .inl (fun _ => 0))), (q3, .inl (cZ, 4002, .inl (fun _ => 0))), (q4, .inl (cZ, 4002, .inl (fun _ => 0))), (q5, .inl (cI, 8, .inl (fun _ => 0))), (q6, .inl (cI, 4001, .inl (fun _ => 0))), (q7, .inl (cI, 4001, .inl (fun _ => 0)))] := hD
          exact W.vret hx hb hr (fun t ht hW => ⟨⟨adL [0, q1, q2, q3, q4, q5, q6, q7], rfl, trivial, by rw [ht]; exact hP.sub [0, 1, 2, 3, 4, 5, 6, 7] rfl, hD.sub [0, 1, 2, 3, 4, 5, 6, 7] (by decide) rfl⟩, hS.F ht⟩) hS.2.2 dX2_init_128
        · refine lv_iload_n hx hb dX2_init_113 rfl (lv_at hl 2 rfl) ?_
          refine lv_bipush (v := nI 64) hx hb dX2_init_114 (by decide +kernel) ?_
          refine lv_icmp_ne (tgt := 123) hx hb dX2_init_116 (by decide) (fun c116 => ?_) (fun c116 => ?_)
          · refine lv_bipush (v := nI 32) hx hb dX2_init_123 (by decide +kernel) ?_
            refine xk_top (y := nI B) (by rw [hBy]; unfold blk; rw [if_neg c104, if_neg c110, if_neg c116]) ?_
            refine va_put (D := D) (ci := 2) (v := .int (nI B)) (ty := .int) (C := RX2) (T := TX2) (N := 14) hx hb hts in_X2_init_X2 tyX2 tyX2_ok nmX2 hown hK hP hD hS 0 rfl rfl 2 (by decide) (hts (.fieldLink RX2 39 "OffsetHeapModel" "block" "I") (by decide +kernel)) (fun _ h9 => h9) rfl (by decide +kernel) rfl rfl (Nat.le_of_ble_eq_true rfl) dX2_init_125 (fun H locs hP hD hS => ?_)
            have hP : va_P D vwCl [(h1, .inr (2, [.int 0, .int (nI n), .int (nI B), .int (nI 1), .int 0, .int 0, .int 0, .ref q1, .ref q2, .ref q3, .ref q4, .ref q5, .ref q6, .ref q7])), (q1, .inl (cI, 4001, .inl (fun _ => 0))), (q2, .inl (cI, 4001, .inl (fun _ => 0))), (q3, .inl (cZ, 4002, .inl (fun _ => 0))), (q4, .inl (cZ, 4002, .inl (fun _ => 0))), (q5, .inl (cI, 8, .inl (fun _ => 0))), (q6, .inl (cI, 4001, .inl (fun _ => 0))), (q7, .inl (cI, 4001, .inl (fun _ => 0)))] H := hP
            have hD : va_D A [(h1, .inr (2, [.int 0, .int (nI n), .int (nI B), .int (nI 1), .int 0, .int 0, .int 0, .ref q1, .ref q2, .ref q3, .ref q4, .ref q5, .ref q6, .ref q7])), (q1, .inl (cI, 4001, .inl (fun _ => 0))), (q2, .inl (cI, 4001, .inl (fun _ => 0))), (q3, .inl (cZ, 4002, .inl (fun _ => 0))), (q4, .inl (cZ, 4002, .inl (fun _ => 0))), (q5, .inl (cI, 8, .inl (fun _ => 0))), (q6, .inl (cI, 4001, .inl (fun _ => 0))), (q7, .inl (cI, 4001, .inl (fun _ => 0)))] := hD
            exact W.vret hx hb hr (fun t ht hW => ⟨⟨adL [0, q1, q2, q3, q4, q5, q6, q7], rfl, trivial, by rw [ht]; exact hP.sub [0, 1, 2, 3, 4, 5, 6, 7] rfl, hD.sub [0, 1, 2, 3, 4, 5, 6, 7] (by decide) rfl⟩, hS.F ht⟩) hS.2.2 dX2_init_128
          · refine lv_iload_n hx hb dX2_init_119 rfl (lv_at hl 2 rfl) ?_
            refine lv_goto (tgt := 125) hx hb dX2_init_120 (by decide) ?_
            refine xk_top (y := nI B) (by rw [hBy]; unfold blk; rw [if_neg c104, if_neg c110, if_pos c116]; exact c116) ?_
            refine va_put (D := D) (ci := 2) (v := .int (nI B)) (ty := .int) (C := RX2) (T := TX2) (N := 14) hx hb hts in_X2_init_X2 tyX2 tyX2_ok nmX2 hown hK hP hD hS 0 rfl rfl 2 (by decide) (hts (.fieldLink RX2 39 "OffsetHeapModel" "block" "I") (by decide +kernel)) (fun _ h9 => h9) rfl (by decide +kernel) rfl rfl (Nat.le_of_ble_eq_true rfl) dX2_init_125 (fun H locs hP hD hS => ?_)
            have hP : va_P D vwCl [(h1, .inr (2, [.int 0, .int (nI n), .int (nI B), .int (nI 1), .int 0, .int 0, .int 0, .ref q1, .ref q2, .ref q3, .ref q4, .ref q5, .ref q6, .ref q7])), (q1, .inl (cI, 4001, .inl (fun _ => 0))), (q2, .inl (cI, 4001, .inl (fun _ => 0))), (q3, .inl (cZ, 4002, .inl (fun _ => 0))), (q4, .inl (cZ, 4002, .inl (fun _ => 0))), (q5, .inl (cI, 8, .inl (fun _ => 0))), (q6, .inl (cI, 4001, .inl (fun _ => 0))), (q7, .inl (cI, 4001, .inl (fun _ => 0)))] H := hP
            have hD : va_D A [(h1, .inr (2, [.int 0, .int (nI n), .int (nI B), .int (nI 1), .int 0, .int 0, .int 0, .ref q1, .ref q2, .ref q3, .ref q4, .ref q5, .ref q6, .ref q7])), (q1, .inl (cI, 4001, .inl (fun _ => 0))), (q2, .inl (cI, 4001, .inl (fun _ => 0))), (q3, .inl (cZ, 4002, .inl (fun _ => 0))), (q4, .inl (cZ, 4002, .inl (fun _ => 0))), (q5, .inl (cI, 8, .inl (fun _ => 0))), (q6, .inl (cI, 4001, .inl (fun _ => 0))), (q7, .inl (cI, 4001, .inl (fun _ => 0)))] := hD
            exact W.vret hx hb hr (fun t ht hW => ⟨⟨adL [0, q1, q2, q3, q4, q5, q6, q7], rfl, trivial, by rw [ht]; exact hP.sub [0, 1, 2, 3, 4, 5, 6, 7] rfl, hD.sub [0, 1, 2, 3, 4, 5, 6, 7] (by decide) rfl⟩, hS.F ht⟩) hS.2.2 dX2_init_128
    · refine lv_sipush (v := nI 4000) hx hb dX2_init_90 (by decide +kernel) ?_
      refine lv_goto (tgt := 97) hx hb dX2_init_93 (by decide) ?_
      refine xk_top (y := nI n) (by rw [hnx, clp_hi c87]) ?_
      refine va_put (D := D) (ci := 2) (v := .int (nI n)) (ty := .int) (C := RX2) (T := TX2) (N := 14) hx hb hts in_X2_init_X2 tyX2 tyX2_ok nmX2 hown hK hP hD hS 0 rfl rfl 1 (by decide) (hts (.fieldLink RX2 36 "OffsetHeapModel" "most" "I") (by decide +kernel)) (fun _ h9 => h9) rfl (by decide +kernel) rfl rfl (Nat.le_of_ble_eq_true rfl) dX2_init_97 (fun H locs hP hD hS => ?_)
      have hP : va_P D vwCl [(h1, .inr (2, [.int 0, .int (nI n), .int 0, .int (nI 1), .int 0, .int 0, .int 0, .ref q1, .ref q2, .ref q3, .ref q4, .ref q5, .ref q6, .ref q7])), (q1, .inl (cI, 4001, .inl (fun _ => 0))), (q2, .inl (cI, 4001, .inl (fun _ => 0))), (q3, .inl (cZ, 4002, .inl (fun _ => 0))), (q4, .inl (cZ, 4002, .inl (fun _ => 0))), (q5, .inl (cI, 8, .inl (fun _ => 0))), (q6, .inl (cI, 4001, .inl (fun _ => 0))), (q7, .inl (cI, 4001, .inl (fun _ => 0)))] H := hP
      have hD : va_D A [(h1, .inr (2, [.int 0, .int (nI n), .int 0, .int (nI 1), .int 0, .int 0, .int 0, .ref q1, .ref q2, .ref q3, .ref q4, .ref q5, .ref q6, .ref q7])), (q1, .inl (cI, 4001, .inl (fun _ => 0))), (q2, .inl (cI, 4001, .inl (fun _ => 0))), (q3, .inl (cZ, 4002, .inl (fun _ => 0))), (q4, .inl (cZ, 4002, .inl (fun _ => 0))), (q5, .inl (cI, 8, .inl (fun _ => 0))), (q6, .inl (cI, 4001, .inl (fun _ => 0))), (q7, .inl (cI, 4001, .inl (fun _ => 0)))] := hD
      refine lv_aload_n hx hb dX2_init_100 rfl (lv_at hl 0 rfl) ?_
      refine lv_iload_n hx hb dX2_init_101 rfl (lv_at hl 2 rfl) ?_
      refine lv_bipush (v := nI 8) hx hb dX2_init_102 (by decide +kernel) ?_
      refine lv_icmp_eq (tgt := 119) hx hb dX2_init_104 (by decide) (fun c104 => ?_) (fun c104 => ?_)
      · refine lv_iload_n hx hb dX2_init_119 rfl (lv_at hl 2 rfl) ?_
        refine lv_goto (tgt := 125) hx hb dX2_init_120 (by decide) ?_
        refine xk_top (y := nI B) (by rw [hBy]; unfold blk; rw [if_pos c104]; exact c104) ?_
        refine va_put (D := D) (ci := 2) (v := .int (nI B)) (ty := .int) (C := RX2) (T := TX2) (N := 14) hx hb hts in_X2_init_X2 tyX2 tyX2_ok nmX2 hown hK hP hD hS 0 rfl rfl 2 (by decide) (hts (.fieldLink RX2 39 "OffsetHeapModel" "block" "I") (by decide +kernel)) (fun _ h9 => h9) rfl (by decide +kernel) rfl rfl (Nat.le_of_ble_eq_true rfl) dX2_init_125 (fun H locs hP hD hS => ?_)
        have hP : va_P D vwCl [(h1, .inr (2, [.int 0, .int (nI n), .int (nI B), .int (nI 1), .int 0, .int 0, .int 0, .ref q1, .ref q2, .ref q3, .ref q4, .ref q5, .ref q6, .ref q7])), (q1, .inl (cI, 4001, .inl (fun _ => 0))), (q2, .inl (cI, 4001, .inl (fun _ => 0))), (q3, .inl (cZ, 4002, .inl (fun _ => 0))), (q4, .inl (cZ, 4002, .inl (fun _ => 0))), (q5, .inl (cI, 8, .inl (fun _ => 0))), (q6, .inl (cI, 4001, .inl (fun _ => 0))), (q7, .inl (cI, 4001, .inl (fun _ => 0)))] H := hP
        have hD : va_D A [(h1, .inr (2, [.int 0, .int (nI n), .int (nI B), .int (nI 1), .int 0, .int 0, .int 0, .ref q1, .ref q2, .ref q3, .ref q4, .ref q5, .ref q6, .ref q7])), (q1, .inl (cI, 4001, .inl (fun _ => 0))), (q2, .inl (cI, 4001, .inl (fun _ => 0))), (q3, .inl (cZ, 4002, .inl (fun _ => 0))), (q4, .inl (cZ, 4002, .inl (fun _ => 0))), (q5, .inl (cI, 8, .inl (fun _ => 0))), (q6, .inl (cI, 4001, .inl (fun _ => 0))), (q7, .inl (cI, 4001, .inl (fun _ => 0)))] := hD
        exact W.vret hx hb hr (fun t ht hW => ⟨⟨adL [0, q1, q2, q3, q4, q5, q6, q7], rfl, trivial, by rw [ht]; exact hP.sub [0, 1, 2, 3, 4, 5, 6, 7] rfl, hD.sub [0, 1, 2, 3, 4, 5, 6, 7] (by decide) rfl⟩, hS.F ht⟩) hS.2.2 dX2_init_128
      · refine lv_iload_n hx hb dX2_init_107 rfl (lv_at hl 2 rfl) ?_
        refine lv_bipush (v := nI 16) hx hb dX2_init_108 (by decide +kernel) ?_
        refine lv_icmp_eq (tgt := 119) hx hb dX2_init_110 (by decide) (fun c110 => ?_) (fun c110 => ?_)
        · refine lv_iload_n hx hb dX2_init_119 rfl (lv_at hl 2 rfl) ?_
          refine lv_goto (tgt := 125) hx hb dX2_init_120 (by decide) ?_
          refine xk_top (y := nI B) (by rw [hBy]; unfold blk; rw [if_neg c104, if_pos c110]; exact c110) ?_
          refine va_put (D := D) (ci := 2) (v := .int (nI B)) (ty := .int) (C := RX2) (T := TX2) (N := 14) hx hb hts in_X2_init_X2 tyX2 tyX2_ok nmX2 hown hK hP hD hS 0 rfl rfl 2 (by decide) (hts (.fieldLink RX2 39 "OffsetHeapModel" "block" "I") (by decide +kernel)) (fun _ h9 => h9) rfl (by decide +kernel) rfl rfl (Nat.le_of_ble_eq_true rfl) dX2_init_125 (fun H locs hP hD hS => ?_)
          have hP : va_P D vwCl [(h1, .inr (2, [.int 0, .int (nI n), .int (nI B), .int (nI 1), .int 0, .int 0, .int 0, .ref q1, .ref q2, .ref q3, .ref q4, .ref q5, .ref q6, .ref q7])), (q1, .inl (cI, 4001, .inl (fun _ => 0))), (q2, .inl (cI, 4001, .inl (fun _ => 0))), (q3, .inl (cZ, 4002, .inl (fun _ => 0))), (q4, .inl (cZ, 4002, .inl (fun _ => 0))), (q5, .inl (cI, 8, .inl (fun _ => 0))), (q6, .inl (cI, 4001, .inl (fun _ => 0))), (q7, .inl (cI, 4001, .inl (fun _ => 0)))] H := hP
          have hD : va_D A [(h1, .inr (2, [.int 0, .int (nI n), .int (nI B), .int (nI 1), .int 0, .int 0, .int 0, .ref q1, .ref q2, .ref q3, .ref q4, .ref q5, .ref q6, .ref q7])), (q1, .inl (cI, 4001, .inl (fun _ => 0))), (q2, .inl (cI, 4001, .inl (fun _ => 0))), (q3, .inl (cZ, 4002, .inl (fun _ => 0))), (q4, .inl (cZ, 4002, .inl (fun _ => 0))), (q5, .inl (cI, 8, .inl (fun _ => 0))), (q6, .inl (cI, 4001, .inl (fun _ => 0))), (q7, .inl (cI, 4001, .inl (fun _ => 0)))] := hD
          exact W.vret hx hb hr (fun t ht hW => ⟨⟨adL [0, q1, q2, q3, q4, q5, q6, q7], rfl, trivial, by rw [ht]; exact hP.sub [0, 1, 2, 3, 4, 5, 6, 7] rfl, hD.sub [0, 1, 2, 3, 4, 5, 6, 7] (by decide) rfl⟩, hS.F ht⟩) hS.2.2 dX2_init_128
        · refine lv_iload_n hx hb dX2_init_113 rfl (lv_at hl 2 rfl) ?_
          refine lv_bipush (v := nI 64) hx hb dX2_init_114 (by decide +kernel) ?_
          refine lv_icmp_ne (tgt := 123) hx hb dX2_init_116 (by decide) (fun c116 => ?_) (fun c116 => ?_)
          · refine lv_bipush (v := nI 32) hx hb dX2_init_123 (by decide +kernel) ?_
            refine xk_top (y := nI B) (by rw [hBy]; unfold blk; rw [if_neg c104, if_neg c110, if_neg c116]) ?_
            refine va_put (D := D) (ci := 2) (v := .int (nI B)) (ty := .int) (C := RX2) (T := TX2) (N := 14) hx hb hts in_X2_init_X2 tyX2 tyX2_ok nmX2 hown hK hP hD hS 0 rfl rfl 2 (by decide) (hts (.fieldLink RX2 39 "OffsetHeapModel" "block" "I") (by decide +kernel)) (fun _ h9 => h9) rfl (by decide +kernel) rfl rfl (Nat.le_of_ble_eq_true rfl) dX2_init_125 (fun H locs hP hD hS => ?_)
            have hP : va_P D vwCl [(h1, .inr (2, [.int 0, .int (nI n), .int (nI B), .int (nI 1), .int 0, .int 0, .int 0, .ref q1, .ref q2, .ref q3, .ref q4, .ref q5, .ref q6, .ref q7])), (q1, .inl (cI, 4001, .inl (fun _ => 0))), (q2, .inl (cI, 4001, .inl (fun _ => 0))), (q3, .inl (cZ, 4002, .inl (fun _ => 0))), (q4, .inl (cZ, 4002, .inl (fun _ => 0))), (q5, .inl (cI, 8, .inl (fun _ => 0))), (q6, .inl (cI, 4001, .inl (fun _ => 0))), (q7, .inl (cI, 4001, .inl (fun _ => 0)))] H := hP
            have hD : va_D A [(h1, .inr (2, [.int 0, .int (nI n), .int (nI B), .int (nI 1), .int 0, .int 0, .int 0, .ref q1, .ref q2, .ref q3, .ref q4, .ref q5, .ref q6, .ref q7])), (q1, .inl (cI, 4001, .inl (fun _ => 0))), (q2, .inl (cI, 4001, .inl (fun _ => 0))), (q3, .inl (cZ, 4002, .inl (fun _ => 0))), (q4, .inl (cZ, 4002, .inl (fun _ => 0))), (q5, .inl (cI, 8, .inl (fun _ => 0))), (q6, .inl (cI, 4001, .inl (fun _ => 0))), (q7, .inl (cI, 4001, .inl (fun _ => 0)))] := hD
            exact W.vret hx hb hr (fun t ht hW => ⟨⟨adL [0, q1, q2, q3, q4, q5, q6, q7], rfl, trivial, by rw [ht]; exact hP.sub [0, 1, 2, 3, 4, 5, 6, 7] rfl, hD.sub [0, 1, 2, 3, 4, 5, 6, 7] (by decide) rfl⟩, hS.F ht⟩) hS.2.2 dX2_init_128
          · refine lv_iload_n hx hb dX2_init_119 rfl (lv_at hl 2 rfl) ?_
            refine lv_goto (tgt := 125) hx hb dX2_init_120 (by decide) ?_
            refine xk_top (y := nI B) (by rw [hBy]; unfold blk; rw [if_neg c104, if_neg c110, if_pos c116]; exact c116) ?_
            refine va_put (D := D) (ci := 2) (v := .int (nI B)) (ty := .int) (C := RX2) (T := TX2) (N := 14) hx hb hts in_X2_init_X2 tyX2 tyX2_ok nmX2 hown hK hP hD hS 0 rfl rfl 2 (by decide) (hts (.fieldLink RX2 39 "OffsetHeapModel" "block" "I") (by decide +kernel)) (fun _ h9 => h9) rfl (by decide +kernel) rfl rfl (Nat.le_of_ble_eq_true rfl) dX2_init_125 (fun H locs hP hD hS => ?_)
            have hP : va_P D vwCl [(h1, .inr (2, [.int 0, .int (nI n), .int (nI B), .int (nI 1), .int 0, .int 0, .int 0, .ref q1, .ref q2, .ref q3, .ref q4, .ref q5, .ref q6, .ref q7])), (q1, .inl (cI, 4001, .inl (fun _ => 0))), (q2, .inl (cI, 4001, .inl (fun _ => 0))), (q3, .inl (cZ, 4002, .inl (fun _ => 0))), (q4, .inl (cZ, 4002, .inl (fun _ => 0))), (q5, .inl (cI, 8, .inl (fun _ => 0))), (q6, .inl (cI, 4001, .inl (fun _ => 0))), (q7, .inl (cI, 4001, .inl (fun _ => 0)))] H := hP
            have hD : va_D A [(h1, .inr (2, [.int 0, .int (nI n), .int (nI B), .int (nI 1), .int 0, .int 0, .int 0, .ref q1, .ref q2, .ref q3, .ref q4, .ref q5, .ref q6, .ref q7])), (q1, .inl (cI, 4001, .inl (fun _ => 0))), (q2, .inl (cI, 4001, .inl (fun _ => 0))), (q3, .inl (cZ, 4002, .inl (fun _ => 0))), (q4, .inl (cZ, 4002, .inl (fun _ => 0))), (q5, .inl (cI, 8, .inl (fun _ => 0))), (q6, .inl (cI, 4001, .inl (fun _ => 0))), (q7, .inl (cI, 4001, .inl (fun _ => 0)))] := hD
            exact W.vret hx hb hr (fun t ht hW => ⟨⟨adL [0, q1, q2, q3, q4, q5, q6, q7], rfl, trivial, by rw [ht]; exact hP.sub [0, 1, 2, 3, 4, 5, 6, 7] rfl, hD.sub [0, 1, 2, 3, 4, 5, 6, 7] (by decide) rfl⟩, hS.F ht⟩) hS.2.2 dX2_init_128
  · refine lv_bipush (v := nI 16) hx hb dX2_init_78 (by decide +kernel) ?_
    refine lv_goto (tgt := 97) hx hb dX2_init_80 (by decide) ?_
    refine xk_top (y := nI n) (by rw [hnx, clp_lo c75]) ?_
    refine va_put (D := D) (ci := 2) (v := .int (nI n)) (ty := .int) (C := RX2) (T := TX2) (N := 14) hx hb hts in_X2_init_X2 tyX2 tyX2_ok nmX2 hown hK hP hD hS 0 rfl rfl 1 (by decide) (hts (.fieldLink RX2 36 "OffsetHeapModel" "most" "I") (by decide +kernel)) (fun _ h9 => h9) rfl (by decide +kernel) rfl rfl (Nat.le_of_ble_eq_true rfl) dX2_init_97 (fun H locs hP hD hS => ?_)
    have hP : va_P D vwCl [(h1, .inr (2, [.int 0, .int (nI n), .int 0, .int (nI 1), .int 0, .int 0, .int 0, .ref q1, .ref q2, .ref q3, .ref q4, .ref q5, .ref q6, .ref q7])), (q1, .inl (cI, 4001, .inl (fun _ => 0))), (q2, .inl (cI, 4001, .inl (fun _ => 0))), (q3, .inl (cZ, 4002, .inl (fun _ => 0))), (q4, .inl (cZ, 4002, .inl (fun _ => 0))), (q5, .inl (cI, 8, .inl (fun _ => 0))), (q6, .inl (cI, 4001, .inl (fun _ => 0))), (q7, .inl (cI, 4001, .inl (fun _ => 0)))] H := hP
    have hD : va_D A [(h1, .inr (2, [.int 0, .int (nI n), .int 0, .int (nI 1), .int 0, .int 0, .int 0, .ref q1, .ref q2, .ref q3, .ref q4, .ref q5, .ref q6, .ref q7])), (q1, .inl (cI, 4001, .inl (fun _ => 0))), (q2, .inl (cI, 4001, .inl (fun _ => 0))), (q3, .inl (cZ, 4002, .inl (fun _ => 0))), (q4, .inl (cZ, 4002, .inl (fun _ => 0))), (q5, .inl (cI, 8, .inl (fun _ => 0))), (q6, .inl (cI, 4001, .inl (fun _ => 0))), (q7, .inl (cI, 4001, .inl (fun _ => 0)))] := hD
    refine lv_aload_n hx hb dX2_init_100 rfl (lv_at hl 0 rfl) ?_
    refine lv_iload_n hx hb dX2_init_101 rfl (lv_at hl 2 rfl) ?_
    refine lv_bipush (v := nI 8) hx hb dX2_init_102 (by decide +kernel) ?_
    refine lv_icmp_eq (tgt := 119) hx hb dX2_init_104 (by decide) (fun c104 => ?_) (fun c104 => ?_)
    · refine lv_iload_n hx hb dX2_init_119 rfl (lv_at hl 2 rfl) ?_
      refine lv_goto (tgt := 125) hx hb dX2_init_120 (by decide) ?_
      refine xk_top (y := nI B) (by rw [hBy]; unfold blk; rw [if_pos c104]; exact c104) ?_
      refine va_put (D := D) (ci := 2) (v := .int (nI B)) (ty := .int) (C := RX2) (T := TX2) (N := 14) hx hb hts in_X2_init_X2 tyX2 tyX2_ok nmX2 hown hK hP hD hS 0 rfl rfl 2 (by decide) (hts (.fieldLink RX2 39 "OffsetHeapModel" "block" "I") (by decide +kernel)) (fun _ h9 => h9) rfl (by decide +kernel) rfl rfl (Nat.le_of_ble_eq_true rfl) dX2_init_125 (fun H locs hP hD hS => ?_)
      have hP : va_P D vwCl [(h1, .inr (2, [.int 0, .int (nI n), .int (nI B), .int (nI 1), .int 0, .int 0, .int 0, .ref q1, .ref q2, .ref q3, .ref q4, .ref q5, .ref q6, .ref q7])), (q1, .inl (cI, 4001, .inl (fun _ => 0))), (q2, .inl (cI, 4001, .inl (fun _ => 0))), (q3, .inl (cZ, 4002, .inl (fun _ => 0))), (q4, .inl (cZ, 4002, .inl (fun _ => 0))), (q5, .inl (cI, 8, .inl (fun _ => 0))), (q6, .inl (cI, 4001, .inl (fun _ => 0))), (q7, .inl (cI, 4001, .inl (fun _ => 0)))] H := hP
      have hD : va_D A [(h1, .inr (2, [.int 0, .int (nI n), .int (nI B), .int (nI 1), .int 0, .int 0, .int 0, .ref q1, .ref q2, .ref q3, .ref q4, .ref q5, .ref q6, .ref q7])), (q1, .inl (cI, 4001, .inl (fun _ => 0))), (q2, .inl (cI, 4001, .inl (fun _ => 0))), (q3, .inl (cZ, 4002, .inl (fun _ => 0))), (q4, .inl (cZ, 4002, .inl (fun _ => 0))), (q5, .inl (cI, 8, .inl (fun _ => 0))), (q6, .inl (cI, 4001, .inl (fun _ => 0))), (q7, .inl (cI, 4001, .inl (fun _ => 0)))] := hD
      exact W.vret hx hb hr (fun t ht hW => ⟨⟨adL [0, q1, q2, q3, q4, q5, q6, q7], rfl, trivial, by rw [ht]; exact hP.sub [0, 1, 2, 3, 4, 5, 6, 7] rfl, hD.sub [0, 1, 2, 3, 4, 5, 6, 7] (by decide) rfl⟩, hS.F ht⟩) hS.2.2 dX2_init_128
    · refine lv_iload_n hx hb dX2_init_107 rfl (lv_at hl 2 rfl) ?_
      refine lv_bipush (v := nI 16) hx hb dX2_init_108 (by decide +kernel) ?_
      refine lv_icmp_eq (tgt := 119) hx hb dX2_init_110 (by decide) (fun c110 => ?_) (fun c110 => ?_)
      · refine lv_iload_n hx hb dX2_init_119 rfl (lv_at hl 2 rfl) ?_
        refine lv_goto (tgt := 125) hx hb dX2_init_120 (by decide) ?_
        refine xk_top (y := nI B) (by rw [hBy]; unfold blk; rw [if_neg c104, if_pos c110]; exact c110) ?_
        refine va_put (D := D) (ci := 2) (v := .int (nI B)) (ty := .int) (C := RX2) (T := TX2) (N := 14) hx hb hts in_X2_init_X2 tyX2 tyX2_ok nmX2 hown hK hP hD hS 0 rfl rfl 2 (by decide) (hts (.fieldLink RX2 39 "OffsetHeapModel" "block" "I") (by decide +kernel)) (fun _ h9 => h9) rfl (by decide +kernel) rfl rfl (Nat.le_of_ble_eq_true rfl) dX2_init_125 (fun H locs hP hD hS => ?_)
        have hP : va_P D vwCl [(h1, .inr (2, [.int 0, .int (nI n), .int (nI B), .int (nI 1), .int 0, .int 0, .int 0, .ref q1, .ref q2, .ref q3, .ref q4, .ref q5, .ref q6, .ref q7])), (q1, .inl (cI, 4001, .inl (fun _ => 0))), (q2, .inl (cI, 4001, .inl (fun _ => 0))), (q3, .inl (cZ, 4002, .inl (fun _ => 0))), (q4, .inl (cZ, 4002, .inl (fun _ => 0))), (q5, .inl (cI, 8, .inl (fun _ => 0))), (q6, .inl (cI, 4001, .inl (fun _ => 0))), (q7, .inl (cI, 4001, .inl (fun _ => 0)))] H := hP
        have hD : va_D A [(h1, .inr (2, [.int 0, .int (nI n), .int (nI B), .int (nI 1), .int 0, .int 0, .int 0, .ref q1, .ref q2, .ref q3, .ref q4, .ref q5, .ref q6, .ref q7])), (q1, .inl (cI, 4001, .inl (fun _ => 0))), (q2, .inl (cI, 4001, .inl (fun _ => 0))), (q3, .inl (cZ, 4002, .inl (fun _ => 0))), (q4, .inl (cZ, 4002, .inl (fun _ => 0))), (q5, .inl (cI, 8, .inl (fun _ => 0))), (q6, .inl (cI, 4001, .inl (fun _ => 0))), (q7, .inl (cI, 4001, .inl (fun _ => 0)))] := hD
        exact W.vret hx hb hr (fun t ht hW => ⟨⟨adL [0, q1, q2, q3, q4, q5, q6, q7], rfl, trivial, by rw [ht]; exact hP.sub [0, 1, 2, 3, 4, 5, 6, 7] rfl, hD.sub [0, 1, 2, 3, 4, 5, 6, 7] (by decide) rfl⟩, hS.F ht⟩) hS.2.2 dX2_init_128
      · refine lv_iload_n hx hb dX2_init_113 rfl (lv_at hl 2 rfl) ?_
        refine lv_bipush (v := nI 64) hx hb dX2_init_114 (by decide +kernel) ?_
        refine lv_icmp_ne (tgt := 123) hx hb dX2_init_116 (by decide) (fun c116 => ?_) (fun c116 => ?_)
        · refine lv_bipush (v := nI 32) hx hb dX2_init_123 (by decide +kernel) ?_
          refine xk_top (y := nI B) (by rw [hBy]; unfold blk; rw [if_neg c104, if_neg c110, if_neg c116]) ?_
          refine va_put (D := D) (ci := 2) (v := .int (nI B)) (ty := .int) (C := RX2) (T := TX2) (N := 14) hx hb hts in_X2_init_X2 tyX2 tyX2_ok nmX2 hown hK hP hD hS 0 rfl rfl 2 (by decide) (hts (.fieldLink RX2 39 "OffsetHeapModel" "block" "I") (by decide +kernel)) (fun _ h9 => h9) rfl (by decide +kernel) rfl rfl (Nat.le_of_ble_eq_true rfl) dX2_init_125 (fun H locs hP hD hS => ?_)
          have hP : va_P D vwCl [(h1, .inr (2, [.int 0, .int (nI n), .int (nI B), .int (nI 1), .int 0, .int 0, .int 0, .ref q1, .ref q2, .ref q3, .ref q4, .ref q5, .ref q6, .ref q7])), (q1, .inl (cI, 4001, .inl (fun _ => 0))), (q2, .inl (cI, 4001, .inl (fun _ => 0))), (q3, .inl (cZ, 4002, .inl (fun _ => 0))), (q4, .inl (cZ, 4002, .inl (fun _ => 0))), (q5, .inl (cI, 8, .inl (fun _ => 0))), (q6, .inl (cI, 4001, .inl (fun _ => 0))), (q7, .inl (cI, 4001, .inl (fun _ => 0)))] H := hP
          have hD : va_D A [(h1, .inr (2, [.int 0, .int (nI n), .int (nI B), .int (nI 1), .int 0, .int 0, .int 0, .ref q1, .ref q2, .ref q3, .ref q4, .ref q5, .ref q6, .ref q7])), (q1, .inl (cI, 4001, .inl (fun _ => 0))), (q2, .inl (cI, 4001, .inl (fun _ => 0))), (q3, .inl (cZ, 4002, .inl (fun _ => 0))), (q4, .inl (cZ, 4002, .inl (fun _ => 0))), (q5, .inl (cI, 8, .inl (fun _ => 0))), (q6, .inl (cI, 4001, .inl (fun _ => 0))), (q7, .inl (cI, 4001, .inl (fun _ => 0)))] := hD
          exact W.vret hx hb hr (fun t ht hW => ⟨⟨adL [0, q1, q2, q3, q4, q5, q6, q7], rfl, trivial, by rw [ht]; exact hP.sub [0, 1, 2, 3, 4, 5, 6, 7] rfl, hD.sub [0, 1, 2, 3, 4, 5, 6, 7] (by decide) rfl⟩, hS.F ht⟩) hS.2.2 dX2_init_128
        · refine lv_iload_n hx hb dX2_init_119 rfl (lv_at hl 2 rfl) ?_
          refine lv_goto (tgt := 125) hx hb dX2_init_120 (by decide) ?_
          refine xk_top (y := nI B) (by rw [hBy]; unfold blk; rw [if_neg c104, if_neg c110, if_pos c116]; exact c116) ?_
          refine va_put (D := D) (ci := 2) (v := .int (nI B)) (ty := .int) (C := RX2) (T := TX2) (N := 14) hx hb hts in_X2_init_X2 tyX2 tyX2_ok nmX2 hown hK hP hD hS 0 rfl rfl 2 (by decide) (hts (.fieldLink RX2 39 "OffsetHeapModel" "block" "I") (by decide +kernel)) (fun _ h9 => h9) rfl (by decide +kernel) rfl rfl (Nat.le_of_ble_eq_true rfl) dX2_init_125 (fun H locs hP hD hS => ?_)
          have hP : va_P D vwCl [(h1, .inr (2, [.int 0, .int (nI n), .int (nI B), .int (nI 1), .int 0, .int 0, .int 0, .ref q1, .ref q2, .ref q3, .ref q4, .ref q5, .ref q6, .ref q7])), (q1, .inl (cI, 4001, .inl (fun _ => 0))), (q2, .inl (cI, 4001, .inl (fun _ => 0))), (q3, .inl (cZ, 4002, .inl (fun _ => 0))), (q4, .inl (cZ, 4002, .inl (fun _ => 0))), (q5, .inl (cI, 8, .inl (fun _ => 0))), (q6, .inl (cI, 4001, .inl (fun _ => 0))), (q7, .inl (cI, 4001, .inl (fun _ => 0)))] H := hP
          have hD : va_D A [(h1, .inr (2, [.int 0, .int (nI n), .int (nI B), .int (nI 1), .int 0, .int 0, .int 0, .ref q1, .ref q2, .ref q3, .ref q4, .ref q5, .ref q6, .ref q7])), (q1, .inl (cI, 4001, .inl (fun _ => 0))), (q2, .inl (cI, 4001, .inl (fun _ => 0))), (q3, .inl (cZ, 4002, .inl (fun _ => 0))), (q4, .inl (cZ, 4002, .inl (fun _ => 0))), (q5, .inl (cI, 8, .inl (fun _ => 0))), (q6, .inl (cI, 4001, .inl (fun _ => 0))), (q7, .inl (cI, 4001, .inl (fun _ => 0)))] := hD
          exact W.vret hx hb hr (fun t ht hW => ⟨⟨adL [0, q1, q2, q3, q4, q5, q6, q7], rfl, trivial, by rw [ht]; exact hP.sub [0, 1, 2, 3, 4, 5, 6, 7] rfl, hD.sub [0, 1, 2, 3, 4, 5, 6, 7] (by decide) rfl⟩, hS.F ht⟩) hS.2.2 dX2_init_128
