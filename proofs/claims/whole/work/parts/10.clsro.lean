/-! the class: methods that only read -/
theorem in_X1_isWord_X1 : ∀ w ∈ wsX10, w ∈ wsX1_isWord := by decide +kernel
theorem in_X1_isObject_X1 : ∀ w ∈ wsX10, w ∈ wsX1_isObject := by decide +kernel
theorem in_X1_isObjectOrNone_X1 : ∀ w ∈ wsX10, w ∈ wsX1_isObjectOrNone := by decide +kernel
theorem in_X1_word_X1 : ∀ w ∈ wsX10, w ∈ wsX1_word := by decide +kernel
theorem in_X1_rootOf_X1 : ∀ w ∈ wsX10, w ∈ wsX1_rootOf := by decide +kernel
theorem in_X1_bit_X1 : ∀ w ∈ wsX10, w ∈ wsX1_bit := by decide +kernel
theorem in_X1_offset_X1 : ∀ w ∈ wsX10, w ∈ wsX1_offset := by decide +kernel
theorem in_X1_moved_X1 : ∀ w ∈ wsX10, w ∈ wsX1_moved := by decide +kernel
theorem in_X1_reads_X1 : ∀ w ∈ wsX10, w ∈ wsX1_reads := by decide +kernel
theorem in_X1_count_X1 : ∀ w ∈ wsX10, w ∈ wsX1_count := by decide +kernel
theorem in_X1_newAddress_X1 : ∀ w ∈ wsX10, w ∈ wsX1_newAddress := by decide +kernel
theorem in_X1_newAddressOrNone_X1 : ∀ w ∈ wsX10, w ∈ wsX1_newAddressOrNone := by decide +kernel
set_option maxHeartbeats 4000000 in
set_option maxRecDepth 100000 in
/-- headerOf -/
theorem c_headerOf (l : Launch) (r w : Nat) : Met l yX1_headerOf wsX1_headerOf ({ frames := 0, cells := 0, slots := 0, locals := 0 }) (va_Pc [.int (nI r), .int (nI w)] (fun _ => True)) (vp_Si (fun r9 => r9 = nI (256 * w + 16 * r))) 0 0 (fun _ => False) := by
  refine Met.ofW (cc := cX1_headerOf) (maxL := 2) (ret := (some .int)) (by decide) rfl ?_
  intro p e s m args below meth c s₁ B9 hml hv
  obtain ⟨rfl, -⟩ := hv
  have hx := B9.exec
  have hb := B9.bytes
  have hr := B9.returns
  have hts := atoms_spec (ws := wsX1_headerOf) B9.pre
  have hown : s.vm.findClass RX1 = some m.cls := findClass_of_methodNamed B9.named
  have hlocks := B9.notSynchronized
  have hl := lv_entry ([.int (nI r), .int (nI w)]) (n := 2) (Nat.le_of_ble_eq_true rfl)
  rw [lg_entry_eq]
  generalize (lg_sl ([.int (nI r), .int (nI w)]) ++ List.replicate (2 - (lg_sl ([.int (nI r), .int (nI w)])).length) Slot.unset).toArray = ls at hl ⊢
  have hl : lv_has ls 2 [(0, .int (nI r)), (1, .int (nI w))] := hl
  refine lv_sipush (v := nI 256) hx hb dX1_headerOf_0 (by decide +kernel) ?_
  refine lv_iload_n hx hb dX1_headerOf_3 rfl (lv_at hl 1 rfl) ?_
  refine lv_imul hx hb dX1_headerOf_4 ?_
  refine xk_top (pk_mul _ _) ?_
  refine lv_bipush (v := nI 16) hx hb dX1_headerOf_5 (by decide +kernel) ?_
  refine lv_iload_n hx hb dX1_headerOf_7 rfl (lv_at hl 0 rfl) ?_
  refine lv_imul hx hb dX1_headerOf_8 ?_
  refine xk_top (pk_mul _ _) ?_
  refine lv_iadd hx hb dX1_headerOf_9 ?_
  refine xk_top (nI_add _ _) ?_
  exact W.iret hx hb hr (fun t ht hW => ⟨_, rfl, rfl, ht⟩) t_nil dX1_headerOf_10
set_option maxHeartbeats 4000000 in
set_option maxRecDepth 100000 in
/-- referencesBy -/
theorem c_referencesBy (l : Launch) (h : Nat) (hh : h < 2 ^ 31) : Met l yX1_referencesBy wsX1_referencesBy ({ frames := 0, cells := 0, slots := 0, locals := 0 }) (va_Pc [.int (nI h)] (fun _ => True)) (vp_Si (fun r9 => r9 = nI (h / 16 % 16))) 0 0 (fun _ => False) := by
  refine Met.ofW (cc := cX1_referencesBy) (maxL := 1) (ret := (some .int)) (by decide) rfl ?_
  intro p e s m args below meth c s₁ B9 hml hv
  obtain ⟨rfl, -⟩ := hv
  have hx := B9.exec
  have hb := B9.bytes
  have hr := B9.returns
  have hts := atoms_spec (ws := wsX1_referencesBy) B9.pre
  have hown : s.vm.findClass RX1 = some m.cls := findClass_of_methodNamed B9.named
  have hlocks := B9.notSynchronized
  have hl := lv_entry ([.int (nI h)]) (n := 1) (Nat.le_of_ble_eq_true rfl)
  rw [lg_entry_eq]
  generalize (lg_sl ([.int (nI h)]) ++ List.replicate (1 - (lg_sl ([.int (nI h)])).length) Slot.unset).toArray = ls at hl ⊢
  have hl : lv_has ls 1 [(0, .int (nI h))] := hl
  refine lv_iload_n hx hb dX1_referencesBy_0 rfl (lv_at hl 0 rfl) ?_
  refine lv_iconst (v := nI 4) hx hb dX1_referencesBy_1 (by decide +kernel) ?_
  refine lv_ishr hx hb dX1_referencesBy_2 ?_
  refine xk_top (pk_shrN (by omega) _ 4 (by decide)) ?_
  refine lv_bipush (v := nI 15) hx hb dX1_referencesBy_3 (by decide +kernel) ?_
  refine lv_iand hx hb dX1_referencesBy_5 ?_
  refine xk_top (pk_andN (by omega) 4 (by decide)) ?_
  exact W.iret hx hb hr (fun t ht hW => ⟨_, rfl, rfl, ht⟩) t_nil dX1_referencesBy_6
set_option maxHeartbeats 4000000 in
set_option maxRecDepth 100000 in
/-- plainBy -/
theorem c_plainBy (l : Launch) (h : Nat) (hh : h < 2 ^ 31) : Met l yX1_plainBy wsX1_plainBy ({ frames := 0, cells := 0, slots := 0, locals := 0 }) (va_Pc [.int (nI h)] (fun _ => True)) (vp_Si (fun r9 => r9 = nI (h / 256))) 0 0 (fun _ => False) := by
  refine Met.ofW (cc := cX1_plainBy) (maxL := 1) (ret := (some .int)) (by decide) rfl ?_
  intro p e s m args below meth c s₁ B9 hml hv
  obtain ⟨rfl, -⟩ := hv
  have hx := B9.exec
  have hb := B9.bytes
  have hr := B9.returns
  have hts := atoms_spec (ws := wsX1_plainBy) B9.pre
  have hown : s.vm.findClass RX1 = some m.cls := findClass_of_methodNamed B9.named
  have hlocks := B9.notSynchronized
  have hl := lv_entry ([.int (nI h)]) (n := 1) (Nat.le_of_ble_eq_true rfl)
  rw [lg_entry_eq]
  generalize (lg_sl ([.int (nI h)]) ++ List.replicate (1 - (lg_sl ([.int (nI h)])).length) Slot.unset).toArray = ls at hl ⊢
  have hl : lv_has ls 1 [(0, .int (nI h))] := hl
  refine lv_iload_n hx hb dX1_plainBy_0 rfl (lv_at hl 0 rfl) ?_
  refine lv_bipush (v := nI 8) hx hb dX1_plainBy_1 (by decide +kernel) ?_
  refine lv_ishr hx hb dX1_plainBy_3 ?_
  refine xk_top (pk_shrN (by omega) _ 8 (by decide)) ?_
  exact W.iret hx hb hr (fun t ht hW => ⟨_, rfl, rfl, ht⟩) t_nil dX1_plainBy_4
set_option maxHeartbeats 4000000 in
set_option maxRecDepth 100000 in
/-- sizeBy -/
theorem c_sizeBy (l : Launch) (h : Nat) (hh : h < 2 ^ 31) : Met l yX1_sizeBy wsX1_sizeBy ({ frames := 1, cells := 0, slots := 0, locals := 30 }) (va_Pc [.int (nI h)] (fun _ => True)) (vp_Si (fun r9 => r9 = nI (1 + h / 16 % 16 + h / 256))) 0 0 (fun _ => False) := by
  refine Met.ofW (cc := cX1_sizeBy) (maxL := 1) (ret := (some .int)) (by decide) rfl ?_
  intro p e s m args below meth c s₁ B9 hml hv
  obtain ⟨rfl, -⟩ := hv
  have hx := B9.exec
  have hb := B9.bytes
  have hr := B9.returns
  have hts := atoms_spec (ws := wsX1_sizeBy) B9.pre
  have hown : s.vm.findClass RX1 = some m.cls := findClass_of_methodNamed B9.named
  have hlocks := B9.notSynchronized
  have hl := lv_entry ([.int (nI h)]) (n := 1) (Nat.le_of_ble_eq_true rfl)
  rw [lg_entry_eq]
  generalize (lg_sl ([.int (nI h)]) ++ List.replicate (1 - (lg_sl ([.int (nI h)])).length) Slot.unset).toArray = ls at hl ⊢
  have hl : lv_has ls 1 [(0, .int (nI h))] := hl
  refine lv_iconst (v := nI 1) hx hb dX1_sizeBy_0 (by decide +kernel) ?_
  refine lv_iload_n hx hb dX1_sizeBy_1 rfl (lv_at hl 0 rfl) ?_
  refine xk_roS (As := [.int (nI h)]) (rest := [.int (nI 1)]) ⟨hx, hb, hml, hown, hts⟩ (c_referencesBy l h (by omega)) (va_cwS 1 hts gX1_sizeBy_X1_referencesBy rfl rfl rfl (by decide +kernel) ⟨Nat.le_of_ble_eq_true rfl, Nat.le_of_ble_eq_true rfl⟩) rfl hl.1 rfl (Nat.le_of_ble_eq_true rfl) dX1_sizeBy_2 ⟨Nat.zero_le _, Nat.zero_le _⟩ ?_
  refine lv_iadd hx hb dX1_sizeBy_5 ?_
  refine xk_top (nI_add _ _) ?_
  refine lv_iload_n hx hb dX1_sizeBy_6 rfl (lv_at hl 0 rfl) ?_
  refine xk_roS (As := [.int (nI h)]) (rest := [.int (nI (1 + (h / 16 % 16)))]) ⟨hx, hb, hml, hown, hts⟩ (c_plainBy l h (by omega)) (va_cwS 1 hts gX1_sizeBy_X1_plainBy rfl rfl rfl (by decide +kernel) ⟨Nat.le_of_ble_eq_true rfl, Nat.le_of_ble_eq_true rfl⟩) rfl hl.1 rfl (Nat.le_of_ble_eq_true rfl) dX1_sizeBy_7 ⟨Nat.zero_le _, Nat.zero_le _⟩ ?_
  refine lv_iadd hx hb dX1_sizeBy_10 ?_
  refine xk_top (nI_add _ _) ?_
  exact W.iret hx hb hr (fun t ht hW => ⟨_, rfl, rfl, ht⟩) t_nil dX1_sizeBy_11
set_option maxHeartbeats 4000000 in
set_option maxRecDepth 100000 in
/-- isBlockSize -/
theorem c_isBlockSize (l : Launch) (x : Int32) : Met l yX1_isBlockSize wsX1_isBlockSize ({ frames := 0, cells := 0, slots := 0, locals := 0 }) (va_Pc [.int x] (fun _ => True)) (vp_Si (fun r9 => r9 = bI (decide (x = nI 8 ∨ x = nI 16 ∨ x = nI 32 ∨ x = nI 64)))) 0 0 (fun _ => False) := by
  refine Met.ofW (cc := cX1_isBlockSize) (maxL := 1) (ret := (some .boolean)) (by decide) rfl ?_
  intro p e s m args below meth c s₁ B9 hml hv
  obtain ⟨rfl, -⟩ := hv
  have hx := B9.exec
  have hb := B9.bytes
  have hr := B9.returns
  have hts := atoms_spec (ws := wsX1_isBlockSize) B9.pre
  have hown : s.vm.findClass RX1 = some m.cls := findClass_of_methodNamed B9.named
  have hlocks := B9.notSynchronized
  have hl := lv_entry ([.int x]) (n := 1) (Nat.le_of_ble_eq_true rfl)
  rw [lg_entry_eq]
  generalize (lg_sl ([.int x]) ++ List.replicate (1 - (lg_sl ([.int x])).length) Slot.unset).toArray = ls at hl ⊢
  have hl : lv_has ls 1 [(0, .int x)] := hl
  refine lv_iload_n hx hb dX1_isBlockSize_0 rfl (lv_at hl 0 rfl) ?_
  refine lv_bipush (v := nI 8) hx hb dX1_isBlockSize_1 (by decide +kernel) ?_
  refine lv_icmp_eq (tgt := 24) hx hb dX1_isBlockSize_3 (by decide) (fun c3 => ?_) (fun c3 => ?_)
  · refine lv_iconst (v := nI 1) hx hb dX1_isBlockSize_24 (by decide +kernel) ?_
    refine lv_goto (tgt := 29) hx hb dX1_isBlockSize_25 (by decide) ?_
    exact W.zret hx hb hr rfl (fun t ht hW => ⟨_, rfl, bI_1 (by simp [c3]), ht⟩) t_nil dX1_isBlockSize_29
  · refine lv_iload_n hx hb dX1_isBlockSize_6 rfl (lv_at hl 0 rfl) ?_
    refine lv_bipush (v := nI 16) hx hb dX1_isBlockSize_7 (by decide +kernel) ?_
    refine lv_icmp_eq (tgt := 24) hx hb dX1_isBlockSize_9 (by decide) (fun c9 => ?_) (fun c9 => ?_)
    · refine lv_iconst (v := nI 1) hx hb dX1_isBlockSize_24 (by decide +kernel) ?_
      refine lv_goto (tgt := 29) hx hb dX1_isBlockSize_25 (by decide) ?_
      exact W.zret hx hb hr rfl (fun t ht hW => ⟨_, rfl, bI_1 (by simp [c3, c9]), ht⟩) t_nil dX1_isBlockSize_29
    · refine lv_iload_n hx hb dX1_isBlockSize_12 rfl (lv_at hl 0 rfl) ?_
      refine lv_bipush (v := nI 32) hx hb dX1_isBlockSize_13 (by decide +kernel) ?_
      refine lv_icmp_eq (tgt := 24) hx hb dX1_isBlockSize_15 (by decide) (fun c15 => ?_) (fun c15 => ?_)
      · refine lv_iconst (v := nI 1) hx hb dX1_isBlockSize_24 (by decide +kernel) ?_
        refine lv_goto (tgt := 29) hx hb dX1_isBlockSize_25 (by decide) ?_
        exact W.zret hx hb hr rfl (fun t ht hW => ⟨_, rfl, bI_1 (by simp [c3, c9, c15]), ht⟩) t_nil dX1_isBlockSize_29
      · refine lv_iload_n hx hb dX1_isBlockSize_18 rfl (lv_at hl 0 rfl) ?_
        refine lv_bipush (v := nI 64) hx hb dX1_isBlockSize_19 (by decide +kernel) ?_
        refine lv_icmp_ne (tgt := 28) hx hb dX1_isBlockSize_21 (by decide) (fun c21 => ?_) (fun c21 => ?_)
        · refine lv_iconst (v := nI 0) hx hb dX1_isBlockSize_28 (by decide +kernel) ?_
          exact W.zret hx hb hr rfl (fun t ht hW => ⟨_, rfl, bI_0 (by simp [c3, c9, c15, c21]), ht⟩) t_nil dX1_isBlockSize_29
        · refine lv_iconst (v := nI 1) hx hb dX1_isBlockSize_24 (by decide +kernel) ?_
          refine lv_goto (tgt := 29) hx hb dX1_isBlockSize_25 (by decide) ?_
          exact W.zret hx hb hr rfl (fun t ht hW => ⟨_, rfl, bI_1 (by simp [c3, c9, c15, c21]), ht⟩) t_nil dX1_isBlockSize_29
set_option maxHeartbeats 4000000 in
set_option maxRecDepth 100000 in
/-- isRoot -/
theorem c_isRoot (l : Launch) (x : Int32) : Met l yX1_isRoot wsX1_isRoot ({ frames := 0, cells := 0, slots := 0, locals := 0 }) (va_Pc [.int x] (fun _ => True)) (vp_Si (fun r9 => r9 = bI (inR 8 x))) 0 0 (fun _ => False) := by
  refine Met.ofW (cc := cX1_isRoot) (maxL := 1) (ret := (some .boolean)) (by decide) rfl ?_
  intro p e s m args below meth c s₁ B9 hml hv
  obtain ⟨rfl, -⟩ := hv
  have hx := B9.exec
  have hb := B9.bytes
  have hr := B9.returns
  have hts := atoms_spec (ws := wsX1_isRoot) B9.pre
  have hown : s.vm.findClass RX1 = some m.cls := findClass_of_methodNamed B9.named
  have hlocks := B9.notSynchronized
  have hl := lv_entry ([.int x]) (n := 1) (Nat.le_of_ble_eq_true rfl)
  rw [lg_entry_eq]
  generalize (lg_sl ([.int x]) ++ List.replicate (1 - (lg_sl ([.int x])).length) Slot.unset).toArray = ls at hl ⊢
  have hl : lv_has ls 1 [(0, .int x)] := hl
  rcases xk_sgn x with hneg | ⟨a, ha, rfl⟩
  · refine lv_iload_n hx hb dX1_isRoot_0 rfl (lv_at hl 0 rfl) ?_
    refine lv_if_lt (tgt := 14) hx hb dX1_isRoot_1 (by decide) (fun c1 => ?_) (fun c1 => absurd hneg c1)
    refine lv_iconst (v := nI 0) hx hb dX1_isRoot_14 (by decide +kernel) ?_
    exact W.zret hx hb hr rfl (fun t ht hW => ⟨_, rfl, bI_0 (inR_neg hneg), ht⟩) t_nil dX1_isRoot_15
  · refine lv_iload_n hx hb dX1_isRoot_0 rfl (lv_at hl 0 rfl) ?_
    refine xk_if_lt (tgt := 14) hx hb (by omega) dX1_isRoot_1 (by decide) ?_
    refine lv_iload_n hx hb dX1_isRoot_4 rfl (lv_at hl 0 rfl) ?_
    refine lv_bipush (v := nI 8) hx hb dX1_isRoot_5 (by decide +kernel) ?_
    refine xk_icmp_ge (tgt := 14) hx hb (by omega) (by omega) dX1_isRoot_7 (by decide) (fun c7 => ?_) (fun c7 => ?_)
    · refine lv_iconst (v := nI 0) hx hb dX1_isRoot_14 (by decide +kernel) ?_
      exact W.zret hx hb hr rfl (fun t ht hW => ⟨_, rfl, bI_0 (by rw [inR_nat ha]; simp; omega), ht⟩) t_nil dX1_isRoot_15
    · refine lv_iconst (v := nI 1) hx hb dX1_isRoot_10 (by decide +kernel) ?_
      refine lv_goto (tgt := 15) hx hb dX1_isRoot_11 (by decide) ?_
      exact W.zret hx hb hr rfl (fun t ht hW => ⟨_, rfl, bI_1 (by rw [inR_nat ha]; simp; omega), ht⟩) t_nil dX1_isRoot_15
set_option maxHeartbeats 4000000 in
set_option maxRecDepth 100000 in
/-- isWord -/
theorem c_isWord (l : Launch) (D : va_G) (cI cL : ClassId) (h0 : Nat) (ad : Nat → Nat) (n B nb tp ob co rd : Nat) (rts offs fnd mem frs : Nat → Int32) (btw snw stw : Nat → Int64) (x : Int32) (hn : n ≤ 4000) : Met l yX1_isWord wsX1_isWord ({ frames := 0, cells := 0, slots := 0, locals := 0 }) (va_Pc [.ref h0, .int x] (fun U => va_P D vwCl (cW cI cL h0 ad n B nb tp ob co rd rts offs fnd mem frs btw snw stw) U.heap ∧ va_K D vwCl [(cI, .int), (cL, .long)] U)) (vp_Si (fun r9 => r9 = bI (inR (n + 1) x))) 0 0 (fun _ => False) := by
  refine Met.ofW (cc := cX1_isWord) (maxL := 2) (ret := (some .boolean)) (by decide) rfl ?_
  intro p e s m args below meth c s₁ B9 hml hv
  obtain ⟨rfl, hP, hK⟩ := hv
  have hx := B9.exec
  have hb := B9.bytes
  have hr := B9.returns
  have hts := atoms_spec (ws := wsX1_isWord) B9.pre
  have hown : s.vm.findClass RX1 = some m.cls := findClass_of_methodNamed B9.named
  have hlocks := B9.notSynchronized
  have hl := lv_entry ([.ref h0, .int x]) (n := 2) (Nat.le_of_ble_eq_true rfl)
  rw [lg_entry_eq]
  generalize (lg_sl ([.ref h0, .int x]) ++ List.replicate (2 - (lg_sl ([.ref h0, .int x])).length) Slot.unset).toArray = ls at hl ⊢
  have hl : lv_has ls 2 [(0, .ref h0), (1, .int x)] := hl
  rcases xk_sgn x with hneg | ⟨a, ha, rfl⟩
  · refine lv_iload_n hx hb dX1_isWord_0 rfl (lv_at hl 1 rfl) ?_
    refine lv_if_lt (tgt := 16) hx hb dX1_isWord_1 (by decide) (fun c1 => ?_) (fun c1 => absurd hneg c1)
    refine lv_iconst (v := nI 0) hx hb dX1_isWord_16 (by decide +kernel) ?_
    exact W.zret hx hb hr rfl (fun t ht hW => ⟨_, rfl, bI_0 (inR_neg hneg), ht⟩) t_nil dX1_isWord_17
  · refine lv_iload_n hx hb dX1_isWord_0 rfl (lv_at hl 1 rfl) ?_
    refine xk_if_lt (tgt := 16) hx hb (by omega) dX1_isWord_1 (by decide) ?_
    refine lv_iload_n hx hb dX1_isWord_4 rfl (lv_at hl 1 rfl) ?_
    refine lv_aload_n hx hb dX1_isWord_5 rfl (lv_at hl 0 rfl) ?_
    refine va_get (D := D) (ci := 1) (v := .int (nI n)) (C := RX1) (T := TX1) (N := 15) hx hb hts in_X1_isWord_X1 hown hK hP 0 rfl rfl 0 (by decide) (hts (.fieldLink RX1 18 "OffsetHeap" "last" "I") (by decide +kernel)) (fun _ h9 => h9) rfl dX1_isWord_6 ?_
    refine xk_icmp_gt (tgt := 16) hx hb (by omega) (by omega) dX1_isWord_9 (by decide) (fun c9 => ?_) (fun c9 => ?_)
    · refine lv_iconst (v := nI 0) hx hb dX1_isWord_16 (by decide +kernel) ?_
      exact W.zret hx hb hr rfl (fun t ht hW => ⟨_, rfl, bI_0 (by rw [inR_nat ha]; simp; omega), ht⟩) t_nil dX1_isWord_17
    · refine lv_iconst (v := nI 1) hx hb dX1_isWord_12 (by decide +kernel) ?_
      refine lv_goto (tgt := 17) hx hb dX1_isWord_13 (by decide) ?_
      exact W.zret hx hb hr rfl (fun t ht hW => ⟨_, rfl, bI_1 (by rw [inR_nat ha]; simp; omega), ht⟩) t_nil dX1_isWord_17
set_option maxHeartbeats 4000000 in
set_option maxRecDepth 100000 in
/-- isObject -/
theorem c_isObject (l : Launch) (D : va_G) (cI cL : ClassId) (h0 : Nat) (ad : Nat → Nat) (n B nb tp ob co rd : Nat) (rts offs fnd mem frs : Nat → Int32) (btw snw stw : Nat → Int64) (x : Int32) (hn : n ≤ 4000) (htp : tp ≤ n + 1) : Met l yX1_isObject wsX1_isObject ({ frames := 1, cells := 0, slots := 0, locals := 30 }) (va_Pc [.ref h0, .int x] (fun U => va_P D vwCl (cW cI cL h0 ad n B nb tp ob co rd rts offs fnd mem frs btw snw stw) U.heap ∧ va_K D vwCl [(cI, .int), (cL, .long)] U)) (vp_Si (fun r9 => r9 = bI (isO tp (bo stw) x))) 0 0 (fun _ => False) := by
  refine Met.ofW (cc := cX1_isObject) (maxL := 2) (ret := (some .boolean)) (by decide) rfl ?_
  intro p e s m args below meth c s₁ B9 hml hv
  obtain ⟨rfl, hP, hK⟩ := hv
  have hx := B9.exec
  have hb := B9.bytes
  have hr := B9.returns
  have hts := atoms_spec (ws := wsX1_isObject) B9.pre
  have hown : s.vm.findClass RX1 = some m.cls := findClass_of_methodNamed B9.named
  have hlocks := B9.notSynchronized
  have hl := lv_entry ([.ref h0, .int x]) (n := 2) (Nat.le_of_ble_eq_true rfl)
  rw [lg_entry_eq]
  generalize (lg_sl ([.ref h0, .int x]) ++ List.replicate (2 - (lg_sl ([.ref h0, .int x])).length) Slot.unset).toArray = ls at hl ⊢
  have hl : lv_has ls 2 [(0, .ref h0), (1, .int x)] := hl
  rcases xk_sgn x with hneg | ⟨a, ha, rfl⟩
  · refine lv_iload_n hx hb dX1_isObject_0 rfl (lv_at hl 1 rfl) ?_
    refine lv_iconst (v := nI 1) hx hb dX1_isObject_1 (by decide +kernel) ?_
    refine lv_icmp_lt (tgt := 28) hx hb dX1_isObject_2 (by decide) (fun c2 => ?_) (fun c2 => absurd (neg_lt hneg (by omega)) c2)
    refine lv_iconst (v := nI 0) hx hb dX1_isObject_28 (by decide +kernel) ?_
    exact W.zret hx hb hr rfl (fun t ht hW => ⟨_, rfl, bI_0 (isO_neg hneg), ht⟩) t_nil dX1_isObject_29
  · refine lv_iload_n hx hb dX1_isObject_0 rfl (lv_at hl 1 rfl) ?_
    refine lv_iconst (v := nI 1) hx hb dX1_isObject_1 (by decide +kernel) ?_
    refine xk_icmp_lt (tgt := 28) hx hb (by omega) (by omega) dX1_isObject_2 (by decide) (fun c2 => ?_) (fun c2 => ?_)
    · refine lv_iconst (v := nI 0) hx hb dX1_isObject_28 (by decide +kernel) ?_
      exact W.zret hx hb hr rfl (fun t ht hW => ⟨_, rfl, bI_0 (by rw [isO_nat ha]; simp; omega), ht⟩) t_nil dX1_isObject_29
    · refine lv_iload_n hx hb dX1_isObject_5 rfl (lv_at hl 1 rfl) ?_
      refine lv_aload_n hx hb dX1_isObject_6 rfl (lv_at hl 0 rfl) ?_
      refine va_get (D := D) (ci := 1) (v := .int (nI tp)) (C := RX1) (T := TX1) (N := 15) hx hb hts in_X1_isObject_X1 hown hK hP 0 rfl rfl 11 (by decide) (hts (.fieldLink RX1 63 "OffsetHeap" "top" "I") (by decide +kernel)) (fun _ h9 => h9) rfl dX1_isObject_7 ?_
      refine xk_icmp_ge (tgt := 28) hx hb (by omega) (by omega) dX1_isObject_10 (by decide) (fun c10 => ?_) (fun c10 => ?_)
      · refine lv_iconst (v := nI 0) hx hb dX1_isObject_28 (by decide +kernel) ?_
        exact W.zret hx hb hr rfl (fun t ht hW => ⟨_, rfl, bI_0 (by rw [isO_nat ha]; simp; omega), ht⟩) t_nil dX1_isObject_29
      · refine lv_aload_n hx hb dX1_isObject_13 rfl (lv_at hl 0 rfl) ?_
        refine va_get (D := D) (ci := 1) (v := .ref (ad 10)) (C := RX1) (T := TX1) (N := 15) hx hb hts in_X1_isObject_X1 hown hK hP 0 rfl rfl 8 (by decide) (hts (.fieldLink RX1 54 "OffsetHeap" "starts" "LOffsetHeap$BitRow;") (by decide +kernel)) (fun _ h9 => h9) rfl dX1_isObject_14 ?_
        refine lv_iload_n hx hb dX1_isObject_17 rfl (lv_at hl 1 rfl) ?_
        refine xk_roV (As := [.int (nI a)]) (rest := []) ⟨hx, hb, hml, hown, hts⟩ (c_has l D cL (ad 10) (ad 11) (n / 64 + 1) stw (by omega) a (by omega) (by omega)) (cwV 1 hts gX1_isObject_X0_has rfl rfl rfl (by decide +kernel) ⟨Nat.le_of_ble_eq_true rfl, Nat.le_of_ble_eq_true rfl⟩) (va_recv hK hP (ci := 0) (q0 := 10) rfl rfl) (hP.sub [10, 11] rfl) (hK.sub [1] rfl) rfl hl.1 rfl (Nat.le_of_ble_eq_true rfl) dX1_isObject_18 ⟨Nat.zero_le _, Nat.zero_le _⟩ ?_
        refine xk_if_eqB (tgt := 28) hx hb dX1_isObject_21 (by decide) (fun c21 => ?_) (fun c21 => ?_)
        · refine lv_iconst (v := nI 0) hx hb dX1_isObject_28 (by decide +kernel) ?_
          exact W.zret hx hb hr rfl (fun t ht hW => ⟨_, rfl, bI_0 (by rw [isO_nat ha]; simp [c21]), ht⟩) t_nil dX1_isObject_29
        · refine lv_iconst (v := nI 1) hx hb dX1_isObject_24 (by decide +kernel) ?_
          refine lv_goto (tgt := 29) hx hb dX1_isObject_25 (by decide) ?_
          exact W.zret hx hb hr rfl (fun t ht hW => ⟨_, rfl, bI_1 (by rw [isO_nat ha]; simp [c21]; omega), ht⟩) t_nil dX1_isObject_29
set_option maxHeartbeats 4000000 in
set_option maxRecDepth 100000 in
/-- isObjectOrNone -/
theorem c_isObjectOrNone (l : Launch) (D : va_G) (cI cL : ClassId) (h0 : Nat) (ad : Nat → Nat) (n B nb tp ob co rd : Nat) (rts offs fnd mem frs : Nat → Int32) (btw snw stw : Nat → Int64) (x : Int32) (hn : n ≤ 4000) (htp : tp ≤ n + 1) : Met l yX1_isObjectOrNone wsX1_isObjectOrNone ({ frames := 2, cells := 0, slots := 0, locals := 60 }) (va_Pc [.ref h0, .int x] (fun U => va_P D vwCl (cW cI cL h0 ad n B nb tp ob co rd rts offs fnd mem frs btw snw stw) U.heap ∧ va_K D vwCl [(cI, .int), (cL, .long)] U)) (vp_Si (fun r9 => r9 = bI (isL tp (bo stw) x))) 0 0 (fun _ => False) := by
  refine Met.ofW (cc := cX1_isObjectOrNone) (maxL := 2) (ret := (some .boolean)) (by decide) rfl ?_
  intro p e s m args below meth c s₁ B9 hml hv
  obtain ⟨rfl, hP, hK⟩ := hv
  have hx := B9.exec
  have hb := B9.bytes
  have hr := B9.returns
  have hts := atoms_spec (ws := wsX1_isObjectOrNone) B9.pre
  have hown : s.vm.findClass RX1 = some m.cls := findClass_of_methodNamed B9.named
  have hlocks := B9.notSynchronized
  have hl := lv_entry ([.ref h0, .int x]) (n := 2) (Nat.le_of_ble_eq_true rfl)
  rw [lg_entry_eq]
  generalize (lg_sl ([.ref h0, .int x]) ++ List.replicate (2 - (lg_sl ([.ref h0, .int x])).length) Slot.unset).toArray = ls at hl ⊢
  have hl : lv_has ls 2 [(0, .ref h0), (1, .int x)] := hl
  refine lv_iload_n hx hb dX1_isObjectOrNone_0 rfl (lv_at hl 1 rfl) ?_
  refine lv_if_eq (tgt := 12) hx hb dX1_isObjectOrNone_1 (by decide) (fun c1 => ?_) (fun c1 => ?_)
  · refine lv_iconst (v := nI 1) hx hb dX1_isObjectOrNone_12 (by decide +kernel) ?_
    refine lv_goto (tgt := 17) hx hb dX1_isObjectOrNone_13 (by decide) ?_
    exact W.zret hx hb hr rfl (fun t ht hW => ⟨_, rfl, bI_1 (by rw [c1]; exact isL_0), ht⟩) t_nil dX1_isObjectOrNone_17
  · refine lv_aload_n hx hb dX1_isObjectOrNone_4 rfl (lv_at hl 0 rfl) ?_
    refine lv_iload_n hx hb dX1_isObjectOrNone_5 rfl (lv_at hl 1 rfl) ?_
    refine xk_roV (As := [.int x]) (rest := []) ⟨hx, hb, hml, hown, hts⟩ (c_isObject l D cI cL h0 ad n B nb tp ob co rd rts offs fnd mem frs btw snw stw x hn htp) (cwV 1 hts gX1_isObjectOrNone_X1_isObject rfl rfl rfl (by decide +kernel) ⟨Nat.le_of_ble_eq_true rfl, Nat.le_of_ble_eq_true rfl⟩) (va_recv hK hP (ci := 1) (q0 := 0) rfl rfl) hP hK rfl hl.1 rfl (Nat.le_of_ble_eq_true rfl) dX1_isObjectOrNone_6 ⟨Nat.zero_le _, Nat.zero_le _⟩ ?_
    refine xk_if_eqB (tgt := 16) hx hb dX1_isObjectOrNone_9 (by decide) (fun c9 => ?_) (fun c9 => ?_)
    · refine lv_iconst (v := nI 0) hx hb dX1_isObjectOrNone_16 (by decide +kernel) ?_
      exact W.zret hx hb hr rfl (fun t ht hW => ⟨_, rfl, bI_0 (by rw [isL_O c1]; exact c9), ht⟩) t_nil dX1_isObjectOrNone_17
    · refine lv_iconst (v := nI 1) hx hb dX1_isObjectOrNone_12 (by decide +kernel) ?_
      refine lv_goto (tgt := 17) hx hb dX1_isObjectOrNone_13 (by decide) ?_
      exact W.zret hx hb hr rfl (fun t ht hW => ⟨_, rfl, bI_1 (by rw [isL_O c1]; exact c9), ht⟩) t_nil dX1_isObjectOrNone_17
set_option maxHeartbeats 4000000 in
set_option maxRecDepth 100000 in
/-- word -/
theorem c_word (l : Launch) (D : va_G) (cI cL : ClassId) (h0 : Nat) (ad : Nat → Nat) (n B nb tp ob co rd : Nat) (rts offs fnd mem frs : Nat → Int32) (btw snw stw : Nat → Int64) (x : Int32) (hn : n ≤ 4000) : Met l yX1_word wsX1_word ({ frames := 1, cells := 0, slots := 0, locals := 30 }) (va_Pc [.ref h0, .int x] (fun U => va_P D vwCl (cW cI cL h0 ad n B nb tp ob co rd rts offs fnd mem frs btw snw stw) U.heap ∧ va_K D vwCl [(cI, .int), (cL, .long)] U)) (vp_Si (fun r9 => r9 = atR (n + 1) mem x)) 0 0 (fun _ => False) := by
  refine Met.ofW (cc := cX1_word) (maxL := 2) (ret := (some .int)) (by decide) rfl ?_
  intro p e s m args below meth c s₁ B9 hml hv
  obtain ⟨rfl, hP, hK⟩ := hv
  have hx := B9.exec
  have hb := B9.bytes
  have hr := B9.returns
  have hts := atoms_spec (ws := wsX1_word) B9.pre
  have hown : s.vm.findClass RX1 = some m.cls := findClass_of_methodNamed B9.named
  have hlocks := B9.notSynchronized
  have hl := lv_entry ([.ref h0, .int x]) (n := 2) (Nat.le_of_ble_eq_true rfl)
  rw [lg_entry_eq]
  generalize (lg_sl ([.ref h0, .int x]) ++ List.replicate (2 - (lg_sl ([.ref h0, .int x])).length) Slot.unset).toArray = ls at hl ⊢
  have hl : lv_has ls 2 [(0, .ref h0), (1, .int x)] := hl
  rcases xk_sgn x with hneg | ⟨a, ha, rfl⟩
  · refine lv_aload_n hx hb dX1_word_0 rfl (lv_at hl 0 rfl) ?_
    refine lv_iload_n hx hb dX1_word_1 rfl (lv_at hl 1 rfl) ?_
    refine xk_roV (As := [.int x]) (rest := []) ⟨hx, hb, hml, hown, hts⟩ (c_isWord l D cI cL h0 ad n B nb tp ob co rd rts offs fnd mem frs btw snw stw x hn) (cwV 1 hts gX1_word_X1_isWord rfl rfl rfl (by decide +kernel) ⟨Nat.le_of_ble_eq_true rfl, Nat.le_of_ble_eq_true rfl⟩) (va_recv hK hP (ci := 1) (q0 := 0) rfl rfl) hP hK rfl hl.1 rfl (Nat.le_of_ble_eq_true rfl) dX1_word_2 ⟨Nat.zero_le _, Nat.zero_le _⟩ ?_
    refine xk_if_eqB (tgt := 17) hx hb dX1_word_5 (by decide) (fun c5 => ?_) (fun c5 => absurd c5 (by rw [inR_neg hneg]; decide))
    refine lv_iconst (v := (-1)) hx hb dX1_word_17 (by decide +kernel) ?_
    exact W.iret hx hb hr (fun t ht hW => ⟨_, rfl, (atR_neg hneg).symm, ht⟩) t_nil dX1_word_18
  · refine lv_aload_n hx hb dX1_word_0 rfl (lv_at hl 0 rfl) ?_
    refine lv_iload_n hx hb dX1_word_1 rfl (lv_at hl 1 rfl) ?_
    refine xk_roV (As := [.int (nI a)]) (rest := []) ⟨hx, hb, hml, hown, hts⟩ (c_isWord l D cI cL h0 ad n B nb tp ob co rd rts offs fnd mem frs btw snw stw (nI a) hn) (cwV 1 hts gX1_word_X1_isWord rfl rfl rfl (by decide +kernel) ⟨Nat.le_of_ble_eq_true rfl, Nat.le_of_ble_eq_true rfl⟩) (va_recv hK hP (ci := 1) (q0 := 0) rfl rfl) hP hK rfl hl.1 rfl (Nat.le_of_ble_eq_true rfl) dX1_word_2 ⟨Nat.zero_le _, Nat.zero_le _⟩ ?_
    refine xk_if_eqB (tgt := 17) hx hb dX1_word_5 (by decide) (fun c5 => ?_) (fun c5 => ?_)
    · rw [inR_nat ha] at c5; simp at c5
      refine lv_iconst (v := (-1)) hx hb dX1_word_17 (by decide +kernel) ?_
      exact W.iret hx hb hr (fun t ht hW => ⟨_, rfl, (atR_out ha (by omega)).symm, ht⟩) t_nil dX1_word_18
    · rw [inR_nat ha] at c5; simp at c5
      refine lv_aload_n hx hb dX1_word_8 rfl (lv_at hl 0 rfl) ?_
      refine va_get (D := D) (ci := 1) (v := .ref (ad 8)) (C := RX1) (T := TX1) (N := 15) hx hb hts in_X1_word_X1 hown hK hP 0 rfl rfl 9 (by decide) (hts (.fieldLink RX1 57 "OffsetHeap" "space" "[I") (by decide +kernel)) (fun _ h9 => h9) rfl dX1_word_9 ?_
      refine lv_iload_n hx hb dX1_word_12 rfl (lv_at hl 1 rfl) ?_
      refine xk_iald hx hb hK hP 8 0 rfl rfl (by omega) (by omega) dX1_word_13 ?_
      refine lv_goto (tgt := 18) hx hb dX1_word_14 (by decide) ?_
      exact W.iret hx hb hr (fun t ht hW => ⟨_, rfl, (atR_in ha (by omega)).symm, ht⟩) t_nil dX1_word_18
set_option maxHeartbeats 4000000 in
set_option maxRecDepth 100000 in
/-- rootOf -/
theorem c_rootOf (l : Launch) (D : va_G) (cI cL : ClassId) (h0 : Nat) (ad : Nat → Nat) (n B nb tp ob co rd : Nat) (rts offs fnd mem frs : Nat → Int32) (btw snw stw : Nat → Int64) (x : Int32) : Met l yX1_rootOf wsX1_rootOf ({ frames := 1, cells := 0, slots := 0, locals := 30 }) (va_Pc [.ref h0, .int x] (fun U => va_P D vwCl (cW cI cL h0 ad n B nb tp ob co rd rts offs fnd mem frs btw snw stw) U.heap ∧ va_K D vwCl [(cI, .int), (cL, .long)] U)) (vp_Si (fun r9 => r9 = atR 8 rts x)) 0 0 (fun _ => False) := by
  refine Met.ofW (cc := cX1_rootOf) (maxL := 2) (ret := (some .int)) (by decide) rfl ?_
  intro p e s m args below meth c s₁ B9 hml hv
  obtain ⟨rfl, hP, hK⟩ := hv
  have hx := B9.exec
  have hb := B9.bytes
  have hr := B9.returns
  have hts := atoms_spec (ws := wsX1_rootOf) B9.pre
  have hown : s.vm.findClass RX1 = some m.cls := findClass_of_methodNamed B9.named
  have hlocks := B9.notSynchronized
  have hl := lv_entry ([.ref h0, .int x]) (n := 2) (Nat.le_of_ble_eq_true rfl)
  rw [lg_entry_eq]
  generalize (lg_sl ([.ref h0, .int x]) ++ List.replicate (2 - (lg_sl ([.ref h0, .int x])).length) Slot.unset).toArray = ls at hl ⊢
  have hl : lv_has ls 2 [(0, .ref h0), (1, .int x)] := hl
  rcases xk_sgn x with hneg | ⟨a, ha, rfl⟩
  · refine lv_iload_n hx hb dX1_rootOf_0 rfl (lv_at hl 1 rfl) ?_
    refine xk_roS (As := [.int x]) (rest := []) ⟨hx, hb, hml, hown, hts⟩ (c_isRoot l x) (va_cwS 1 hts gX1_rootOf_X1_isRoot rfl rfl rfl (by decide +kernel) ⟨Nat.le_of_ble_eq_true rfl, Nat.le_of_ble_eq_true rfl⟩) rfl hl.1 rfl (Nat.le_of_ble_eq_true rfl) dX1_rootOf_1 ⟨Nat.zero_le _, Nat.zero_le _⟩ ?_
    refine xk_if_eqB (tgt := 16) hx hb dX1_rootOf_4 (by decide) (fun c4 => ?_) (fun c4 => absurd c4 (by rw [inR_neg hneg]; decide))
    refine lv_iconst (v := (-1)) hx hb dX1_rootOf_16 (by decide +kernel) ?_
    exact W.iret hx hb hr (fun t ht hW => ⟨_, rfl, (atR_neg hneg).symm, ht⟩) t_nil dX1_rootOf_17
  · refine lv_iload_n hx hb dX1_rootOf_0 rfl (lv_at hl 1 rfl) ?_
    refine xk_roS (As := [.int (nI a)]) (rest := []) ⟨hx, hb, hml, hown, hts⟩ (c_isRoot l (nI a)) (va_cwS 1 hts gX1_rootOf_X1_isRoot rfl rfl rfl (by decide +kernel) ⟨Nat.le_of_ble_eq_true rfl, Nat.le_of_ble_eq_true rfl⟩) rfl hl.1 rfl (Nat.le_of_ble_eq_true rfl) dX1_rootOf_1 ⟨Nat.zero_le _, Nat.zero_le _⟩ ?_
    refine xk_if_eqB (tgt := 16) hx hb dX1_rootOf_4 (by decide) (fun c4 => ?_) (fun c4 => ?_)
    · rw [inR_nat ha] at c4; simp at c4
      refine lv_iconst (v := (-1)) hx hb dX1_rootOf_16 (by decide +kernel) ?_
      exact W.iret hx hb hr (fun t ht hW => ⟨_, rfl, (atR_out ha (by omega)).symm, ht⟩) t_nil dX1_rootOf_17
    · rw [inR_nat ha] at c4; simp at c4
      refine lv_aload_n hx hb dX1_rootOf_7 rfl (lv_at hl 0 rfl) ?_
      refine va_get (D := D) (ci := 1) (v := .ref (ad 1)) (C := RX1) (T := TX1) (N := 15) hx hb hts in_X1_rootOf_X1 hown hK hP 0 rfl rfl 3 (by decide) (hts (.fieldLink RX1 32 "OffsetHeap" "roots" "[I") (by decide +kernel)) (fun _ h9 => h9) rfl dX1_rootOf_8 ?_
      refine lv_iload_n hx hb dX1_rootOf_11 rfl (lv_at hl 1 rfl) ?_
      refine xk_iald hx hb hK hP 1 0 rfl rfl (by omega) (by omega) dX1_rootOf_12 ?_
      refine lv_goto (tgt := 17) hx hb dX1_rootOf_13 (by decide) ?_
      exact W.iret hx hb hr (fun t ht hW => ⟨_, rfl, (atR_in ha (by omega)).symm, ht⟩) t_nil dX1_rootOf_17
set_option maxHeartbeats 4000000 in
set_option maxRecDepth 100000 in
/-- bit -/
theorem c_bit (l : Launch) (D : va_G) (cI cL : ClassId) (h0 : Nat) (ad : Nat → Nat) (n B nb tp ob co rd : Nat) (rts offs fnd mem frs : Nat → Int32) (btw snw stw : Nat → Int64) (x : Int32) (hn : n ≤ 4000) : Met l yX1_bit wsX1_bit ({ frames := 1, cells := 0, slots := 0, locals := 30 }) (va_Pc [.ref h0, .int x] (fun U => va_P D vwCl (cW cI cL h0 ad n B nb tp ob co rd rts offs fnd mem frs btw snw stw) U.heap ∧ va_K D vwCl [(cI, .int), (cL, .long)] U)) (vp_Si (fun r9 => r9 = atR (n + 1) (fun a => bI (bo btw a)) x)) 0 0 (fun _ => False) := by
  refine Met.ofW (cc := cX1_bit) (maxL := 2) (ret := (some .int)) (by decide) rfl ?_
  intro p e s m args below meth c s₁ B9 hml hv
  obtain ⟨rfl, hP, hK⟩ := hv
  have hx := B9.exec
  have hb := B9.bytes
  have hr := B9.returns
  have hts := atoms_spec (ws := wsX1_bit) B9.pre
  have hown : s.vm.findClass RX1 = some m.cls := findClass_of_methodNamed B9.named
  have hlocks := B9.notSynchronized
  have hl := lv_entry ([.ref h0, .int x]) (n := 2) (Nat.le_of_ble_eq_true rfl)
  rw [lg_entry_eq]
  generalize (lg_sl ([.ref h0, .int x]) ++ List.replicate (2 - (lg_sl ([.ref h0, .int x])).length) Slot.unset).toArray = ls at hl ⊢
  have hl : lv_has ls 2 [(0, .ref h0), (1, .int x)] := hl
  rcases xk_sgn x with hneg | ⟨a, ha, rfl⟩
  · refine lv_aload_n hx hb dX1_bit_0 rfl (lv_at hl 0 rfl) ?_
    refine lv_iload_n hx hb dX1_bit_1 rfl (lv_at hl 1 rfl) ?_
    refine xk_roV (As := [.int x]) (rest := []) ⟨hx, hb, hml, hown, hts⟩ (c_isWord l D cI cL h0 ad n B nb tp ob co rd rts offs fnd mem frs btw snw stw x hn) (cwV 1 hts gX1_bit_X1_isWord rfl rfl rfl (by decide +kernel) ⟨Nat.le_of_ble_eq_true rfl, Nat.le_of_ble_eq_true rfl⟩) (va_recv hK hP (ci := 1) (q0 := 0) rfl rfl) hP hK rfl hl.1 rfl (Nat.le_of_ble_eq_true rfl) dX1_bit_2 ⟨Nat.zero_le _, Nat.zero_le _⟩ ?_
    refine xk_if_neB (tgt := 10) hx hb dX1_bit_5 (by decide) (fun c5 => absurd c5 (by rw [inR_neg hneg]; decide)) (fun c5 => ?_)
    refine lv_iconst (v := (-1)) hx hb dX1_bit_8 (by decide +kernel) ?_
    exact W.iret hx hb hr (fun t ht hW => ⟨_, rfl, (atR_neg hneg).symm, ht⟩) t_nil dX1_bit_9
  · refine lv_aload_n hx hb dX1_bit_0 rfl (lv_at hl 0 rfl) ?_
    refine lv_iload_n hx hb dX1_bit_1 rfl (lv_at hl 1 rfl) ?_
    refine xk_roV (As := [.int (nI a)]) (rest := []) ⟨hx, hb, hml, hown, hts⟩ (c_isWord l D cI cL h0 ad n B nb tp ob co rd rts offs fnd mem frs btw snw stw (nI a) hn) (cwV 1 hts gX1_bit_X1_isWord rfl rfl rfl (by decide +kernel) ⟨Nat.le_of_ble_eq_true rfl, Nat.le_of_ble_eq_true rfl⟩) (va_recv hK hP (ci := 1) (q0 := 0) rfl rfl) hP hK rfl hl.1 rfl (Nat.le_of_ble_eq_true rfl) dX1_bit_2 ⟨Nat.zero_le _, Nat.zero_le _⟩ ?_
    refine xk_if_neB (tgt := 10) hx hb dX1_bit_5 (by decide) (fun c5 => ?_) (fun c5 => ?_)
    · rw [inR_nat ha] at c5; simp at c5
      refine lv_aload_n hx hb dX1_bit_10 rfl (lv_at hl 0 rfl) ?_
      refine va_get (D := D) (ci := 1) (v := .ref (ad 2)) (C := RX1) (T := TX1) (N := 15) hx hb hts in_X1_bit_X1 hown hK hP 0 rfl rfl 4 (by decide) (hts (.fieldLink RX1 41 "OffsetHeap" "bits" "LOffsetHeap$BitRow;") (by decide +kernel)) (fun _ h9 => h9) rfl dX1_bit_11 ?_
      refine lv_iload_n hx hb dX1_bit_14 rfl (lv_at hl 1 rfl) ?_
      refine xk_roV (As := [.int (nI a)]) (rest := []) ⟨hx, hb, hml, hown, hts⟩ (c_has l D cL (ad 2) (ad 3) (n / 64 + 1) btw (by omega) a (by omega) (by omega)) (cwV 1 hts gX1_bit_X0_has rfl rfl rfl (by decide +kernel) ⟨Nat.le_of_ble_eq_true rfl, Nat.le_of_ble_eq_true rfl⟩) (va_recv hK hP (ci := 0) (q0 := 2) rfl rfl) (hP.sub [2, 3] rfl) (hK.sub [1] rfl) rfl hl.1 rfl (Nat.le_of_ble_eq_true rfl) dX1_bit_15 ⟨Nat.zero_le _, Nat.zero_le _⟩ ?_
      refine xk_if_eqB (tgt := 25) hx hb dX1_bit_18 (by decide) (fun c18 => ?_) (fun c18 => ?_)
      · refine lv_iconst (v := nI 0) hx hb dX1_bit_25 (by decide +kernel) ?_
        exact W.iret hx hb hr (fun t ht hW => ⟨_, rfl, by rw [atR_in ha (by omega)]; exact bI_0 c18, ht⟩) t_nil dX1_bit_26
      · refine lv_iconst (v := nI 1) hx hb dX1_bit_21 (by decide +kernel) ?_
        refine lv_goto (tgt := 26) hx hb dX1_bit_22 (by decide) ?_
        exact W.iret hx hb hr (fun t ht hW => ⟨_, rfl, by rw [atR_in ha (by omega)]; exact bI_1 c18, ht⟩) t_nil dX1_bit_26
    · rw [inR_nat ha] at c5; simp at c5
      refine lv_iconst (v := (-1)) hx hb dX1_bit_8 (by decide +kernel) ?_
      exact W.iret hx hb hr (fun t ht hW => ⟨_, rfl, (atR_out ha (by omega)).symm, ht⟩) t_nil dX1_bit_9
set_option maxHeartbeats 4000000 in
set_option maxRecDepth 100000 in
/-- offset -/
theorem c_offset (l : Launch) (D : va_G) (cI cL : ClassId) (h0 : Nat) (ad : Nat → Nat) (n B nb tp ob co rd : Nat) (rts offs fnd mem frs : Nat → Int32) (btw snw stw : Nat → Int64) (x : Int32) (hnb : nb ≤ 4001) : Met l yX1_offset wsX1_offset ({ frames := 0, cells := 0, slots := 0, locals := 0 }) (va_Pc [.ref h0, .int x] (fun U => va_P D vwCl (cW cI cL h0 ad n B nb tp ob co rd rts offs fnd mem frs btw snw stw) U.heap ∧ va_K D vwCl [(cI, .int), (cL, .long)] U)) (vp_Si (fun r9 => r9 = atR nb offs x)) 0 0 (fun _ => False) := by
  refine Met.ofW (cc := cX1_offset) (maxL := 2) (ret := (some .int)) (by decide) rfl ?_
  intro p e s m args below meth c s₁ B9 hml hv
  obtain ⟨rfl, hP, hK⟩ := hv
  have hx := B9.exec
  have hb := B9.bytes
  have hr := B9.returns
  have hts := atoms_spec (ws := wsX1_offset) B9.pre
  have hown : s.vm.findClass RX1 = some m.cls := findClass_of_methodNamed B9.named
  have hlocks := B9.notSynchronized
  have hl := lv_entry ([.ref h0, .int x]) (n := 2) (Nat.le_of_ble_eq_true rfl)
  rw [lg_entry_eq]
  generalize (lg_sl ([.ref h0, .int x]) ++ List.replicate (2 - (lg_sl ([.ref h0, .int x])).length) Slot.unset).toArray = ls at hl ⊢
  have hl : lv_has ls 2 [(0, .ref h0), (1, .int x)] := hl
  rcases xk_sgn x with hneg | ⟨a, ha, rfl⟩
  · refine lv_iload_n hx hb dX1_offset_0 rfl (lv_at hl 1 rfl) ?_
    refine lv_if_lt (tgt := 21) hx hb dX1_offset_1 (by decide) (fun c1 => ?_) (fun c1 => absurd hneg c1)
    refine lv_iconst (v := (-1)) hx hb dX1_offset_21 (by decide +kernel) ?_
    exact W.iret hx hb hr (fun t ht hW => ⟨_, rfl, (atR_neg hneg).symm, ht⟩) t_nil dX1_offset_22
  · refine lv_iload_n hx hb dX1_offset_0 rfl (lv_at hl 1 rfl) ?_
    refine xk_if_lt (tgt := 21) hx hb (by omega) dX1_offset_1 (by decide) ?_
    refine lv_iload_n hx hb dX1_offset_4 rfl (lv_at hl 1 rfl) ?_
    refine lv_aload_n hx hb dX1_offset_5 rfl (lv_at hl 0 rfl) ?_
    refine va_get (D := D) (ci := 1) (v := .int (nI nb)) (C := RX1) (T := TX1) (N := 15) hx hb hts in_X1_offset_X1 hown hK hP 0 rfl rfl 2 (by decide) (hts (.fieldLink RX1 29 "OffsetHeap" "blocks" "I") (by decide +kernel)) (fun _ h9 => h9) rfl dX1_offset_6 ?_
    refine xk_icmp_ge (tgt := 21) hx hb (by omega) (by omega) dX1_offset_9 (by decide) (fun c9 => ?_) (fun c9 => ?_)
    · refine lv_iconst (v := (-1)) hx hb dX1_offset_21 (by decide +kernel) ?_
      exact W.iret hx hb hr (fun t ht hW => ⟨_, rfl, (atR_out ha (by omega)).symm, ht⟩) t_nil dX1_offset_22
    · refine lv_aload_n hx hb dX1_offset_12 rfl (lv_at hl 0 rfl) ?_
      refine va_get (D := D) (ci := 1) (v := .ref (ad 4)) (C := RX1) (T := TX1) (N := 15) hx hb hts in_X1_offset_X1 hown hK hP 0 rfl rfl 5 (by decide) (hts (.fieldLink RX1 45 "OffsetHeap" "offsets" "[I") (by decide +kernel)) (fun _ h9 => h9) rfl dX1_offset_13 ?_
      refine lv_iload_n hx hb dX1_offset_16 rfl (lv_at hl 1 rfl) ?_
      refine xk_iald hx hb hK hP 4 0 rfl rfl (by omega) (by omega) dX1_offset_17 ?_
      refine lv_goto (tgt := 22) hx hb dX1_offset_18 (by decide) ?_
      exact W.iret hx hb hr (fun t ht hW => ⟨_, rfl, (atR_in ha (by omega)).symm, ht⟩) t_nil dX1_offset_22
set_option maxHeartbeats 4000000 in
set_option maxRecDepth 100000 in
/-- reads -/
theorem c_reads (l : Launch) (D : va_G) (cI cL : ClassId) (h0 : Nat) (ad : Nat → Nat) (n B nb tp ob co rd : Nat) (rts offs fnd mem frs : Nat → Int32) (btw snw stw : Nat → Int64) : Met l yX1_reads wsX1_reads ({ frames := 0, cells := 0, slots := 0, locals := 0 }) (va_Pc [.ref h0] (fun U => va_P D vwCl (cW cI cL h0 ad n B nb tp ob co rd rts offs fnd mem frs btw snw stw) U.heap ∧ va_K D vwCl [(cI, .int), (cL, .long)] U)) (vp_Si (fun r9 => r9 = nI rd)) 0 0 (fun _ => False) := by
  refine Met.ofW (cc := cX1_reads) (maxL := 1) (ret := (some .int)) (by decide) rfl ?_
  intro p e s m args below meth c s₁ B9 hml hv
  obtain ⟨rfl, hP, hK⟩ := hv
  have hx := B9.exec
  have hb := B9.bytes
  have hr := B9.returns
  have hts := atoms_spec (ws := wsX1_reads) B9.pre
  have hown : s.vm.findClass RX1 = some m.cls := findClass_of_methodNamed B9.named
  have hlocks := B9.notSynchronized
  have hl := lv_entry ([.ref h0]) (n := 1) (Nat.le_of_ble_eq_true rfl)
  rw [lg_entry_eq]
  generalize (lg_sl ([.ref h0]) ++ List.replicate (1 - (lg_sl ([.ref h0])).length) Slot.unset).toArray = ls at hl ⊢
  have hl : lv_has ls 1 [(0, .ref h0)] := hl
  refine lv_aload_n hx hb dX1_reads_0 rfl (lv_at hl 0 rfl) ?_
  refine va_get (D := D) (ci := 1) (v := .int (nI rd)) (C := RX1) (T := TX1) (N := 15) hx hb hts in_X1_reads_X1 hown hK hP 0 rfl rfl 14 (by decide) (hts (.fieldLink RX1 122 "OffsetHeap" "wordsRead" "I") (by decide +kernel)) (fun _ h9 => h9) rfl dX1_reads_1 ?_
  exact W.iret hx hb hr (fun t ht hW => ⟨_, rfl, rfl, ht⟩) t_nil dX1_reads_4
set_option maxHeartbeats 4000000 in
set_option maxRecDepth 100000 in
/-- newAddress: 1 and the bits before -/
theorem c_newAddress (l : Launch) (D : va_G) (cI cL : ClassId) (h0 : Nat) (ad : Nat → Nat) (n B nb tp ob co rd : Nat) (rts offs fnd mem frs : Nat → Int32) (btw snw stw : Nat → Int64) (i : Nat) (hn : n ≤ 4000) (hB : okB B) (hnb : nb = n / B + 1) (hof : offOk B nb offs (bo btw)) (hi : i ≤ n) : Met l yX1_newAddress wsX1_newAddress ({ frames := 2, cells := 0, slots := 0, locals := 60 }) (va_Pc [.ref h0, .int (nI i)] (fun U => va_P D vwCl (cW cI cL h0 ad n B nb tp ob co rd rts offs fnd mem frs btw snw stw) U.heap ∧ va_K D vwCl [(cI, .int), (cL, .long)] U)) (vp_Si (fun r9 => r9 = nI (1 + cn (bo btw) i))) 0 0 (fun _ => False) := by
  refine Met.ofW (cc := cX1_newAddress) (maxL := 3) (ret := (some .int)) (by decide) rfl ?_
  intro p e s m args below meth c s₁ B9 hml hv
  obtain ⟨rfl, hP, hK⟩ := hv
  have hx := B9.exec
  have hb := B9.bytes
  have hr := B9.returns
  have hts := atoms_spec (ws := wsX1_newAddress) B9.pre
  have hown : s.vm.findClass RX1 = some m.cls := findClass_of_methodNamed B9.named
  have hlocks := B9.notSynchronized
  have hl := lv_entry ([.ref h0, .int (nI i)]) (n := 3) (Nat.le_of_ble_eq_true rfl)
  rw [lg_entry_eq]
  generalize (lg_sl ([.ref h0, .int (nI i)]) ++ List.replicate (3 - (lg_sl ([.ref h0, .int (nI i)])).length) Slot.unset).toArray = ls at hl ⊢
  have hl : lv_has ls 3 [(0, .ref h0), (1, .int (nI i))] := hl
  obtain ⟨b1, b2, b3, b4, b5⟩ := okB_div (i := i) hB
  have b6 : i / B ≤ n / B := Nat.div_le_div_right hi
  have b7 := cn_mono (bo btw) b1
  have b8 := cn_le (bo btw) i
  have b9 : n / B ≤ n := Nat.div_le_self _ _
  have b10 : i / B ≤ i := Nat.div_le_self _ _
  refine lv_iload_n hx hb dX1_newAddress_0 rfl (lv_at hl 1 rfl) ?_
  refine lv_aload_n hx hb dX1_newAddress_1 rfl (lv_at hl 0 rfl) ?_
  refine va_get (D := D) (ci := 1) (v := .int (nI B)) (C := RX1) (T := TX1) (N := 15) hx hb hts in_X1_newAddress_X1 hown hK hP 0 rfl rfl 1 (by decide) (hts (.fieldLink RX1 26 "OffsetHeap" "blockWords" "I") (by decide +kernel)) (fun _ h9 => h9) rfl dX1_newAddress_2 ?_
  refine lv_idiv hx hb dX1_newAddress_5 (nI_ne0 (by omega) (by omega)) ?_
  refine xk_top (pk_div (by omega) (by omega) (by omega)) ?_
  refine lv_istore_n (lv' := [(2, .int (nI (i / B))), (0, .ref h0), (1, .int (nI i))]) hx hb dX1_newAddress_6 rfl hl (by decide) rfl (fun ls hl => ?_)
  refine lv_iconst (v := nI 1) hx hb dX1_newAddress_7 (by decide +kernel) ?_
  refine lv_aload_n hx hb dX1_newAddress_8 rfl (lv_at hl 1 rfl) ?_
  refine va_get (D := D) (ci := 1) (v := .ref (ad 4)) (C := RX1) (T := TX1) (N := 15) hx hb hts in_X1_newAddress_X1 hown hK hP 0 rfl rfl 5 (by decide) (hts (.fieldLink RX1 45 "OffsetHeap" "offsets" "[I") (by decide +kernel)) (fun _ h9 => h9) rfl dX1_newAddress_9 ?_
  refine lv_iload_n hx hb dX1_newAddress_12 rfl (lv_at hl 0 rfl) ?_
  refine xk_iald hx hb hK hP 4 0 rfl rfl (by omega) (by omega) dX1_newAddress_13 ?_
  refine xk_top (hof (i / B) (by omega)) ?_
  refine lv_iadd hx hb dX1_newAddress_14 ?_
  refine xk_top (nI_add _ _) ?_
  refine lv_aload_n hx hb dX1_newAddress_15 rfl (lv_at hl 1 rfl) ?_
  refine va_get (D := D) (ci := 1) (v := .ref (ad 2)) (C := RX1) (T := TX1) (N := 15) hx hb hts in_X1_newAddress_X1 hown hK hP 0 rfl rfl 4 (by decide) (hts (.fieldLink RX1 41 "OffsetHeap" "bits" "LOffsetHeap$BitRow;") (by decide +kernel)) (fun _ h9 => h9) rfl dX1_newAddress_16 ?_
  refine lv_iload_n hx hb dX1_newAddress_19 rfl (lv_at hl 0 rfl) ?_
  refine lv_aload_n hx hb dX1_newAddress_20 rfl (lv_at hl 1 rfl) ?_
  refine va_get (D := D) (ci := 1) (v := .int (nI B)) (C := RX1) (T := TX1) (N := 15) hx hb hts in_X1_newAddress_X1 hown hK hP 0 rfl rfl 1 (by decide) (hts (.fieldLink RX1 26 "OffsetHeap" "blockWords" "I") (by decide +kernel)) (fun _ h9 => h9) rfl dX1_newAddress_21 ?_
  refine lv_imul hx hb dX1_newAddress_24 ?_
  refine xk_top (pk_mul _ _) ?_
  refine lv_iload_n hx hb dX1_newAddress_25 rfl (lv_at hl 2 rfl) ?_
  refine xk_roV (As := [.int (nI ((i / B) * B)), .int (nI i)]) (rest := [.int (nI (1 + (cn (bo btw) (i / B * B))))]) ⟨hx, hb, hml, hown, hts⟩ (c_between l D cL (ad 2) (ad 3) (n / 64 + 1) btw (by omega) ((i / B) * B) i (by omega) (by omega) (by omega) (by omega)) (cwV 2 hts gX1_newAddress_X0_between rfl rfl rfl (by decide +kernel) ⟨Nat.le_of_ble_eq_true rfl, Nat.le_of_ble_eq_true rfl⟩) (va_recv hK hP (ci := 0) (q0 := 2) rfl rfl) (hP.sub [2, 3] rfl) (hK.sub [1] rfl) rfl hl.1 rfl (Nat.le_of_ble_eq_true rfl) dX1_newAddress_26 ⟨Nat.zero_le _, Nat.zero_le _⟩ ?_
  refine lv_iadd hx hb dX1_newAddress_29 ?_
  refine xk_top (nI_add _ _) ?_
  exact W.iret hx hb hr (fun t ht hW => ⟨_, rfl, by congr 1; omega, ht⟩) t_nil dX1_newAddress_30
set_option maxHeartbeats 4000000 in
set_option maxRecDepth 100000 in
/-- newAddressOrNone -/
theorem c_newAddressOrNone (l : Launch) (D : va_G) (cI cL : ClassId) (h0 : Nat) (ad : Nat → Nat) (n B nb tp ob co rd : Nat) (rts offs fnd mem frs : Nat → Int32) (btw snw stw : Nat → Int64) (i : Nat) (hn : n ≤ 4000) (hB : okB B) (hnb : nb = n / B + 1) (hof : offOk B nb offs (bo btw)) (hi : i ≤ n) : Met l yX1_newAddressOrNone wsX1_newAddressOrNone ({ frames := 3, cells := 0, slots := 0, locals := 90 }) (va_Pc [.ref h0, .int (nI i)] (fun U => va_P D vwCl (cW cI cL h0 ad n B nb tp ob co rd rts offs fnd mem frs btw snw stw) U.heap ∧ va_K D vwCl [(cI, .int), (cL, .long)] U)) (vp_Si (fun r9 => r9 = nI (if i = 0 then 0 else 1 + cn (bo btw) i))) 0 0 (fun _ => False) := by
  refine Met.ofW (cc := cX1_newAddressOrNone) (maxL := 2) (ret := (some .int)) (by decide) rfl ?_
  intro p e s m args below meth c s₁ B9 hml hv
  obtain ⟨rfl, hP, hK⟩ := hv
  have hx := B9.exec
  have hb := B9.bytes
  have hr := B9.returns
  have hts := atoms_spec (ws := wsX1_newAddressOrNone) B9.pre
  have hown : s.vm.findClass RX1 = some m.cls := findClass_of_methodNamed B9.named
  have hlocks := B9.notSynchronized
  have hl := lv_entry ([.ref h0, .int (nI i)]) (n := 2) (Nat.le_of_ble_eq_true rfl)
  rw [lg_entry_eq]
  generalize (lg_sl ([.ref h0, .int (nI i)]) ++ List.replicate (2 - (lg_sl ([.ref h0, .int (nI i)])).length) Slot.unset).toArray = ls at hl ⊢
  have hl : lv_has ls 2 [(0, .ref h0), (1, .int (nI i))] := hl
  refine lv_iload_n hx hb dX1_newAddressOrNone_0 rfl (lv_at hl 1 rfl) ?_
  refine xk_if_ne (tgt := 8) hx hb (by omega) dX1_newAddressOrNone_1 (by decide) (fun c1 => ?_) (fun c1 => ?_)
  · refine lv_aload_n hx hb dX1_newAddressOrNone_8 rfl (lv_at hl 0 rfl) ?_
    refine lv_iload_n hx hb dX1_newAddressOrNone_9 rfl (lv_at hl 1 rfl) ?_
    refine xk_roV (As := [.int (nI i)]) (rest := []) ⟨hx, hb, hml, hown, hts⟩ (c_newAddress l D cI cL h0 ad n B nb tp ob co rd rts offs fnd mem frs btw snw stw i hn hB hnb hof (by omega)) (cwV 1 hts gX1_newAddressOrNone_X1_newAddress rfl rfl rfl (by decide +kernel) ⟨Nat.le_of_ble_eq_true rfl, Nat.le_of_ble_eq_true rfl⟩) (va_recv hK hP (ci := 1) (q0 := 0) rfl rfl) hP hK rfl hl.1 rfl (Nat.le_of_ble_eq_true rfl) dX1_newAddressOrNone_10 ⟨Nat.zero_le _, Nat.zero_le _⟩ ?_
    exact W.iret hx hb hr (fun t ht hW => ⟨_, rfl, (by rw [if_neg (by omega)]), ht⟩) t_nil dX1_newAddressOrNone_13
  · refine lv_iconst (v := nI 0) hx hb dX1_newAddressOrNone_4 (by decide +kernel) ?_
    refine lv_goto (tgt := 13) hx hb dX1_newAddressOrNone_5 (by decide) ?_
    exact W.iret hx hb hr (fun t ht hW => ⟨_, rfl, (by rw [if_pos c1]), ht⟩) t_nil dX1_newAddressOrNone_13
set_option maxHeartbeats 4000000 in
set_option maxRecDepth 100000 in
/-- moved -/
theorem c_moved (l : Launch) (D : va_G) (cI cL : ClassId) (h0 : Nat) (ad : Nat → Nat) (n B nb tp ob co rd : Nat) (rts offs fnd mem frs : Nat → Int32) (btw snw stw : Nat → Int64) (x : Int32) (hn : n ≤ 4000) (hB : okB B) (hnb : nb = n / B + 1) (hof : offOk B nb offs (bo btw)) : Met l yX1_moved wsX1_moved ({ frames := 3, cells := 0, slots := 0, locals := 90 }) (va_Pc [.ref h0, .int x] (fun U => va_P D vwCl (cW cI cL h0 ad n B nb tp ob co rd rts offs fnd mem frs btw snw stw) U.heap ∧ va_K D vwCl [(cI, .int), (cL, .long)] U)) (vp_Si (fun r9 => r9 = atR (n + 1) (fun a => if bo btw a then nI (1 + cn (bo btw) a) else nI 0) x)) 0 0 (fun _ => False) := by
  refine Met.ofW (cc := cX1_moved) (maxL := 2) (ret := (some .int)) (by decide) rfl ?_
  intro p e s m args below meth c s₁ B9 hml hv
  obtain ⟨rfl, hP, hK⟩ := hv
  have hx := B9.exec
  have hb := B9.bytes
  have hr := B9.returns
  have hts := atoms_spec (ws := wsX1_moved) B9.pre
  have hown : s.vm.findClass RX1 = some m.cls := findClass_of_methodNamed B9.named
  have hlocks := B9.notSynchronized
  have hl := lv_entry ([.ref h0, .int x]) (n := 2) (Nat.le_of_ble_eq_true rfl)
  rw [lg_entry_eq]
  generalize (lg_sl ([.ref h0, .int x]) ++ List.replicate (2 - (lg_sl ([.ref h0, .int x])).length) Slot.unset).toArray = ls at hl ⊢
  have hl : lv_has ls 2 [(0, .ref h0), (1, .int x)] := hl
  rcases xk_sgn x with hneg | ⟨a, ha, rfl⟩
  · refine lv_aload_n hx hb dX1_moved_0 rfl (lv_at hl 0 rfl) ?_
    refine lv_iload_n hx hb dX1_moved_1 rfl (lv_at hl 1 rfl) ?_
    refine xk_roV (As := [.int x]) (rest := []) ⟨hx, hb, hml, hown, hts⟩ (c_isWord l D cI cL h0 ad n B nb tp ob co rd rts offs fnd mem frs btw snw stw x hn) (cwV 1 hts gX1_moved_X1_isWord rfl rfl rfl (by decide +kernel) ⟨Nat.le_of_ble_eq_true rfl, Nat.le_of_ble_eq_true rfl⟩) (va_recv hK hP (ci := 1) (q0 := 0) rfl rfl) hP hK rfl hl.1 rfl (Nat.le_of_ble_eq_true rfl) dX1_moved_2 ⟨Nat.zero_le _, Nat.zero_le _⟩ ?_
    refine xk_if_neB (tgt := 10) hx hb dX1_moved_5 (by decide) (fun c5 => absurd c5 (by rw [inR_neg hneg]; decide)) (fun c5 => ?_)
    refine lv_iconst (v := (-1)) hx hb dX1_moved_8 (by decide +kernel) ?_
    exact W.iret hx hb hr (fun t ht hW => ⟨_, rfl, (atR_neg hneg).symm, ht⟩) t_nil dX1_moved_9
  · refine lv_aload_n hx hb dX1_moved_0 rfl (lv_at hl 0 rfl) ?_
    refine lv_iload_n hx hb dX1_moved_1 rfl (lv_at hl 1 rfl) ?_
    refine xk_roV (As := [.int (nI a)]) (rest := []) ⟨hx, hb, hml, hown, hts⟩ (c_isWord l D cI cL h0 ad n B nb tp ob co rd rts offs fnd mem frs btw snw stw (nI a) hn) (cwV 1 hts gX1_moved_X1_isWord rfl rfl rfl (by decide +kernel) ⟨Nat.le_of_ble_eq_true rfl, Nat.le_of_ble_eq_true rfl⟩) (va_recv hK hP (ci := 1) (q0 := 0) rfl rfl) hP hK rfl hl.1 rfl (Nat.le_of_ble_eq_true rfl) dX1_moved_2 ⟨Nat.zero_le _, Nat.zero_le _⟩ ?_
    refine xk_if_neB (tgt := 10) hx hb dX1_moved_5 (by decide) (fun c5 => ?_) (fun c5 => ?_)
    · rw [inR_nat ha] at c5; simp at c5
      refine lv_aload_n hx hb dX1_moved_10 rfl (lv_at hl 0 rfl) ?_
      refine va_get (D := D) (ci := 1) (v := .ref (ad 2)) (C := RX1) (T := TX1) (N := 15) hx hb hts in_X1_moved_X1 hown hK hP 0 rfl rfl 4 (by decide) (hts (.fieldLink RX1 41 "OffsetHeap" "bits" "LOffsetHeap$BitRow;") (by decide +kernel)) (fun _ h9 => h9) rfl dX1_moved_11 ?_
      refine lv_iload_n hx hb dX1_moved_14 rfl (lv_at hl 1 rfl) ?_
      refine xk_roV (As := [.int (nI a)]) (rest := []) ⟨hx, hb, hml, hown, hts⟩ (c_has l D cL (ad 2) (ad 3) (n / 64 + 1) btw (by omega) a (by omega) (by omega)) (cwV 1 hts gX1_moved_X0_has rfl rfl rfl (by decide +kernel) ⟨Nat.le_of_ble_eq_true rfl, Nat.le_of_ble_eq_true rfl⟩) (va_recv hK hP (ci := 0) (q0 := 2) rfl rfl) (hP.sub [2, 3] rfl) (hK.sub [1] rfl) rfl hl.1 rfl (Nat.le_of_ble_eq_true rfl) dX1_moved_15 ⟨Nat.zero_le _, Nat.zero_le _⟩ ?_
      refine xk_if_eqB (tgt := 29) hx hb dX1_moved_18 (by decide) (fun c18 => ?_) (fun c18 => ?_)
      · refine lv_iconst (v := nI 0) hx hb dX1_moved_29 (by decide +kernel) ?_
        exact W.iret hx hb hr (fun t ht hW => ⟨_, rfl, by rw [atR_in ha (by omega), c18]; rfl, ht⟩) t_nil dX1_moved_30
      · refine lv_aload_n hx hb dX1_moved_21 rfl (lv_at hl 0 rfl) ?_
        refine lv_iload_n hx hb dX1_moved_22 rfl (lv_at hl 1 rfl) ?_
        refine xk_roV (As := [.int (nI a)]) (rest := []) ⟨hx, hb, hml, hown, hts⟩ (c_newAddress l D cI cL h0 ad n B nb tp ob co rd rts offs fnd mem frs btw snw stw a hn hB hnb hof (by omega)) (cwV 1 hts gX1_moved_X1_newAddress rfl rfl rfl (by decide +kernel) ⟨Nat.le_of_ble_eq_true rfl, Nat.le_of_ble_eq_true rfl⟩) (va_recv hK hP (ci := 1) (q0 := 0) rfl rfl) hP hK rfl hl.1 rfl (Nat.le_of_ble_eq_true rfl) dX1_moved_23 ⟨Nat.zero_le _, Nat.zero_le _⟩ ?_
        refine lv_goto (tgt := 30) hx hb dX1_moved_26 (by decide) ?_
        exact W.iret hx hb hr (fun t ht hW => ⟨_, rfl, by rw [atR_in ha (by omega), c18]; rfl, ht⟩) t_nil dX1_moved_30
    · rw [inR_nat ha] at c5; simp at c5
      refine lv_iconst (v := (-1)) hx hb dX1_moved_8 (by decide +kernel) ?_
      exact W.iret hx hb hr (fun t ht hW => ⟨_, rfl, (atR_out ha (by omega)).symm, ht⟩) t_nil dX1_moved_9
set_option maxHeartbeats 4000000 in
set_option maxRecDepth 100000 in
/-- count -/
theorem c_count (l : Launch) (D : va_G) (cI cL : ClassId) (h0 : Nat) (ad : Nat → Nat) (n B nb tp ob co rd : Nat) (rts offs fnd mem frs : Nat → Int32) (btw snw stw : Nat → Int64) (x : Int32) : Met l yX1_count wsX1_count ({ frames := 0, cells := 0, slots := 0, locals := 0 }) (va_Pc [.ref h0, .int x] (fun U => va_P D vwCl (cW cI cL h0 ad n B nb tp ob co rd rts offs fnd mem frs btw snw stw) U.heap ∧ va_K D vwCl [(cI, .int), (cL, .long)] U)) (vp_Si (fun r9 => r9 = cntA tp ob co n nb x)) 0 0 (fun _ => False) := by
  refine Met.ofW (cc := cX1_count) (maxL := 2) (ret := (some .int)) (by decide) rfl ?_
  intro p e s m args below meth c s₁ B9 hml hv
  obtain ⟨rfl, hP, hK⟩ := hv
  have hx := B9.exec
  have hb := B9.bytes
  have hr := B9.returns
  have hts := atoms_spec (ws := wsX1_count) B9.pre
  have hown : s.vm.findClass RX1 = some m.cls := findClass_of_methodNamed B9.named
  have hlocks := B9.notSynchronized
  have hl := lv_entry ([.ref h0, .int x]) (n := 2) (Nat.le_of_ble_eq_true rfl)
  rw [lg_entry_eq]
  generalize (lg_sl ([.ref h0, .int x]) ++ List.replicate (2 - (lg_sl ([.ref h0, .int x])).length) Slot.unset).toArray = ls at hl ⊢
  have hl : lv_has ls 2 [(0, .ref h0), (1, .int x)] := hl
  refine lv_iload_n hx hb dX1_count_0 rfl (lv_at hl 1 rfl) ?_
  by_cases h5 : x < 0 ∨ nI 5 ≤ x
  · have ho : x.toInt < 0 ∨ 4 < x.toInt := by
      rcases h5 with q | q
      · rw [Int32.lt_iff_toInt_lt] at q; exact Or.inl q
      · rw [Int32.le_iff_toInt_le, nI_toInt (by decide)] at q; exact Or.inr (by omega)
    have hc : cntA tp ob co n nb x = -1 := by
      rcases h5 with q | q
      · exact cntA_neg q
      · rcases xk_sgn x with z | ⟨a, ha, rfl⟩
        · exact cntA_neg z
        · exact cntA_big ha ((nI_leI (by decide) ha).mp q)
    refine lv_tableOut (tgt := 61) hx hb dX1_count_1 ho (by decide) ?_
    refine lv_iconst (v := (-1)) hx hb dX1_count_61 (by decide +kernel) ?_
    exact W.iret hx hb hr (fun t ht hW => ⟨_, rfl, hc.symm, ht⟩) t_nil dX1_count_62
  · obtain ⟨a, ha, rfl⟩ : ∃ a : Nat, a < 5 ∧ x = nI a := by
      rcases pk_ix x (n := 5) (by decide) with q | q | q
      · exact absurd (Or.inl q) h5
      · exact absurd (Or.inr q) h5
      · exact q
    match a, ha with
    | 0, _ =>
      refine lv_tableIn (tgt := 36) (off := 35) hx hb dX1_count_1 (by decide) (by decide) (by decide) (by decide) ?_
      refine lv_aload_n hx hb dX1_count_36 rfl (lv_at hl 0 rfl) ?_
      refine va_get (D := D) (ci := 1) (v := .int (nI tp)) (C := RX1) (T := TX1) (N := 15) hx hb hts in_X1_count_X1 hown hK hP 0 rfl rfl 11 (by decide) (hts (.fieldLink RX1 63 "OffsetHeap" "top" "I") (by decide +kernel)) (fun _ h9 => h9) rfl dX1_count_37 ?_
      exact W.iret hx hb hr (fun t ht hW => ⟨_, rfl, rfl, ht⟩) t_nil dX1_count_40
    | 1, _ =>
      refine lv_tableIn (tgt := 41) (off := 40) hx hb dX1_count_1 (by decide) (by decide) (by decide) (by decide) ?_
      refine lv_aload_n hx hb dX1_count_41 rfl (lv_at hl 0 rfl) ?_
      refine va_get (D := D) (ci := 1) (v := .int (nI ob)) (C := RX1) (T := TX1) (N := 15) hx hb hts in_X1_count_X1 hown hK hP 0 rfl rfl 12 (by decide) (hts (.fieldLink RX1 76 "OffsetHeap" "objects" "I") (by decide +kernel)) (fun _ h9 => h9) rfl dX1_count_42 ?_
      exact W.iret hx hb hr (fun t ht hW => ⟨_, rfl, rfl, ht⟩) t_nil dX1_count_45
    | 2, _ =>
      refine lv_tableIn (tgt := 46) (off := 45) hx hb dX1_count_1 (by decide) (by decide) (by decide) (by decide) ?_
      refine lv_aload_n hx hb dX1_count_46 rfl (lv_at hl 0 rfl) ?_
      refine va_get (D := D) (ci := 1) (v := .int (nI co)) (C := RX1) (T := TX1) (N := 15) hx hb hts in_X1_count_X1 hown hK hP 0 rfl rfl 13 (by decide) (hts (.fieldLink RX1 110 "OffsetHeap" "collectings" "I") (by decide +kernel)) (fun _ h9 => h9) rfl dX1_count_47 ?_
      exact W.iret hx hb hr (fun t ht hW => ⟨_, rfl, rfl, ht⟩) t_nil dX1_count_50
    | 3, _ =>
      refine lv_tableIn (tgt := 51) (off := 50) hx hb dX1_count_1 (by decide) (by decide) (by decide) (by decide) ?_
      refine lv_aload_n hx hb dX1_count_51 rfl (lv_at hl 0 rfl) ?_
      refine va_get (D := D) (ci := 1) (v := .int (nI n)) (C := RX1) (T := TX1) (N := 15) hx hb hts in_X1_count_X1 hown hK hP 0 rfl rfl 0 (by decide) (hts (.fieldLink RX1 18 "OffsetHeap" "last" "I") (by decide +kernel)) (fun _ h9 => h9) rfl dX1_count_52 ?_
      exact W.iret hx hb hr (fun t ht hW => ⟨_, rfl, rfl, ht⟩) t_nil dX1_count_55
    | 4, _ =>
      refine lv_tableIn (tgt := 56) (off := 55) hx hb dX1_count_1 (by decide) (by decide) (by decide) (by decide) ?_
      refine lv_aload_n hx hb dX1_count_56 rfl (lv_at hl 0 rfl) ?_
      refine va_get (D := D) (ci := 1) (v := .int (nI nb)) (C := RX1) (T := TX1) (N := 15) hx hb hts in_X1_count_X1 hown hK hP 0 rfl rfl 2 (by decide) (hts (.fieldLink RX1 29 "OffsetHeap" "blocks" "I") (by decide +kernel)) (fun _ h9 => h9) rfl dX1_count_57 ?_
      exact W.iret hx hb hr (fun t ht hW => ⟨_, rfl, rfl, ht⟩) t_nil dX1_count_60
    | a + 5, h => exact absurd h (by omega)
