/-! BitRow -/
set_option maxHeartbeats 4000000 in
set_option maxRecDepth 100000 in
/-- has: the bit -/
theorem c_has (l : Launch) (D : va_G) (cL : ClassId) (b r n : Nat) (f : Nat → Int64) (hn : n < 2 ^ 31) (i : Nat) (hi : i / 64 < n) (hi2 : i < 2 ^ 31) : Met l yX0_has wsX0_has ({ frames := 0, cells := 0, slots := 0, locals := 0 }) (va_Pc [.ref b, .int (nI i)] (fun U => va_P D vwCl [(b, .inr (0, [.ref r])), (r, .inl (cL, n, .inr (.inl f)))] U.heap ∧ va_K D vwCl [(cL, .long)] U)) (vp_Si (fun r9 => r9 = bI (bo f i))) 0 0 (fun _ => False) := by
  refine Met.ofW (cc := cX0_has) (maxL := 2) (ret := (some .boolean)) (by decide) rfl ?_
  intro p e s m args below meth c s₁ B9 hml hv
  obtain ⟨rfl, hP, hK⟩ := hv
  have hx := B9.exec
  have hb := B9.bytes
  have hr := B9.returns
  have hts := atoms_spec (ws := wsX0_has) B9.pre
  have hown : s.vm.findClass RX0 = some m.cls := findClass_of_methodNamed B9.named
  have hlocks := B9.notSynchronized
  have hl := lv_entry ([.ref b, .int (nI i)]) (n := 2) (Nat.le_of_ble_eq_true rfl)
  rw [lg_entry_eq]
  generalize (lg_sl ([.ref b, .int (nI i)]) ++ List.replicate (2 - (lg_sl ([.ref b, .int (nI i)])).length) Slot.unset).toArray = ls at hl ⊢
  have hl : lv_has ls 2 [(0, .ref b), (1, .int (nI i))] := hl
  refine lv_aload_n hx hb dX0_has_0 rfl (lv_at hl 0 rfl) ?_
  refine va_get (D := D) (ci := 0) (v := .ref r) (C := RX0) (T := TX0) (N := 1) hx hb hts in_X0_has_X0 hown hK hP 0 rfl rfl 0 (by decide) (hts (.fieldLink RX0 7 "OffsetHeap$BitRow" "row" "[J") (by decide +kernel)) (fun _ h9 => h9) rfl dX0_has_1 ?_
  refine lv_iload_n hx hb dX0_has_4 rfl (lv_at hl 1 rfl) ?_
  refine lv_bipush (v := nI 6) hx hb dX0_has_5 (by decide +kernel) ?_
  refine lv_ishr hx hb dX0_has_7 ?_
  refine xk_top (pk_shrN (by omega) _ 6 (by decide)) ?_
  refine xk_lald hx hb hK hP 1 0 rfl rfl (by omega) (by omega) dX0_has_8 ?_
  refine lv_iload_n hx hb dX0_has_9 rfl (lv_at hl 1 rfl) ?_
  refine lv_bipush (v := nI 63) hx hb dX0_has_10 (by decide +kernel) ?_
  refine lv_iand hx hb dX0_has_12 ?_
  refine xk_top (pk_andN (by omega) 6 (by decide)) ?_
  refine lv_lushr (v := (((f (i / 64)).toUInt64 >>> ((nI (i % 64)).toInt64.toUInt64 &&& Int64.toUInt64 63)).toInt64)) hx hb dX0_has_13 rfl ?_
  refine lv_lconst (v := 1) hx hb dX0_has_14 (by decide +kernel) ?_
  refine lv_land hx hb dX0_has_15 ?_
  refine lv_lconst (v := 0) hx hb dX0_has_16 (by decide +kernel) ?_
  refine xk_lcmp0 (b := bo f i) (tgt := 25) hx hb (bo_has (f (i / 64)) (i % 64) (Nat.mod_lt _ (by decide))) dX0_has_17 dX0_has_18 (by decide) (fun c18 => ?_) (fun c18 => ?_)
  · refine lv_iconst (v := nI 0) hx hb dX0_has_25 (by decide +kernel) ?_
    exact W.zret hx hb hr rfl (fun t ht hW => ⟨_, rfl, bI_0 c18, ht⟩) t_nil dX0_has_26
  · refine lv_iconst (v := nI 1) hx hb dX0_has_21 (by decide +kernel) ?_
    refine lv_goto (tgt := 26) hx hb dX0_has_22 (by decide) ?_
    exact W.zret hx hb hr rfl (fun t ht hW => ⟨_, rfl, bI_1 c18, ht⟩) t_nil dX0_has_26
set_option maxHeartbeats 4000000 in
set_option maxRecDepth 100000 in
/-- between: how many bits -/
theorem c_between (l : Launch) (D : va_G) (cL : ClassId) (b r n : Nat) (f : Nat → Int64) (hn : n < 2 ^ 31) (x y : Nat) (hxy : x ≤ y) (hq : x / 64 = y / 64) (hi : y / 64 < n) (hi2 : y < 2 ^ 31) : Met l yX0_between wsX0_between ({ frames := 1, cells := 0, slots := 0, locals := 30 }) (va_Pc [.ref b, .int (nI x), .int (nI y)] (fun U => va_P D vwCl [(b, .inr (0, [.ref r])), (r, .inl (cL, n, .inr (.inl f)))] U.heap ∧ va_K D vwCl [(cL, .long)] U)) (vp_Si (fun r9 => r9 = nI (cn (bo f) y - cn (bo f) x))) 0 0 (fun _ => False) := by
  refine Met.ofW (cc := cX0_between) (maxL := 7) (ret := (some .int)) (by decide) rfl ?_
  intro p e s m args below meth c s₁ B9 hml hv
  obtain ⟨rfl, hP, hK⟩ := hv
  have hx := B9.exec
  have hb := B9.bytes
  have hr := B9.returns
  have hts := atoms_spec (ws := wsX0_between) B9.pre
  have hown : s.vm.findClass RX0 = some m.cls := findClass_of_methodNamed B9.named
  have hlocks := B9.notSynchronized
  have hl := lv_entry ([.ref b, .int (nI x), .int (nI y)]) (n := 7) (Nat.le_of_ble_eq_true rfl)
  rw [lg_entry_eq]
  generalize (lg_sl ([.ref b, .int (nI x), .int (nI y)]) ++ List.replicate (7 - (lg_sl ([.ref b, .int (nI x), .int (nI y)])).length) Slot.unset).toArray = ls at hl ⊢
  have hl : lv_has ls 7 [(0, .ref b), (1, .int (nI x)), (2, .int (nI y))] := hl
  refine lv_ldc2 (v := -1) hx hb hown (hts (.constantLong RX0 19 (-1)) (by decide +kernel)) dX0_between_0 ?_
  refine lv_iload_n hx hb dX0_between_3 rfl (lv_at hl 1 rfl) ?_
  refine lv_bipush (v := nI 63) hx hb dX0_between_4 (by decide +kernel) ?_
  refine lv_iand hx hb dX0_between_6 ?_
  refine xk_top (pk_andN (by omega) 6 (by decide)) ?_
  refine lv_lshl (v := ((-1 : Int64) <<< ((nI (x % 64)).toInt64 &&& 63))) hx hb dX0_between_7 rfl ?_
  refine lv_lstore_n (lv' := [(3, .long ((-1 : Int64) <<< ((nI (x % 64)).toInt64 &&& 63))), (0, .ref b), (1, .int (nI x)), (2, .int (nI y))]) hx hb dX0_between_8 rfl hl (by decide) rfl (fun ls hl => ?_)
  refine lv_lconst (v := 1) hx hb dX0_between_9 (by decide +kernel) ?_
  refine lv_iload_n hx hb dX0_between_10 rfl (lv_at hl 3 rfl) ?_
  refine lv_bipush (v := nI 63) hx hb dX0_between_11 (by decide +kernel) ?_
  refine lv_iand hx hb dX0_between_13 ?_
  refine xk_top (pk_andN (by omega) 6 (by decide)) ?_
  refine lv_lshl (v := ((1 : Int64) <<< ((nI (y % 64)).toInt64 &&& 63))) hx hb dX0_between_14 rfl ?_
  refine lv_lconst (v := 1) hx hb dX0_between_15 (by decide +kernel) ?_
  refine lv_lsub hx hb dX0_between_16 ?_
  refine lv_lstore (lv' := [(5, .long (((1 : Int64) <<< ((nI (y % 64)).toInt64 &&& 63)) - 1)), (3, .long ((-1 : Int64) <<< ((nI (x % 64)).toInt64 &&& 63))), (0, .ref b), (1, .int (nI x)), (2, .int (nI y))]) hx hb dX0_between_17 hl (by decide) rfl (fun ls hl => ?_)
  refine lv_aload_n hx hb dX0_between_19 rfl (lv_at hl 2 rfl) ?_
  refine va_get (D := D) (ci := 0) (v := .ref r) (C := RX0) (T := TX0) (N := 1) hx hb hts in_X0_between_X0 hown hK hP 0 rfl rfl 0 (by decide) (hts (.fieldLink RX0 7 "OffsetHeap$BitRow" "row" "[J") (by decide +kernel)) (fun _ h9 => h9) rfl dX0_between_20 ?_
  refine lv_iload_n hx hb dX0_between_23 rfl (lv_at hl 4 rfl) ?_
  refine lv_bipush (v := nI 6) hx hb dX0_between_24 (by decide +kernel) ?_
  refine lv_ishr hx hb dX0_between_26 ?_
  refine xk_top (pk_shrN (by omega) _ 6 (by decide)) ?_
  refine xk_lald hx hb hK hP 1 0 rfl rfl (by omega) (by omega) dX0_between_27 ?_
  refine lv_lload_n hx hb dX0_between_28 rfl (lv_at hl 1 rfl) ?_
  refine lv_land hx hb dX0_between_29 ?_
  refine lv_lload hx hb dX0_between_30 (lv_at hl 0 rfl) ?_
  refine lv_land hx hb dX0_between_32 ?_
  obtain ⟨u, hu, eu⟩ := wb_of (((f (y / 64)) &&& ((-1 : Int64) <<< ((nI (x % 64)).toInt64 &&& 63))) &&& (((1 : Int64) <<< ((nI (y % 64)).toInt64 &&& 63)) - 1))
  refine xk_topl eu ?_
  have ew : pb_c 64 u = cn (bo f) y - cn (bo f) x := by
    rw [← bo_between f x y hxy hq, eu]
    exact congrArg (pb_c 64) (wb_tn hu).symm
  refine xk_roS (As := [.long (lN u)]) (rest := []) ⟨hx, hb, hml, hown, hts⟩ (c_bitCount l u hu) (va_cwS 1 hts gX0_between_J13_bitCount_95d88 rfl rfl rfl (by decide +kernel) ⟨Nat.le_of_ble_eq_true rfl, Nat.le_of_ble_eq_true rfl⟩) rfl hl.1 rfl (Nat.le_of_ble_eq_true rfl) dX0_between_33 ⟨Nat.zero_le _, Nat.zero_le _⟩ ?_
  exact W.iret hx hb hr (fun t ht hW => ⟨_, rfl, by rw [ew], ht⟩) t_nil dX0_between_36
set_option maxHeartbeats 4000000 in
set_option maxRecDepth 100000 in
/-- put: the bit is set -/
theorem c_put (l : Launch) (D : va_G) (cL : ClassId) (b r n : Nat) (f : Nat → Int64) (hn : n < 2 ^ 31) (sz i : Nat) (hi : i / 64 < n) (hi2 : i < 2 ^ 31) : Met l yX0_put wsX0_put ({ frames := 0, cells := 0, slots := 0, locals := 0 }) (va_Pc [.ref b, .int (nI i)] (fun U => U.heap.size = sz ∧ va_P D vwCl [(b, .inr (0, [.ref r])), (r, .inl (cL, n, .inr (.inl f)))] U.heap ∧ va_K D vwCl [(cL, .long)] U ∧ va_D (fun _ => True) [(b, .inr (0, [.ref r])), (r, .inl (cL, n, .inr (.inl f)))])) (va_Qv (fun f2 : Nat → Int64 => f2 = bput f i) (fun f2 t => va_P D vwCl [(b, .inr (0, [.ref r])), (r, .inl (cL, n, .inr (.inl f2)))] t.heap ∧ va_D (va_A [(b, .inr (0, [.ref r])), (r, .inl (cL, n, .inr (.inl f)))] sz) [(b, .inr (0, [.ref r])), (r, .inl (cL, n, .inr (.inl f2)))]) (va_A [(b, .inr (0, [.ref r])), (r, .inl (cL, n, .inr (.inl f)))] sz)) 0 0 (va_A [(b, .inr (0, [.ref r])), (r, .inl (cL, n, .inr (.inl f)))] sz) := by
  refine Met.ofW (cc := cX0_put) (maxL := 2) (ret := none) (by decide) rfl ?_
  intro p e s m args below meth c s₁ B9 hml hv
  obtain ⟨rfl, hsz, hP, hK, hD0⟩ := hv
  have hx := B9.exec
  have hb := B9.bytes
  have hr := B9.returns
  have hts := atoms_spec (ws := wsX0_put) B9.pre
  have hown : s.vm.findClass RX0 = some m.cls := findClass_of_methodNamed B9.named
  have hlocks := B9.notSynchronized
  subst hsz
  have hD := hD0.self (sz := s.heap.size)
  generalize hAe : va_A [(b, .inr (0, [.ref r])), (r, .inl (cL, n, .inr (.inl f)))] s.heap.size = A at hD ⊢
  have hA : ∀ q : Nat, s.heap.size ≤ q → A q := fun q h => by rw [← hAe]; exact Or.inr h
  have hS : va_S A s.heap s.heap [] := va_S.rf
  have hl := lv_entry ([.ref b, .int (nI i)]) (n := 2) (Nat.le_of_ble_eq_true rfl)
  rw [lg_entry_eq]
  generalize (lg_sl ([.ref b, .int (nI i)]) ++ List.replicate (2 - (lg_sl ([.ref b, .int (nI i)])).length) Slot.unset).toArray = ls at hl ⊢
  have hl : lv_has ls 2 [(0, .ref b), (1, .int (nI i))] := hl
  refine lv_aload_n hx hb dX0_put_0 rfl (lv_at hl 0 rfl) ?_
  refine va_get (D := D) (ci := 0) (v := .ref r) (C := RX0) (T := TX0) (N := 1) hx hb hts in_X0_put_X0 hown hK hP 0 rfl rfl 0 (by decide) (hts (.fieldLink RX0 7 "OffsetHeap$BitRow" "row" "[J") (by decide +kernel)) (fun _ h9 => h9) rfl dX0_put_1 ?_
  refine lv_iload_n hx hb dX0_put_4 rfl (lv_at hl 1 rfl) ?_
  refine lv_bipush (v := nI 6) hx hb dX0_put_5 (by decide +kernel) ?_
  refine lv_ishr hx hb dX0_put_7 ?_
  refine xk_top (pk_shrN (by omega) _ 6 (by decide)) ?_
  refine lv_dup2_11 hx hb dX0_put_8 rfl rfl ?_
  refine xk_lald hx hb hK hP 1 0 rfl rfl (by omega) (by omega) dX0_put_9 ?_
  refine lv_lconst (v := 1) hx hb dX0_put_10 (by decide +kernel) ?_
  refine lv_iload_n hx hb dX0_put_11 rfl (lv_at hl 1 rfl) ?_
  refine lv_bipush (v := nI 63) hx hb dX0_put_12 (by decide +kernel) ?_
  refine lv_iand hx hb dX0_put_14 ?_
  refine xk_top (pk_andN (by omega) 6 (by decide)) ?_
  refine lv_lshl (v := lN (2 ^ (i % 64))) hx hb dX0_put_15 (bo_bit (i % 64) (Nat.mod_lt _ (by decide))) ?_
  refine lv_lor hx hb dX0_put_16 ?_
  refine xk_last hx hb hK hP hD hS 1 0 rfl rfl (by omega) (by omega) dX0_put_17 (fun H locs hP hD hS => ?_)
  have hP : va_P D vwCl [(b, .inr (0, [.ref r])), (r, .inl (cL, n, .inr (.inl (bput f i))))] H := hP
  have hD : va_D A [(b, .inr (0, [.ref r])), (r, .inl (cL, n, .inr (.inl (bput f i))))] := hD
  exact W.vret hx hb hr (fun t ht hW => ⟨⟨bput f i, rfl, rfl, by rw [ht]; exact hP, hD⟩, hS.F ht⟩) hS.2.2 dX0_put_18
set_option maxHeartbeats 4000000 in
set_option maxRecDepth 100000 in
/-- clear: no bit is set -/
theorem c_clear (l : Launch) (D : va_G) (cL : ClassId) (b r n : Nat) (f : Nat → Int64) (hn : n < 2 ^ 31) (sz : Nat) : Met l yX0_clear wsX0_clear ({ frames := 1, cells := 0, slots := 0, locals := 30 }) (va_Pc [.ref b] (fun U => U.heap.size = sz ∧ va_P D vwCl [(b, .inr (0, [.ref r])), (r, .inl (cL, n, .inr (.inl f)))] U.heap ∧ va_K D vwCl [(cL, .long)] U ∧ va_D (fun _ => True) [(b, .inr (0, [.ref r])), (r, .inl (cL, n, .inr (.inl f)))])) (va_Qv (fun f2 : Nat → Int64 => ∀ j, j < n → f2 j = 0) (fun f2 t => va_P D vwCl [(b, .inr (0, [.ref r])), (r, .inl (cL, n, .inr (.inl f2)))] t.heap ∧ va_D (va_A [(b, .inr (0, [.ref r])), (r, .inl (cL, n, .inr (.inl f)))] sz) [(b, .inr (0, [.ref r])), (r, .inl (cL, n, .inr (.inl f2)))]) (va_A [(b, .inr (0, [.ref r])), (r, .inl (cL, n, .inr (.inl f)))] sz)) 0 0 (va_A [(b, .inr (0, [.ref r])), (r, .inl (cL, n, .inr (.inl f)))] sz) := by
  refine Met.ofW (cc := cX0_clear) (maxL := 1) (ret := none) (by decide) rfl ?_
  intro p e s m args below meth c s₁ B9 hml hv
  obtain ⟨rfl, hsz, hP, hK, hD0⟩ := hv
  have hx := B9.exec
  have hb := B9.bytes
  have hr := B9.returns
  have hts := atoms_spec (ws := wsX0_clear) B9.pre
  have hown : s.vm.findClass RX0 = some m.cls := findClass_of_methodNamed B9.named
  have hlocks := B9.notSynchronized
  subst hsz
  have hD := hD0.self (sz := s.heap.size)
  generalize hAe : va_A [(b, .inr (0, [.ref r])), (r, .inl (cL, n, .inr (.inl f)))] s.heap.size = A at hD ⊢
  have hA : ∀ q : Nat, s.heap.size ≤ q → A q := fun q h => by rw [← hAe]; exact Or.inr h
  have hS : va_S A s.heap s.heap [] := va_S.rf
  have hl := lv_entry ([.ref b]) (n := 1) (Nat.le_of_ble_eq_true rfl)
  rw [lg_entry_eq]
  generalize (lg_sl ([.ref b]) ++ List.replicate (1 - (lg_sl ([.ref b])).length) Slot.unset).toArray = ls at hl ⊢
  have hl : lv_has ls 1 [(0, .ref b)] := hl
  refine lv_aload_n hx hb dX0_clear_0 rfl (lv_at hl 0 rfl) ?_
  refine va_get (D := D) (ci := 0) (v := .ref r) (C := RX0) (T := TX0) (N := 1) hx hb hts in_X0_clear_X0 hown hK hP 0 rfl rfl 0 (by decide) (hts (.fieldLink RX0 7 "OffsetHeap$BitRow" "row" "[J") (by decide +kernel)) (fun _ h9 => h9) rfl dX0_clear_1 ?_
  refine lv_lconst (v := 0) hx hb dX0_clear_4 (by decide +kernel) ?_
  refine xk_aftv (wr := [(b, .inr (0, [.ref r]))]) (ws' := fun f2 => [(b, .inr (0, [.ref r])), (r, .inl (cL, n, .inr (.inl f2)))]) (va_runS (As := [.ref r, .long 0]) (rest := []) ⟨hx, hb, hml, hown, hts⟩ (c_fillJ l D r cL n s.heap.size f 0 hn) (va_cwS 2 hts gX0_clear_J7_fill_d0a16 rfl rfl rfl (by decide +kernel) ⟨Nat.le_of_ble_eq_true rfl, Nat.le_of_ble_eq_true rfl⟩) (xk_preS rfl (hP.sub [1] rfl) hK ((hD.sub [1] (by decide) rfl).weaken (fun _ _ _ _ => trivial))) rfl rfl hl.1 rfl (lv_room (Nat.le_of_ble_eq_true rfl)) dX0_clear_5 ⟨Nat.zero_le _, Nat.zero_le _⟩) hP hD hS hA [1] [0] [0, 1] rfl rfl (by decide) (by decide) (fun _ => rfl) (by decide) (fun f2 H locs h2 hP hD hS => ?_)
  exact W.vret hx hb hr (fun t ht hW => ⟨⟨f2, rfl, h2, by rw [ht]; exact hP, hD⟩, hS.F ht⟩) hS.2.2 dX0_clear_8
