/-! the JDK's methods and the rows of bits: contracts -/
theorem in_X0_init_X0 : ∀ w ∈ wsX00, w ∈ wsX0_init := by decide +kernel
theorem in_X0_has_X0 : ∀ w ∈ wsX00, w ∈ wsX0_has := by decide +kernel
theorem in_X0_put_X0 : ∀ w ∈ wsX00, w ∈ wsX0_put := by decide +kernel
theorem in_X0_clear_X0 : ∀ w ∈ wsX00, w ∈ wsX0_clear := by decide +kernel
theorem in_X0_between_X0 : ∀ w ∈ wsX00, w ∈ wsX0_between := by decide +kernel
theorem jb_and (z : Nat) : nI z &&& nI 127 = nI (z % 128) := by
  rw [pk_and (nI z) 7 (by decide)]
  congr 1
  show (BitVec.ofNat 32 z).toNat % 128 = z % 128
  rw [BitVec.toNat_ofNat]
  omega
theorem jb_k1 : (6148914691236517205 : Int64) = lN (pb_mk 85 8) := by decide +kernel
theorem jb_k2 : (3689348814741910323 : Int64) = lN (pb_mk 51 8) := by decide +kernel
theorem jb_k3 : (1085102592571150095 : Int64) = lN (pb_mk 15 8) := by decide +kernel
theorem jb_m2 : pb_mk 51 8 = 3689348814741910323 := by decide +kernel
theorem jb_m1 : pb_mk 85 8 = 6148914691236517205 := by decide +kernel
theorem jb_m3 : pb_mk 15 8 = 1085102592571150095 := by decide +kernel
theorem fl_J {f : Nat → Int64} {i : Nat} {v : Int64} (h : ∀ j, j < i → f j = v) : ∀ j, j < i + 1 → vp_updL f i v j = v := fun j hj => by
  by_cases q : j = i
  · rw [q]; exact pk_uLs
  · rw [pk_uLn q]; exact h j (by omega)
theorem fl_I {f : Nat → Int32} {i : Nat} {v : Int32} (h : ∀ j, j < i → f j = v) : ∀ j, j < i + 1 → upd f i v j = v := fun j hj => by
  by_cases q : j = i
  · rw [q]; exact pk_us
  · rw [pk_un q]; exact h j (by omega)
set_option maxHeartbeats 4000000 in
set_option maxRecDepth 100000 in
/-- Long.bitCount: the number of bits -/
theorem c_bitCount (l : Launch) (u : Nat) (hu : u < 2 ^ 64) : Met l yJ13_bitCount_95d88 wsJ13_bitCount_95d88 ({ frames := 0, cells := 0, slots := 0, locals := 0 }) (va_Pc [.long (lN u)] (fun _ => True)) (vp_Si (fun r => r = nI (pb_c 64 u))) 0 0 (fun _ => False) := by
  refine Met.ofW (cc := cJ13_bitCount_95d88) (maxL := 2) (ret := (some .int)) (by decide) rfl ?_
  intro p e s m args below meth c s₁ B9 hml hv
  obtain ⟨rfl, -⟩ := hv
  have hx := B9.exec
  have hb := B9.bytes
  have hr := B9.returns
  have hts := atoms_spec (ws := wsJ13_bitCount_95d88) B9.pre
  have hown : s.vm.findClass RJ13 = some m.cls := findClass_of_methodNamed B9.named
  have hlocks := B9.notSynchronized
  have hl := lv_entry ([.long (lN u)]) (n := 2) (Nat.le_of_ble_eq_true rfl)
  rw [lg_entry_eq]
  generalize (lg_sl ([.long (lN u)]) ++ List.replicate (2 - (lg_sl ([.long (lN u)])).length) Slot.unset).toArray = ls at hl ⊢
  have hl : lv_has ls 2 [(0, .long (lN u))] := hl
  have hs1 : u / 2 ^ 1 &&& pb_mk 85 8 ≤ u := Nat.le_trans Nat.and_le_left (Nat.div_le_self _ _)
  refine lv_lload_n hx hb dJ13_bitCount_95d88_0 rfl (lv_at hl 0 rfl) ?_
  refine lv_lload_n hx hb dJ13_bitCount_95d88_1 rfl (lv_at hl 0 rfl) ?_
  refine lv_iconst (v := nI 1) hx hb dJ13_bitCount_95d88_2 (by decide +kernel) ?_
  refine lv_lushr (v := lN (u / 2 ^ 1)) hx hb dJ13_bitCount_95d88_3 (wb_shr (by omega) (by decide)) ?_
  refine lv_ldc2 (v := 6148914691236517205) hx hb hown (hts (.constantLong RJ13 314 (6148914691236517205)) (by decide +kernel)) dJ13_bitCount_95d88_4 ?_
  refine xk_topl jb_k1 ?_
  refine lv_land hx hb dJ13_bitCount_95d88_7 ?_
  refine xk_topl (wb_and (by omega) (by rw [jb_m1]; omega)) ?_
  refine lv_lsub hx hb dJ13_bitCount_95d88_8 ?_
  refine xk_topl (lN_sub hs1) ?_
  obtain ⟨y1, hy1⟩ : ∃ z, z = (u - ((u / 2 ^ 1) &&& (pb_mk 85 8))) := ⟨_, rfl⟩
  refine xk_topl (show lN ((u - ((u / 2 ^ 1) &&& (pb_mk 85 8)))) = lN y1 by rw [hy1]) ?_
  have b1 : y1 < 2 ^ 64 := by omega
  refine lv_lstore_n (lv' := [(0, .long (lN y1))]) hx hb dJ13_bitCount_95d88_9 rfl hl (by decide) rfl (fun ls hl => ?_)
  refine lv_lload_n hx hb dJ13_bitCount_95d88_10 rfl (lv_at hl 0 rfl) ?_
  refine lv_ldc2 (v := 3689348814741910323) hx hb hown (hts (.constantLong RJ13 316 (3689348814741910323)) (by decide +kernel)) dJ13_bitCount_95d88_11 ?_
  refine xk_topl jb_k2 ?_
  refine lv_land hx hb dJ13_bitCount_95d88_14 ?_
  refine xk_topl (wb_and (by omega) (by rw [jb_m2]; omega)) ?_
  refine lv_lload_n hx hb dJ13_bitCount_95d88_15 rfl (lv_at hl 0 rfl) ?_
  refine lv_iconst (v := nI 2) hx hb dJ13_bitCount_95d88_16 (by decide +kernel) ?_
  refine lv_lushr (v := lN (y1 / 2 ^ 2)) hx hb dJ13_bitCount_95d88_17 (wb_shr (by omega) (by decide)) ?_
  refine lv_ldc2 (v := 3689348814741910323) hx hb hown (hts (.constantLong RJ13 316 (3689348814741910323)) (by decide +kernel)) dJ13_bitCount_95d88_18 ?_
  refine xk_topl jb_k2 ?_
  refine lv_land hx hb dJ13_bitCount_95d88_21 ?_
  refine xk_topl (wb_and (by omega) (by rw [jb_m2]; omega)) ?_
  refine lv_ladd hx hb dJ13_bitCount_95d88_22 ?_
  refine xk_topl (lN_add _ _) ?_
  obtain ⟨y2, hy2⟩ : ∃ z, z = ((y1 &&& (pb_mk 51 8)) + ((y1 / 2 ^ 2) &&& (pb_mk 51 8))) := ⟨_, rfl⟩
  refine xk_topl (show lN (((y1 &&& (pb_mk 51 8)) + ((y1 / 2 ^ 2) &&& (pb_mk 51 8)))) = lN y2 by rw [hy2]) ?_
  have b2 : y2 ≤ 7378697629483820646 := by
    have q1 : y1 &&& pb_mk 51 8 ≤ pb_mk 51 8 := Nat.and_le_right
    have q2 : y1 / 2 ^ 2 &&& pb_mk 51 8 ≤ pb_mk 51 8 := Nat.and_le_right
    rw [jb_m2] at q1 q2 hy2
    omega
  refine lv_lstore_n (lv' := [(0, .long (lN y2))]) hx hb dJ13_bitCount_95d88_23 rfl hl (by decide) rfl (fun ls hl => ?_)
  refine lv_lload_n hx hb dJ13_bitCount_95d88_24 rfl (lv_at hl 0 rfl) ?_
  refine lv_lload_n hx hb dJ13_bitCount_95d88_25 rfl (lv_at hl 0 rfl) ?_
  refine lv_iconst (v := nI 4) hx hb dJ13_bitCount_95d88_26 (by decide +kernel) ?_
  refine lv_lushr (v := lN (y2 / 2 ^ 4)) hx hb dJ13_bitCount_95d88_27 (wb_shr (by omega) (by decide)) ?_
  refine lv_ladd hx hb dJ13_bitCount_95d88_28 ?_
  refine xk_topl (lN_add _ _) ?_
  refine lv_ldc2 (v := 1085102592571150095) hx hb hown (hts (.constantLong RJ13 318 (1085102592571150095)) (by decide +kernel)) dJ13_bitCount_95d88_29 ?_
  refine xk_topl jb_k3 ?_
  refine lv_land hx hb dJ13_bitCount_95d88_32 ?_
  refine xk_topl (wb_and (by omega) (by rw [jb_m3]; omega)) ?_
  obtain ⟨y3, hy3⟩ : ∃ z, z = ((y2 + (y2 / 2 ^ 4)) &&& (pb_mk 15 8)) := ⟨_, rfl⟩
  refine xk_topl (show lN (((y2 + (y2 / 2 ^ 4)) &&& (pb_mk 15 8))) = lN y3 by rw [hy3]) ?_
  have e3 : y3 = pb_by (pb_c 8) 8 u := pb_steps 8 u (by omega) y1 y2 y3 hy1 hy2 hy3
  have b3 : y3 < 2 ^ 64 := by rw [e3]; exact pb_by_lt (fun l _ => by have := pb_c_le 8 l; omega) 8 u
  refine lv_lstore_n (lv' := [(0, .long (lN y3))]) hx hb dJ13_bitCount_95d88_33 rfl hl (by decide) rfl (fun ls hl => ?_)
  refine lv_lload_n hx hb dJ13_bitCount_95d88_34 rfl (lv_at hl 0 rfl) ?_
  refine lv_lload_n hx hb dJ13_bitCount_95d88_35 rfl (lv_at hl 0 rfl) ?_
  refine lv_bipush (v := nI 8) hx hb dJ13_bitCount_95d88_36 (by decide +kernel) ?_
  refine lv_lushr (v := lN (y3 / 2 ^ 8)) hx hb dJ13_bitCount_95d88_38 (wb_shr (by omega) (by decide)) ?_
  refine lv_ladd hx hb dJ13_bitCount_95d88_39 ?_
  refine xk_topl (lN_add _ _) ?_
  obtain ⟨z1, hz1⟩ : ∃ z, z = (y3 + (y3 / 2 ^ 8)) := ⟨_, rfl⟩
  refine xk_topl (show lN ((y3 + (y3 / 2 ^ 8))) = lN z1 by rw [hz1]) ?_
  have b4 := (pb_fold u z1 (z1 + z1 / 65536) _ (by rw [← e3]; exact hz1) rfl rfl).2.2.2
  refine lv_lstore_n (lv' := [(0, .long (lN z1))]) hx hb dJ13_bitCount_95d88_40 rfl hl (by decide) rfl (fun ls hl => ?_)
  refine lv_lload_n hx hb dJ13_bitCount_95d88_41 rfl (lv_at hl 0 rfl) ?_
  refine lv_lload_n hx hb dJ13_bitCount_95d88_42 rfl (lv_at hl 0 rfl) ?_
  refine lv_bipush (v := nI 16) hx hb dJ13_bitCount_95d88_43 (by decide +kernel) ?_
  refine lv_lushr (v := lN (z1 / 2 ^ 16)) hx hb dJ13_bitCount_95d88_45 (wb_shr (by omega) (by decide)) ?_
  refine lv_ladd hx hb dJ13_bitCount_95d88_46 ?_
  refine xk_topl (lN_add _ _) ?_
  obtain ⟨z2, hz2⟩ : ∃ z, z = (z1 + (z1 / 2 ^ 16)) := ⟨_, rfl⟩
  refine xk_topl (show lN ((z1 + (z1 / 2 ^ 16))) = lN z2 by rw [hz2]) ?_
  have b5 := (pb_fold u z1 z2 _ (by rw [← e3]; exact hz1) hz2 rfl).2.2.1
  refine lv_lstore_n (lv' := [(0, .long (lN z2))]) hx hb dJ13_bitCount_95d88_47 rfl hl (by decide) rfl (fun ls hl => ?_)
  refine lv_lload_n hx hb dJ13_bitCount_95d88_48 rfl (lv_at hl 0 rfl) ?_
  refine lv_lload_n hx hb dJ13_bitCount_95d88_49 rfl (lv_at hl 0 rfl) ?_
  refine lv_bipush (v := nI 32) hx hb dJ13_bitCount_95d88_50 (by decide +kernel) ?_
  refine lv_lushr (v := lN (z2 / 2 ^ 32)) hx hb dJ13_bitCount_95d88_52 (wb_shr (by omega) (by decide)) ?_
  refine lv_ladd hx hb dJ13_bitCount_95d88_53 ?_
  refine xk_topl (lN_add _ _) ?_
  obtain ⟨z3, hz3⟩ : ∃ z, z = (z2 + (z2 / 2 ^ 32)) := ⟨_, rfl⟩
  refine xk_topl (show lN ((z2 + (z2 / 2 ^ 32))) = lN z3 by rw [hz3]) ?_
  have b6 := (pb_fold u z1 z2 z3 (by rw [← e3]; exact hz1) hz2 hz3).1
  refine lv_lstore_n (lv' := [(0, .long (lN z3))]) hx hb dJ13_bitCount_95d88_54 rfl hl (by decide) rfl (fun ls hl => ?_)
  refine lv_lload_n hx hb dJ13_bitCount_95d88_55 rfl (lv_at hl 0 rfl) ?_
  refine lv_l2i (v := nI z3) hx hb dJ13_bitCount_95d88_56 (lN_i z3) ?_
  refine lv_bipush (v := nI 127) hx hb dJ13_bitCount_95d88_57 (by decide +kernel) ?_
  refine lv_iand hx hb dJ13_bitCount_95d88_59 ?_
  refine xk_top (jb_and z3) ?_
  exact W.iret hx hb hr (fun t ht hW => ⟨_, rfl, by rw [b6], ht⟩) t_nil dJ13_bitCount_95d88_60
set_option maxHeartbeats 4000000 in
set_option maxRecDepth 100000 in
/-- Arrays.fill: every place holds v -/
theorem c_fillJ (l : Launch) (D : va_G) (r : Nat) (cA : ClassId) (n sz : Nat) (f : Nat → Int64) (v : Int64) (hn : n < 2 ^ 31) : Met l yJ7_fill_d0a16 wsJ7_fill_d0a16 ({ frames := 0, cells := 0, slots := 0, locals := 0 }) (va_Pc [.ref r, .long v] (fun U => U.heap.size = sz ∧ va_P D vwCl [(r, .inl (cA, n, .inr (.inl f)))] U.heap ∧ va_K D vwCl [(cA, .long)] U ∧ va_D (fun _ => True) [(r, .inl (cA, n, .inr (.inl f)))])) (va_Qv (fun f2 : Nat → Int64 => ∀ i, i < n → f2 i = v) (fun f2 t => va_P D vwCl [(r, .inl (cA, n, .inr (.inl f2)))] t.heap ∧ va_D (va_A [(r, .inl (cA, n, .inr (.inl f)))] sz) [(r, .inl (cA, n, .inr (.inl f2)))]) (va_A [(r, .inl (cA, n, .inr (.inl f)))] sz)) 0 0 (va_A [(r, .inl (cA, n, .inr (.inl f)))] sz) := by
  refine Met.ofW (cc := cJ7_fill_d0a16) (maxL := 5) (ret := none) (by decide) rfl ?_
  intro p e s m args below meth c s₁ B9 hml hv
  obtain ⟨rfl, hsz, hP, hK, hD0⟩ := hv
  have hx := B9.exec
  have hb := B9.bytes
  have hr := B9.returns
  have hts := atoms_spec (ws := wsJ7_fill_d0a16) B9.pre
  have hown : s.vm.findClass RJ7 = some m.cls := findClass_of_methodNamed B9.named
  have hlocks := B9.notSynchronized
  subst hsz
  have hD := hD0.self (sz := s.heap.size)
  generalize hAe : va_A [(r, .inl (cA, n, .inr (.inl f)))] s.heap.size = A at hD ⊢
  have hA : ∀ q : Nat, s.heap.size ≤ q → A q := fun q h => by rw [← hAe]; exact Or.inr h
  have hS : va_S A s.heap s.heap [] := va_S.rf
  have hl := lv_entry ([.ref r, .long v]) (n := 5) (Nat.le_of_ble_eq_true rfl)
  rw [lg_entry_eq]
  generalize (lg_sl ([.ref r, .long v]) ++ List.replicate (5 - (lg_sl ([.ref r, .long v])).length) Slot.unset).toArray = ls at hl ⊢
  have hl : lv_has ls 5 [(0, .ref r), (1, .long v)] := hl
  have key : ∀ (d i : Nat) (f2 : Nat → Int64) (H : Heap) (locs : List Loc) (ls : Array Slot), n ≤ i + d → i ≤ n → (∀ j, j < i → f2 j = v) → va_P D vwCl [(r, .inl (cA, n, .inr (.inl f2)))] H → va_D A [(r, .inl (cA, n, .inr (.inl f2)))] → va_S A s.heap H locs → lv_has ls 5 [(4, .int (nI n)), (3, .int (nI i)), (0, .ref r), (1, .long v)] → W p l e (headSpec wsJ7_fill_d0a16 ({ frames := 0, cells := 0, slots := 0, locals := 0 })).room s m ([.ref r, .long v] : List Value).toArray below meth c H locs 0 0 (MQ below (va_Qv (fun f2 : Nat → Int64 => ∀ i, i < n → f2 i = v) (fun f2 t => va_P D vwCl [(r, .inl (cA, n, .inr (.inl f2)))] t.heap ∧ va_D (A) [(r, .inl (cA, n, .inr (.inl f2)))]) (A)) ([.ref r, .long v] : List Value).toArray s 0 0 (A)) (F0 m 6 ls []) := by
    intro d
    induction d with
    | zero =>
      intro i f2 H locs ls h1 h2 h3 hP hD hS hl
      refine lv_iload_n hx hb dJ7_fill_d0a16_6 rfl (lv_at hl 1 rfl) ?_
      refine lv_iload hx hb dJ7_fill_d0a16_7 (lv_at hl 0 rfl) ?_
      refine xk_icmp_ge (tgt := 22) hx hb (by omega) (by omega) dJ7_fill_d0a16_9 (by decide) (fun c9 => ?_) (fun c9 => by exfalso; omega)
      exact W.vret hx hb hr (fun t ht hW => ⟨⟨f2, rfl, fun j hj => h3 j (by omega), by rw [ht]; exact hP, hD⟩, hS.F ht⟩) hS.2.2 dJ7_fill_d0a16_22
    | succ d ih =>
      intro i f2 H locs ls h1 h2 h3 hP hD hS hl
      refine lv_iload_n hx hb dJ7_fill_d0a16_6 rfl (lv_at hl 1 rfl) ?_
      refine lv_iload hx hb dJ7_fill_d0a16_7 (lv_at hl 0 rfl) ?_
      refine xk_icmp_ge (tgt := 22) hx hb (by omega) (by omega) dJ7_fill_d0a16_9 (by decide) (fun c9 => ?_) (fun c9 => ?_)
      · exact W.vret hx hb hr (fun t ht hW => ⟨⟨f2, rfl, fun j hj => h3 j (by omega), by rw [ht]; exact hP, hD⟩, hS.F ht⟩) hS.2.2 dJ7_fill_d0a16_22
      · refine lv_aload_n hx hb dJ7_fill_d0a16_12 rfl (lv_at hl 2 rfl) ?_
        refine lv_iload_n hx hb dJ7_fill_d0a16_13 rfl (lv_at hl 1 rfl) ?_
        refine lv_lload_n hx hb dJ7_fill_d0a16_14 rfl (lv_at hl 3 rfl) ?_
        refine xk_last hx hb hK hP hD hS 0 0 rfl rfl (by omega) (by omega) dJ7_fill_d0a16_15 (fun H locs hP hD hS => ?_)
        have hP : va_P D vwCl [(r, .inl (cA, n, .inr (.inl (vp_updL f2 i v))))] H := hP
        have hD : va_D A [(r, .inl (cA, n, .inr (.inl (vp_updL f2 i v))))] := hD
        refine lv_iinc (v := nI (i + 1)) (lv' := [(3, .int (nI (i + 1))), (4, .int (nI n)), (0, .ref r), (1, .long v)]) hx hb dJ7_fill_d0a16_16 hl (k := 1) rfl (xk_inc i) (by decide) rfl (fun ls hl => ?_)
        refine lv_goto (tgt := 6) hx hb dJ7_fill_d0a16_19 (by decide) ?_
        exact ih (i + 1) _ H locs ls (by omega) (by omega) (fl_J h3) hP hD hS (lv_sub hl [1, 0, 2, 3] rfl)
  refine lv_iconst (v := nI 0) hx hb dJ7_fill_d0a16_0 (by decide +kernel) ?_
  refine lv_istore_n (lv' := [(3, .int (nI 0)), (0, .ref r), (1, .long v)]) hx hb dJ7_fill_d0a16_1 rfl hl (by decide) rfl (fun ls hl => ?_)
  refine lv_aload_n hx hb dJ7_fill_d0a16_2 rfl (lv_at hl 1 rfl) ?_
  refine va_alen (v := nI n) hx hb hK hP 0 0 rfl rfl rfl dJ7_fill_d0a16_3 ?_
  refine lv_istore (lv' := [(4, .int (nI n)), (3, .int (nI 0)), (0, .ref r), (1, .long v)]) hx hb dJ7_fill_d0a16_4 hl (by decide) rfl (fun ls hl => ?_)
  exact key n 0 f s.heap [] ls (by omega) (by omega) (fun j hj => by omega) hP hD hS (lv_sub hl [0, 1, 2, 3] rfl)
set_option maxHeartbeats 4000000 in
set_option maxRecDepth 100000 in
/-- Arrays.fill: every place holds v -/
theorem c_fillI (l : Launch) (D : va_G) (r : Nat) (cA : ClassId) (n sz : Nat) (f : Nat → Int32) (v : Int32) (hn : n < 2 ^ 31) : Met l yJ7_fill_53178 wsJ7_fill_53178 ({ frames := 0, cells := 0, slots := 0, locals := 0 }) (va_Pc [.ref r, .int v] (fun U => U.heap.size = sz ∧ va_P D vwCl [(r, .inl (cA, n, .inl f))] U.heap ∧ va_K D vwCl [(cA, .int)] U ∧ va_D (fun _ => True) [(r, .inl (cA, n, .inl f))])) (va_Qv (fun f2 : Nat → Int32 => ∀ i, i < n → f2 i = v) (fun f2 t => va_P D vwCl [(r, .inl (cA, n, .inl f2))] t.heap ∧ va_D (va_A [(r, .inl (cA, n, .inl f))] sz) [(r, .inl (cA, n, .inl f2))]) (va_A [(r, .inl (cA, n, .inl f))] sz)) 0 0 (va_A [(r, .inl (cA, n, .inl f))] sz) := by
  refine Met.ofW (cc := cJ7_fill_53178) (maxL := 4) (ret := none) (by decide) rfl ?_
  intro p e s m args below meth c s₁ B9 hml hv
  obtain ⟨rfl, hsz, hP, hK, hD0⟩ := hv
  have hx := B9.exec
  have hb := B9.bytes
  have hr := B9.returns
  have hts := atoms_spec (ws := wsJ7_fill_53178) B9.pre
  have hown : s.vm.findClass RJ7 = some m.cls := findClass_of_methodNamed B9.named
  have hlocks := B9.notSynchronized
  subst hsz
  have hD := hD0.self (sz := s.heap.size)
  generalize hAe : va_A [(r, .inl (cA, n, .inl f))] s.heap.size = A at hD ⊢
  have hA : ∀ q : Nat, s.heap.size ≤ q → A q := fun q h => by rw [← hAe]; exact Or.inr h
  have hS : va_S A s.heap s.heap [] := va_S.rf
  have hl := lv_entry ([.ref r, .int v]) (n := 4) (Nat.le_of_ble_eq_true rfl)
  rw [lg_entry_eq]
  generalize (lg_sl ([.ref r, .int v]) ++ List.replicate (4 - (lg_sl ([.ref r, .int v])).length) Slot.unset).toArray = ls at hl ⊢
  have hl : lv_has ls 4 [(0, .ref r), (1, .int v)] := hl
  have key : ∀ (d i : Nat) (f2 : Nat → Int32) (H : Heap) (locs : List Loc) (ls : Array Slot), n ≤ i + d → i ≤ n → (∀ j, j < i → f2 j = v) → va_P D vwCl [(r, .inl (cA, n, .inl f2))] H → va_D A [(r, .inl (cA, n, .inl f2))] → va_S A s.heap H locs → lv_has ls 4 [(3, .int (nI n)), (2, .int (nI i)), (0, .ref r), (1, .int v)] → W p l e (headSpec wsJ7_fill_53178 ({ frames := 0, cells := 0, slots := 0, locals := 0 })).room s m ([.ref r, .int v] : List Value).toArray below meth c H locs 0 0 (MQ below (va_Qv (fun f2 : Nat → Int32 => ∀ i, i < n → f2 i = v) (fun f2 t => va_P D vwCl [(r, .inl (cA, n, .inl f2))] t.heap ∧ va_D (A) [(r, .inl (cA, n, .inl f2))]) (A)) ([.ref r, .int v] : List Value).toArray s 0 0 (A)) (F0 m 5 ls []) := by
    intro d
    induction d with
    | zero =>
      intro i f2 H locs ls h1 h2 h3 hP hD hS hl
      refine lv_iload_n hx hb dJ7_fill_53178_5 rfl (lv_at hl 1 rfl) ?_
      refine lv_iload_n hx hb dJ7_fill_53178_6 rfl (lv_at hl 0 rfl) ?_
      refine xk_icmp_ge (tgt := 20) hx hb (by omega) (by omega) dJ7_fill_53178_7 (by decide) (fun c7 => ?_) (fun c7 => by exfalso; omega)
      exact W.vret hx hb hr (fun t ht hW => ⟨⟨f2, rfl, fun j hj => h3 j (by omega), by rw [ht]; exact hP, hD⟩, hS.F ht⟩) hS.2.2 dJ7_fill_53178_20
    | succ d ih =>
      intro i f2 H locs ls h1 h2 h3 hP hD hS hl
      refine lv_iload_n hx hb dJ7_fill_53178_5 rfl (lv_at hl 1 rfl) ?_
      refine lv_iload_n hx hb dJ7_fill_53178_6 rfl (lv_at hl 0 rfl) ?_
      refine xk_icmp_ge (tgt := 20) hx hb (by omega) (by omega) dJ7_fill_53178_7 (by decide) (fun c7 => ?_) (fun c7 => ?_)
      · exact W.vret hx hb hr (fun t ht hW => ⟨⟨f2, rfl, fun j hj => h3 j (by omega), by rw [ht]; exact hP, hD⟩, hS.F ht⟩) hS.2.2 dJ7_fill_53178_20
      · refine lv_aload_n hx hb dJ7_fill_53178_10 rfl (lv_at hl 2 rfl) ?_
        refine lv_iload_n hx hb dJ7_fill_53178_11 rfl (lv_at hl 1 rfl) ?_
        refine lv_iload_n hx hb dJ7_fill_53178_12 rfl (lv_at hl 3 rfl) ?_
        refine xk_iast hx hb hK hP hD hS 0 0 rfl rfl (by omega) (by omega) dJ7_fill_53178_13 (fun H locs hP hD hS => ?_)
        have hP : va_P D vwCl [(r, .inl (cA, n, .inl (upd f2 i v)))] H := hP
        have hD : va_D A [(r, .inl (cA, n, .inl (upd f2 i v)))] := hD
        refine lv_iinc (v := nI (i + 1)) (lv' := [(2, .int (nI (i + 1))), (3, .int (nI n)), (0, .ref r), (1, .int v)]) hx hb dJ7_fill_53178_14 hl (k := 1) rfl (xk_inc i) (by decide) rfl (fun ls hl => ?_)
        refine lv_goto (tgt := 5) hx hb dJ7_fill_53178_17 (by decide) ?_
        exact ih (i + 1) _ H locs ls (by omega) (by omega) (fl_I h3) hP hD hS (lv_sub hl [1, 0, 2, 3] rfl)
  refine lv_iconst (v := nI 0) hx hb dJ7_fill_53178_0 (by decide +kernel) ?_
  refine lv_istore_n (lv' := [(2, .int (nI 0)), (0, .ref r), (1, .int v)]) hx hb dJ7_fill_53178_1 rfl hl (by decide) rfl (fun ls hl => ?_)
  refine lv_aload_n hx hb dJ7_fill_53178_2 rfl (lv_at hl 1 rfl) ?_
  refine va_alen (v := nI n) hx hb hK hP 0 0 rfl rfl rfl dJ7_fill_53178_3 ?_
  refine lv_istore_n (lv' := [(3, .int (nI n)), (2, .int (nI 0)), (0, .ref r), (1, .int v)]) hx hb dJ7_fill_53178_4 rfl hl (by decide) rfl (fun ls hl => ?_)
  exact key n 0 f s.heap [] ls (by omega) (by omega) (fun j hj => by omega) hP hD hS (lv_sub hl [0, 1, 2, 3] rfl)
