/-! the class: sound -/
theorem in_X1_objectsLieInARow_X1 : ∀ w ∈ wsX10, w ∈ wsX1_objectsLieInARow := by decide +kernel
theorem in_X1_rootsLeadToHeaders_X1 : ∀ w ∈ wsX10, w ∈ wsX1_rootsLeadToHeaders := by decide +kernel
theorem in_X1_referencesLeadToHeaders_X1 : ∀ w ∈ wsX10, w ∈ wsX1_referencesLeadToHeaders := by decide +kernel
theorem in_X1_referencesOfLeadToHeaders_X1 : ∀ w ∈ wsX10, w ∈ wsX1_referencesOfLeadToHeaders := by decide +kernel
theorem in_X1_newAddressesFollowFromBits_X1 : ∀ w ∈ wsX10, w ∈ wsX1_newAddressesFollowFromBits := by decide +kernel
theorem in_X1_sound_X1 : ∀ w ∈ wsX10, w ∈ wsX1_sound := by decide +kernel
set_option maxHeartbeats 4000000 in
set_option maxRecDepth 100000 in
/-- all roots lead to headers or are 0 -/
theorem c_rootsLeadToHeaders (l : Launch) (D : va_G) (cI cL : ClassId) (h0 : Nat) (ad : Nat → Nat) (n B nb tp ob co rd : Nat) (rts offs fnd mem frs : Nat → Int32) (btw snw stw : Nat → Int64) (hn : n ≤ 4000) (hok : okS n tp mem (bo stw) rts) : Met l yX1_rootsLeadToHeaders wsX1_rootsLeadToHeaders ({ frames := 3, cells := 0, slots := 0, locals := 90 }) (va_Pc [.ref h0] (fun U => va_P D vwCl (cW cI cL h0 ad n B nb tp ob co rd rts offs fnd mem frs btw snw stw) U.heap ∧ va_K D vwCl [(cI, .int), (cL, .long)] U)) (vp_Si (fun r9 => r9 = nI 1)) 0 0 (fun _ => False) := by
  refine Met.ofW (cc := cX1_rootsLeadToHeaders) (maxL := 2) (ret := (some .boolean)) (by decide) rfl ?_
  intro p e s m args below meth c s₁ B9 hml hv
  obtain ⟨rfl, hP, hK⟩ := hv
  have hx := B9.exec
  have hb := B9.bytes
  have hr := B9.returns
  have hts := atoms_spec (ws := wsX1_rootsLeadToHeaders) B9.pre
  have hown : s.vm.findClass RX1 = some m.cls := findClass_of_methodNamed B9.named
  have hlocks := B9.notSynchronized
  have hl := lv_entry ([.ref h0]) (n := 2) (Nat.le_of_ble_eq_true rfl)
  rw [lg_entry_eq]
  generalize (lg_sl ([.ref h0]) ++ List.replicate (2 - (lg_sl ([.ref h0])).length) Slot.unset).toArray = ls at hl ⊢
  have hl : lv_has ls 2 [(0, .ref h0)] := hl
  have htp := hok.1.2.1
  have key : ∀ (d : Nat) (i : Nat) (ls : Array Slot), 9 ≤ i + d → i ≤ 8 → lv_has ls 2 [(0, .ref h0), (1, .int (nI i))] → W p l e (headSpec wsX1_rootsLeadToHeaders ({ frames := 3, cells := 0, slots := 0, locals := 90 })).room s m ([.ref h0] : List Value).toArray below meth c s.heap [] 0 0 (MQ below (vp_Si (fun r9 => r9 = nI 1)) ([.ref h0] : List Value).toArray s 0 0 (fun _ => False)) (F0 m 2 ls []) := by
    intro d
    induction d with
    | zero =>
      intro i ls hd hi hl
      exfalso; omega
    | succ d ih =>
      intro i ls hd hi hl
      refine lv_iload_n hx hb dX1_rootsLeadToHeaders_2 rfl (lv_at hl 1 rfl) ?_
      refine lv_bipush (v := nI 8) hx hb dX1_rootsLeadToHeaders_3 (by decide +kernel) ?_
      refine xk_icmp_ge (tgt := 29) hx hb (by omega) (by omega) dX1_rootsLeadToHeaders_5 (by decide) (fun c5 => ?_) (fun c5 => ?_)
      · refine lv_iconst (v := nI 1) hx hb dX1_rootsLeadToHeaders_29 (by decide +kernel) ?_
        exact W.zret hx hb hr rfl (fun t ht hW => ⟨_, rfl, rfl, ht⟩) t_nil dX1_rootsLeadToHeaders_30
      · refine lv_aload_n hx hb dX1_rootsLeadToHeaders_8 rfl (lv_at hl 0 rfl) ?_
        refine lv_aload_n hx hb dX1_rootsLeadToHeaders_9 rfl (lv_at hl 0 rfl) ?_
        refine va_get (D := D) (ci := 1) (v := .ref (ad 1)) (C := RX1) (T := TX1) (N := 15) hx hb hts in_X1_rootsLeadToHeaders_X1 hown hK hP 0 rfl rfl 3 (by decide) (hts (.fieldLink RX1 32 "OffsetHeap" "roots" "[I") (by decide +kernel)) (fun _ h9 => h9) rfl dX1_rootsLeadToHeaders_10 ?_
        refine lv_iload_n hx hb dX1_rootsLeadToHeaders_13 rfl (lv_at hl 1 rfl) ?_
        refine xk_iald hx hb hK hP 1 0 rfl rfl (by omega) (by omega) dX1_rootsLeadToHeaders_14 ?_
        refine xk_roV (As := [.int (rts i)]) (rest := []) ⟨hx, hb, hml, hown, hts⟩ (c_isObjectOrNone l D cI cL h0 ad n B nb tp ob co rd rts offs fnd mem frs btw snw stw (rts i) hn htp) (cwV 1 hts gX1_rootsLeadToHeaders_X1_isObjectOrNone rfl rfl rfl (by decide +kernel) ⟨Nat.le_of_ble_eq_true rfl, Nat.le_of_ble_eq_true rfl⟩) (va_recv hK hP (ci := 1) (q0 := 0) rfl rfl) hP hK rfl hl.1 rfl (Nat.le_of_ble_eq_true rfl) dX1_rootsLeadToHeaders_15 ⟨Nat.zero_le _, Nat.zero_le _⟩ ?_
        refine xk_if_neB (tgt := 23) hx hb dX1_rootsLeadToHeaders_18 (by decide) (fun c18 => ?_) (fun c18 => absurd (hok.2.2.2.2.2 i (by omega)) (by rw [c18]; decide))
        refine lv_iinc (v := nI (i + 1)) (lv' := [(1, .int (nI (i + 1))), (0, .ref h0)]) hx hb dX1_rootsLeadToHeaders_23 hl (k := 1) rfl (xk_inc i) (by decide) rfl (fun ls hl => ?_)
        refine lv_goto (tgt := 2) hx hb dX1_rootsLeadToHeaders_26 (by decide) ?_
        exact ih (i + 1) ls (by omega) (by omega) (lv_sub hl [1, 0] rfl)
  refine lv_iconst (v := nI 0) hx hb dX1_rootsLeadToHeaders_0 (by decide +kernel) ?_
  refine lv_istore_n (lv' := [(1, .int (nI 0)), (0, .ref h0)]) hx hb dX1_rootsLeadToHeaders_1 rfl hl (by decide) rfl (fun ls hl => ?_)
  exact key 9 0 ls (by omega) (by omega) (lv_sub hl [1, 0] rfl)
set_option maxHeartbeats 4000000 in
set_option maxRecDepth 100000 in
/-- an object's references lead to headers or are 0 -/
theorem c_referencesOfLeadToHeaders (l : Launch) (D : va_G) (cI cL : ClassId) (h0 : Nat) (ad : Nat → Nat) (n B nb tp ob co rd : Nat) (rts offs fnd mem frs : Nat → Int32) (btw snw stw : Nat → Int64) (hn : n ≤ 4000) (hok : okS n tp mem (bo stw) rts) (o : Nat) (h1 : 1 ≤ o) (h2 : o < tp) (h3 : bo stw o = true) : Met l yX1_referencesOfLeadToHeaders wsX1_referencesOfLeadToHeaders ({ frames := 3, cells := 0, slots := 0, locals := 90 }) (va_Pc [.ref h0, .int (nI o)] (fun U => va_P D vwCl (cW cI cL h0 ad n B nb tp ob co rd rts offs fnd mem frs btw snw stw) U.heap ∧ va_K D vwCl [(cI, .int), (cL, .long)] U)) (vp_Si (fun r9 => r9 = nI 1)) 0 0 (fun _ => False) := by
  refine Met.ofW (cc := cX1_referencesOfLeadToHeaders) (maxL := 4) (ret := (some .boolean)) (by decide) rfl ?_
  intro p e s m args below meth c s₁ B9 hml hv
  obtain ⟨rfl, hP, hK⟩ := hv
  have hx := B9.exec
  have hb := B9.bytes
  have hr := B9.returns
  have hts := atoms_spec (ws := wsX1_referencesOfLeadToHeaders) B9.pre
  have hown : s.vm.findClass RX1 = some m.cls := findClass_of_methodNamed B9.named
  have hlocks := B9.notSynchronized
  have hl := lv_entry ([.ref h0, .int (nI o)]) (n := 4) (Nat.le_of_ble_eq_true rfl)
  rw [lg_entry_eq]
  generalize (lg_sl ([.ref h0, .int (nI o)]) ++ List.replicate (4 - (lg_sl ([.ref h0, .int (nI o)])).length) Slot.unset).toArray = ls at hl ⊢
  have hl : lv_has ls 4 [(0, .ref h0), (1, .int (nI o))] := hl
  have htp := hok.1.2.1
  have hh := hok.hdr h1 h2 h3
  have hs := hok.hsm h1 h2 h3
  have hf := hok.fit h1 h2 h3
  unfold siz at hf
  have key : ∀ (d : Nat) (i : Nat) (ls : Array Slot), tn (mem o) / 16 % 16 + 1 ≤ i + d → i ≤ tn (mem o) / 16 % 16 → lv_has ls 4 [(0, .ref h0), (1, .int (nI o)), (2, .int (nI (tn (mem o) / 16 % 16))), (3, .int (nI i))] → W p l e (headSpec wsX1_referencesOfLeadToHeaders ({ frames := 3, cells := 0, slots := 0, locals := 90 })).room s m ([.ref h0, .int (nI o)] : List Value).toArray below meth c s.heap [] 0 0 (MQ below (vp_Si (fun r9 => r9 = nI 1)) ([.ref h0, .int (nI o)] : List Value).toArray s 0 0 (fun _ => False)) (F0 m 12 ls []) := by
    intro d
    induction d with
    | zero =>
      intro i ls hd hi hl
      exfalso; omega
    | succ d ih =>
      intro i ls hd hi hl
      refine lv_iload_n hx hb dX1_referencesOfLeadToHeaders_12 rfl (lv_at hl 3 rfl) ?_
      refine lv_iload_n hx hb dX1_referencesOfLeadToHeaders_13 rfl (lv_at hl 2 rfl) ?_
      refine xk_icmp_ge (tgt := 42) hx hb (by omega) (by omega) dX1_referencesOfLeadToHeaders_14 (by decide) (fun c14 => ?_) (fun c14 => ?_)
      · refine lv_iconst (v := nI 1) hx hb dX1_referencesOfLeadToHeaders_42 (by decide +kernel) ?_
        exact W.zret hx hb hr rfl (fun t ht hW => ⟨_, rfl, rfl, ht⟩) t_nil dX1_referencesOfLeadToHeaders_43
      · refine lv_aload_n hx hb dX1_referencesOfLeadToHeaders_17 rfl (lv_at hl 0 rfl) ?_
        refine lv_aload_n hx hb dX1_referencesOfLeadToHeaders_18 rfl (lv_at hl 0 rfl) ?_
        refine va_get (D := D) (ci := 1) (v := .ref (ad 8)) (C := RX1) (T := TX1) (N := 15) hx hb hts in_X1_referencesOfLeadToHeaders_X1 hown hK hP 0 rfl rfl 9 (by decide) (hts (.fieldLink RX1 57 "OffsetHeap" "space" "[I") (by decide +kernel)) (fun _ h9 => h9) rfl dX1_referencesOfLeadToHeaders_19 ?_
        refine lv_iload_n hx hb dX1_referencesOfLeadToHeaders_22 rfl (lv_at hl 1 rfl) ?_
        refine lv_iconst (v := nI 1) hx hb dX1_referencesOfLeadToHeaders_23 (by decide +kernel) ?_
        refine lv_iadd hx hb dX1_referencesOfLeadToHeaders_24 ?_
        refine xk_top (nI_add _ _) ?_
        refine lv_iload_n hx hb dX1_referencesOfLeadToHeaders_25 rfl (lv_at hl 3 rfl) ?_
        refine lv_iadd hx hb dX1_referencesOfLeadToHeaders_26 ?_
        refine xk_top (nI_add _ _) ?_
        refine xk_iald hx hb hK hP 8 0 rfl rfl (by omega) (by omega) dX1_referencesOfLeadToHeaders_27 ?_
        refine xk_roV (As := [.int (mem ((o + 1) + i))]) (rest := []) ⟨hx, hb, hml, hown, hts⟩ (c_isObjectOrNone l D cI cL h0 ad n B nb tp ob co rd rts offs fnd mem frs btw snw stw (mem ((o + 1) + i)) hn htp) (cwV 1 hts gX1_referencesOfLeadToHeaders_X1_isObjectOrNone rfl rfl rfl (by decide +kernel) ⟨Nat.le_of_ble_eq_true rfl, Nat.le_of_ble_eq_true rfl⟩) (va_recv hK hP (ci := 1) (q0 := 0) rfl rfl) hP hK rfl hl.1 rfl (Nat.le_of_ble_eq_true rfl) dX1_referencesOfLeadToHeaders_28 ⟨Nat.zero_le _, Nat.zero_le _⟩ ?_
        refine xk_if_neB (tgt := 36) hx hb dX1_referencesOfLeadToHeaders_31 (by decide) (fun c31 => ?_) (fun c31 => absurd (hok.ref h1 h2 h3 (k := i) (by unfold rfs; omega)) (by rw [c31]; decide))
        refine lv_iinc (v := nI (i + 1)) (lv' := [(3, .int (nI (i + 1))), (0, .ref h0), (1, .int (nI o)), (2, .int (nI (tn (mem o) / 16 % 16)))]) hx hb dX1_referencesOfLeadToHeaders_36 hl (k := 3) rfl (xk_inc i) (by decide) rfl (fun ls hl => ?_)
        refine lv_goto (tgt := 12) hx hb dX1_referencesOfLeadToHeaders_39 (by decide) ?_
        exact ih (i + 1) ls (by omega) (by omega) (lv_sub hl [1, 2, 3, 0] rfl)
  refine lv_aload_n hx hb dX1_referencesOfLeadToHeaders_0 rfl (lv_at hl 0 rfl) ?_
  refine va_get (D := D) (ci := 1) (v := .ref (ad 8)) (C := RX1) (T := TX1) (N := 15) hx hb hts in_X1_referencesOfLeadToHeaders_X1 hown hK hP 0 rfl rfl 9 (by decide) (hts (.fieldLink RX1 57 "OffsetHeap" "space" "[I") (by decide +kernel)) (fun _ h9 => h9) rfl dX1_referencesOfLeadToHeaders_1 ?_
  refine lv_iload_n hx hb dX1_referencesOfLeadToHeaders_4 rfl (lv_at hl 1 rfl) ?_
  refine xk_iald hx hb hK hP 8 0 rfl rfl (by omega) (by omega) dX1_referencesOfLeadToHeaders_5 ?_
  refine xk_top hh ?_
  refine xk_roS (As := [.int (nI (tn (mem o)))]) (rest := []) ⟨hx, hb, hml, hown, hts⟩ (c_referencesBy l (tn (mem o)) (by omega)) (va_cwS 1 hts gX1_referencesOfLeadToHeaders_X1_referencesBy rfl rfl rfl (by decide +kernel) ⟨Nat.le_of_ble_eq_true rfl, Nat.le_of_ble_eq_true rfl⟩) rfl hl.1 rfl (Nat.le_of_ble_eq_true rfl) dX1_referencesOfLeadToHeaders_6 ⟨Nat.zero_le _, Nat.zero_le _⟩ ?_
  refine lv_istore_n (lv' := [(2, .int (nI ((tn (mem o)) / 16 % 16))), (0, .ref h0), (1, .int (nI o))]) hx hb dX1_referencesOfLeadToHeaders_9 rfl hl (by decide) rfl (fun ls hl => ?_)
  refine lv_iconst (v := nI 0) hx hb dX1_referencesOfLeadToHeaders_10 (by decide +kernel) ?_
  refine lv_istore_n (lv' := [(3, .int (nI 0)), (2, .int (nI ((tn (mem o)) / 16 % 16))), (0, .ref h0), (1, .int (nI o))]) hx hb dX1_referencesOfLeadToHeaders_11 rfl hl (by decide) rfl (fun ls hl => ?_)
  exact key 17 0 ls (by omega) (by omega) (lv_sub hl [2, 3, 1, 0] rfl)
set_option maxHeartbeats 4000000 in
set_option maxRecDepth 100000 in
/-- all references lead to headers or are 0 -/
theorem c_referencesLeadToHeaders (l : Launch) (D : va_G) (cI cL : ClassId) (h0 : Nat) (ad : Nat → Nat) (n B nb tp ob co rd : Nat) (rts offs fnd mem frs : Nat → Int32) (btw snw stw : Nat → Int64) (hn : n ≤ 4000) (hok : okS n tp mem (bo stw) rts) : Met l yX1_referencesLeadToHeaders wsX1_referencesLeadToHeaders ({ frames := 4, cells := 0, slots := 0, locals := 120 }) (va_Pc [.ref h0] (fun U => va_P D vwCl (cW cI cL h0 ad n B nb tp ob co rd rts offs fnd mem frs btw snw stw) U.heap ∧ va_K D vwCl [(cI, .int), (cL, .long)] U)) (vp_Si (fun r9 => r9 = nI 1)) 0 0 (fun _ => False) := by
  refine Met.ofW (cc := cX1_referencesLeadToHeaders) (maxL := 2) (ret := (some .boolean)) (by decide) rfl ?_
  intro p e s m args below meth c s₁ B9 hml hv
  obtain ⟨rfl, hP, hK⟩ := hv
  have hx := B9.exec
  have hb := B9.bytes
  have hr := B9.returns
  have hts := atoms_spec (ws := wsX1_referencesLeadToHeaders) B9.pre
  have hown : s.vm.findClass RX1 = some m.cls := findClass_of_methodNamed B9.named
  have hlocks := B9.notSynchronized
  have hl := lv_entry ([.ref h0]) (n := 2) (Nat.le_of_ble_eq_true rfl)
  rw [lg_entry_eq]
  generalize (lg_sl ([.ref h0]) ++ List.replicate (2 - (lg_sl ([.ref h0])).length) Slot.unset).toArray = ls at hl ⊢
  have hl : lv_has ls 2 [(0, .ref h0)] := hl
  have htp := hok.1.2.1
  have htp1 := hok.1.1
  have key : ∀ (d : Nat) (i : Nat) (ls : Array Slot), tp + 1 ≤ i + d → i ≤ tp → 1 ≤ i → lv_has ls 2 [(0, .ref h0), (1, .int (nI i))] → W p l e (headSpec wsX1_referencesLeadToHeaders ({ frames := 4, cells := 0, slots := 0, locals := 120 })).room s m ([.ref h0] : List Value).toArray below meth c s.heap [] 0 0 (MQ below (vp_Si (fun r9 => r9 = nI 1)) ([.ref h0] : List Value).toArray s 0 0 (fun _ => False)) (F0 m 2 ls []) := by
    intro d
    induction d with
    | zero =>
      intro i ls hd hi h1 hl
      exfalso; omega
    | succ d ih =>
      intro i ls hd hi h1 hl
      refine lv_iload_n hx hb dX1_referencesLeadToHeaders_2 rfl (lv_at hl 1 rfl) ?_
      refine lv_aload_n hx hb dX1_referencesLeadToHeaders_3 rfl (lv_at hl 0 rfl) ?_
      refine va_get (D := D) (ci := 1) (v := .int (nI tp)) (C := RX1) (T := TX1) (N := 15) hx hb hts in_X1_referencesLeadToHeaders_X1 hown hK hP 0 rfl rfl 11 (by decide) (hts (.fieldLink RX1 63 "OffsetHeap" "top" "I") (by decide +kernel)) (fun _ h9 => h9) rfl dX1_referencesLeadToHeaders_4 ?_
      refine xk_icmp_ge (tgt := 37) hx hb (by omega) (by omega) dX1_referencesLeadToHeaders_7 (by decide) (fun c7 => ?_) (fun c7 => ?_)
      · refine lv_iconst (v := nI 1) hx hb dX1_referencesLeadToHeaders_37 (by decide +kernel) ?_
        exact W.zret hx hb hr rfl (fun t ht hW => ⟨_, rfl, rfl, ht⟩) t_nil dX1_referencesLeadToHeaders_38
      · refine lv_aload_n hx hb dX1_referencesLeadToHeaders_10 rfl (lv_at hl 0 rfl) ?_
        refine va_get (D := D) (ci := 1) (v := .ref (ad 10)) (C := RX1) (T := TX1) (N := 15) hx hb hts in_X1_referencesLeadToHeaders_X1 hown hK hP 0 rfl rfl 8 (by decide) (hts (.fieldLink RX1 54 "OffsetHeap" "starts" "LOffsetHeap$BitRow;") (by decide +kernel)) (fun _ h9 => h9) rfl dX1_referencesLeadToHeaders_11 ?_
        refine lv_iload_n hx hb dX1_referencesLeadToHeaders_14 rfl (lv_at hl 1 rfl) ?_
        refine xk_roV (As := [.int (nI i)]) (rest := []) ⟨hx, hb, hml, hown, hts⟩ (c_has l D cL (ad 10) (ad 11) (n / 64 + 1) stw (by omega) i (by omega) (by omega)) (cwV 1 hts gX1_referencesLeadToHeaders_X0_has rfl rfl rfl (by decide +kernel) ⟨Nat.le_of_ble_eq_true rfl, Nat.le_of_ble_eq_true rfl⟩) (va_recv hK hP (ci := 0) (q0 := 10) rfl rfl) (hP.sub [10, 11] rfl) (hK.sub [1] rfl) rfl hl.1 rfl (Nat.le_of_ble_eq_true rfl) dX1_referencesLeadToHeaders_15 ⟨Nat.zero_le _, Nat.zero_le _⟩ ?_
        refine xk_if_eqB (tgt := 31) hx hb dX1_referencesLeadToHeaders_18 (by decide) (fun c18 => ?_) (fun c18 => ?_)
        · refine lv_iinc (v := nI (i + 1)) (lv' := [(1, .int (nI (i + 1))), (0, .ref h0)]) hx hb dX1_referencesLeadToHeaders_31 hl (k := 1) rfl (xk_inc i) (by decide) rfl (fun ls hl => ?_)
          refine lv_goto (tgt := 2) hx hb dX1_referencesLeadToHeaders_34 (by decide) ?_
          exact ih (i + 1) ls (by omega) (by omega) (by omega) (lv_sub hl [1, 0] rfl)
        · refine lv_aload_n hx hb dX1_referencesLeadToHeaders_21 rfl (lv_at hl 0 rfl) ?_
          refine lv_iload_n hx hb dX1_referencesLeadToHeaders_22 rfl (lv_at hl 1 rfl) ?_
          refine xk_roV (As := [.int (nI i)]) (rest := []) ⟨hx, hb, hml, hown, hts⟩ (c_referencesOfLeadToHeaders l D cI cL h0 ad n B nb tp ob co rd rts offs fnd mem frs btw snw stw hn hok i (by omega) (by omega) c18) (cwV 1 hts gX1_referencesLeadToHeaders_X1_referencesOfLeadToHeaders rfl rfl rfl (by decide +kernel) ⟨Nat.le_of_ble_eq_true rfl, Nat.le_of_ble_eq_true rfl⟩) (va_recv hK hP (ci := 1) (q0 := 0) rfl rfl) hP hK rfl hl.1 rfl (Nat.le_of_ble_eq_true rfl) dX1_referencesLeadToHeaders_23 ⟨Nat.zero_le _, Nat.zero_le _⟩ ?_
          refine xk_if_ne (tgt := 31) hx hb (by omega) dX1_referencesLeadToHeaders_26 (by decide) (fun c26 => ?_) (fun c26 => by exfalso; omega)
          refine lv_iinc (v := nI (i + 1)) (lv' := [(1, .int (nI (i + 1))), (0, .ref h0)]) hx hb dX1_referencesLeadToHeaders_31 hl (k := 1) rfl (xk_inc i) (by decide) rfl (fun ls hl => ?_)
          refine lv_goto (tgt := 2) hx hb dX1_referencesLeadToHeaders_34 (by decide) ?_
          exact ih (i + 1) ls (by omega) (by omega) (by omega) (lv_sub hl [1, 0] rfl)
  refine lv_iconst (v := nI 1) hx hb dX1_referencesLeadToHeaders_0 (by decide +kernel) ?_
  refine lv_istore_n (lv' := [(1, .int (nI 1)), (0, .ref h0)]) hx hb dX1_referencesLeadToHeaders_1 rfl hl (by decide) rfl (fun ls hl => ?_)
  exact key tp 1 ls (by omega) (by omega) (by omega) (lv_sub hl [1, 0] rfl)
set_option maxHeartbeats 4000000 in
set_option maxRecDepth 100000 in
/-- objects lie one behind the other -/
theorem c_objectsLieInARow (l : Launch) (D : va_G) (cI cL : ClassId) (h0 : Nat) (ad : Nat → Nat) (n B nb tp ob co rd : Nat) (rts offs fnd mem frs : Nat → Int32) (btw snw stw : Nat → Int64) (hn : n ≤ 4000) (hok : okS n tp mem (bo stw) rts) : Met l yX1_objectsLieInARow wsX1_objectsLieInARow ({ frames := 2, cells := 0, slots := 0, locals := 60 }) (va_Pc [.ref h0] (fun U => va_P D vwCl (cW cI cL h0 ad n B nb tp ob co rd rts offs fnd mem frs btw snw stw) U.heap ∧ va_K D vwCl [(cI, .int), (cL, .long)] U)) (vp_Si (fun r9 => r9 = nI 1)) 0 0 (fun _ => False) := by
  refine Met.ofW (cc := cX1_objectsLieInARow) (maxL := 3) (ret := (some .boolean)) (by decide) rfl ?_
  intro p e s m args below meth c s₁ B9 hml hv
  obtain ⟨rfl, hP, hK⟩ := hv
  have hx := B9.exec
  have hb := B9.bytes
  have hr := B9.returns
  have hts := atoms_spec (ws := wsX1_objectsLieInARow) B9.pre
  have hown : s.vm.findClass RX1 = some m.cls := findClass_of_methodNamed B9.named
  have hlocks := B9.notSynchronized
  have hl := lv_entry ([.ref h0]) (n := 3) (Nat.le_of_ble_eq_true rfl)
  rw [lg_entry_eq]
  generalize (lg_sl ([.ref h0]) ++ List.replicate (3 - (lg_sl ([.ref h0])).length) Slot.unset).toArray = ls at hl ⊢
  have hl : lv_has ls 3 [(0, .ref h0)] := hl
  have htp := hok.1.2.1
  have htp1 := hok.1.1
  have key : ∀ (d : Nat) (x i : Nat) (ls : Array Slot), tp + 1 ≤ i + d → 1 ≤ i → i ≤ x → x ≤ tp → (x < tp → bo stw x = true) → (∀ j, i ≤ j → j < x → bo stw j = false) → lv_has ls 3 [(0, .ref h0), (1, .int (nI x)), (2, .int (nI i))] → W p l e (headSpec wsX1_objectsLieInARow ({ frames := 2, cells := 0, slots := 0, locals := 60 })).room s m ([.ref h0] : List Value).toArray below meth c s.heap [] 0 0 (MQ below (vp_Si (fun r9 => r9 = nI 1)) ([.ref h0] : List Value).toArray s 0 0 (fun _ => False)) (F0 m 4 ls []) := by
    intro d
    induction d with
    | zero =>
      intro x i ls hd hi h1 h2 h3 h4 hl
      exfalso; omega
    | succ d ih =>
      intro x i ls hd hi h1 h2 h3 h4 hl
      refine lv_iload_n hx hb dX1_objectsLieInARow_4 rfl (lv_at hl 2 rfl) ?_
      refine lv_aload_n hx hb dX1_objectsLieInARow_5 rfl (lv_at hl 0 rfl) ?_
      refine va_get (D := D) (ci := 1) (v := .int (nI tp)) (C := RX1) (T := TX1) (N := 15) hx hb hts in_X1_objectsLieInARow_X1 hown hK hP 0 rfl rfl 11 (by decide) (hts (.fieldLink RX1 63 "OffsetHeap" "top" "I") (by decide +kernel)) (fun _ h9 => h9) rfl dX1_objectsLieInARow_6 ?_
      refine xk_icmp_ge (tgt := 58) hx hb (by omega) (by omega) dX1_objectsLieInARow_9 (by decide) (fun c9 => ?_) (fun c9 => ?_)
      · refine lv_iload_n hx hb dX1_objectsLieInARow_58 rfl (lv_at hl 1 rfl) ?_
        refine lv_aload_n hx hb dX1_objectsLieInARow_59 rfl (lv_at hl 0 rfl) ?_
        refine va_get (D := D) (ci := 1) (v := .int (nI tp)) (C := RX1) (T := TX1) (N := 15) hx hb hts in_X1_objectsLieInARow_X1 hown hK hP 0 rfl rfl 11 (by decide) (hts (.fieldLink RX1 63 "OffsetHeap" "top" "I") (by decide +kernel)) (fun _ h9 => h9) rfl dX1_objectsLieInARow_60 ?_
        refine xk_icmp_ne (tgt := 70) hx hb (by omega) (by omega) dX1_objectsLieInARow_63 (by decide) (fun c63 => by exfalso; omega) (fun c63 => ?_)
        refine lv_iconst (v := nI 1) hx hb dX1_objectsLieInARow_66 (by decide +kernel) ?_
        refine lv_goto (tgt := 71) hx hb dX1_objectsLieInARow_67 (by decide) ?_
        exact W.zret hx hb hr rfl (fun t ht hW => ⟨_, rfl, rfl, ht⟩) t_nil dX1_objectsLieInARow_71
      · refine lv_aload_n hx hb dX1_objectsLieInARow_12 rfl (lv_at hl 0 rfl) ?_
        refine va_get (D := D) (ci := 1) (v := .ref (ad 10)) (C := RX1) (T := TX1) (N := 15) hx hb hts in_X1_objectsLieInARow_X1 hown hK hP 0 rfl rfl 8 (by decide) (hts (.fieldLink RX1 54 "OffsetHeap" "starts" "LOffsetHeap$BitRow;") (by decide +kernel)) (fun _ h9 => h9) rfl dX1_objectsLieInARow_13 ?_
        refine lv_iload_n hx hb dX1_objectsLieInARow_16 rfl (lv_at hl 2 rfl) ?_
        refine xk_roV (As := [.int (nI i)]) (rest := []) ⟨hx, hb, hml, hown, hts⟩ (c_has l D cL (ad 10) (ad 11) (n / 64 + 1) stw (by omega) i (by omega) (by omega)) (cwV 1 hts gX1_objectsLieInARow_X0_has rfl rfl rfl (by decide +kernel) ⟨Nat.le_of_ble_eq_true rfl, Nat.le_of_ble_eq_true rfl⟩) (va_recv hK hP (ci := 0) (q0 := 10) rfl rfl) (hP.sub [10, 11] rfl) (hK.sub [1] rfl) rfl hl.1 rfl (Nat.le_of_ble_eq_true rfl) dX1_objectsLieInARow_17 ⟨Nat.zero_le _, Nat.zero_le _⟩ ?_
        refine lv_iload_n hx hb dX1_objectsLieInARow_20 rfl (lv_at hl 2 rfl) ?_
        refine lv_iload_n hx hb dX1_objectsLieInARow_21 rfl (lv_at hl 1 rfl) ?_
        refine xk_icmp_ne (tgt := 29) hx hb (by omega) (by omega) dX1_objectsLieInARow_22 (by decide) (fun c22 => ?_) (fun c22 => ?_)
        · refine lv_iconst (v := nI 0) hx hb dX1_objectsLieInARow_29 (by decide +kernel) ?_
          refine lv_icmp_eq (tgt := 35) hx hb dX1_objectsLieInARow_30 (by decide) (fun c30 => ?_) (fun c30 => absurd (show bI (bo stw i) = nI 0 by rw [h4 i (by omega) (by omega)]; rfl) c30)
          refine lv_iload_n hx hb dX1_objectsLieInARow_35 rfl (lv_at hl 2 rfl) ?_
          refine lv_iload_n hx hb dX1_objectsLieInARow_36 rfl (lv_at hl 1 rfl) ?_
          refine xk_icmp_ne (tgt := 52) hx hb (by omega) (by omega) dX1_objectsLieInARow_37 (by decide) (fun c37 => ?_) (fun c37 => absurd c37 c22)
          refine lv_iinc (v := nI (i + 1)) (lv' := [(2, .int (nI (i + 1))), (0, .ref h0), (1, .int (nI x))]) hx hb dX1_objectsLieInARow_52 hl (k := 2) rfl (xk_inc i) (by decide) rfl (fun ls hl => ?_)
          refine lv_goto (tgt := 4) hx hb dX1_objectsLieInARow_55 (by decide) ?_
          exact ih x (i + 1) ls (by omega) (by omega) (by omega) (by omega) h3 (fun j j1 j2 => h4 j (by omega) j2) (lv_sub hl [1, 2, 0] rfl)
        · refine lv_iconst (v := nI 1) hx hb dX1_objectsLieInARow_25 (by decide +kernel) ?_
          refine lv_goto (tgt := 30) hx hb dX1_objectsLieInARow_26 (by decide) ?_
          refine lv_icmp_eq (tgt := 35) hx hb dX1_objectsLieInARow_30 (by decide) (fun c30 => ?_) (fun c30 => absurd (show bI (bo stw i) = nI 1 by rw [c22, h3 (by omega)]; rfl) c30)
          refine lv_iload_n hx hb dX1_objectsLieInARow_35 rfl (lv_at hl 2 rfl) ?_
          refine lv_iload_n hx hb dX1_objectsLieInARow_36 rfl (lv_at hl 1 rfl) ?_
          refine xk_icmp_ne (tgt := 52) hx hb (by omega) (by omega) dX1_objectsLieInARow_37 (by decide) (fun c37 => absurd c22 c37) (fun c37 => ?_)
          refine lv_iload_n hx hb dX1_objectsLieInARow_40 rfl (lv_at hl 2 rfl) ?_
          refine lv_aload_n hx hb dX1_objectsLieInARow_41 rfl (lv_at hl 0 rfl) ?_
          refine va_get (D := D) (ci := 1) (v := .ref (ad 8)) (C := RX1) (T := TX1) (N := 15) hx hb hts in_X1_objectsLieInARow_X1 hown hK hP 0 rfl rfl 9 (by decide) (hts (.fieldLink RX1 57 "OffsetHeap" "space" "[I") (by decide +kernel)) (fun _ h9 => h9) rfl dX1_objectsLieInARow_42 ?_
          refine lv_iload_n hx hb dX1_objectsLieInARow_45 rfl (lv_at hl 2 rfl) ?_
          refine xk_iald hx hb hK hP 8 0 rfl rfl (by omega) (by omega) dX1_objectsLieInARow_46 ?_
          refine xk_top (hok.hdr (by omega) (by omega) (by rw [c22]; exact h3 (by omega))) ?_
          have q1 : bo stw i = true := by rw [c22]; exact h3 (by omega)
          have q2 := hok.hsm (by omega) (by omega) q1
          have q3 := hok.fit (by omega) (by omega) q1
          have q4 := siz_pos mem i
          refine xk_roS (As := [.int (nI (tn (mem i)))]) (rest := [.int (nI i)]) ⟨hx, hb, hml, hown, hts⟩ (c_sizeBy l (tn (mem i)) (by omega)) (va_cwS 1 hts gX1_objectsLieInARow_X1_sizeBy rfl rfl rfl (by decide +kernel) ⟨Nat.le_of_ble_eq_true rfl, Nat.le_of_ble_eq_true rfl⟩) rfl hl.1 rfl (Nat.le_of_ble_eq_true rfl) dX1_objectsLieInARow_47 ⟨Nat.zero_le _, Nat.zero_le _⟩ ?_
          refine lv_iadd hx hb dX1_objectsLieInARow_50 ?_
          refine xk_top (nI_add _ _) ?_
          refine lv_istore_n (lv' := [(1, .int (nI (i + (1 + (tn (mem i)) / 16 % 16 + (tn (mem i)) / 256)))), (0, .ref h0), (2, .int (nI i))]) hx hb dX1_objectsLieInARow_51 rfl hl (by decide) rfl (fun ls hl => ?_)
          refine lv_iinc (v := nI (i + 1)) (lv' := [(2, .int (nI (i + 1))), (1, .int (nI (i + (1 + (tn (mem i)) / 16 % 16 + (tn (mem i)) / 256)))), (0, .ref h0)]) hx hb dX1_objectsLieInARow_52 hl (k := 2) rfl (xk_inc i) (by decide) rfl (fun ls hl => ?_)
          refine lv_goto (tgt := 4) hx hb dX1_objectsLieInARow_55 (by decide) ?_
          exact ih (i + siz mem i) (i + 1) ls (by omega) (by omega) (by omega) (by omega) (hok.next (by omega) (by omega) q1) (fun j j1 j2 => hok.gap (by omega) (by omega) q1 (by omega) j2) (lv_sub hl [2, 1, 0] rfl)
  refine lv_iconst (v := nI 1) hx hb dX1_objectsLieInARow_0 (by decide +kernel) ?_
  refine lv_istore_n (lv' := [(1, .int (nI 1)), (0, .ref h0)]) hx hb dX1_objectsLieInARow_1 rfl hl (by decide) rfl (fun ls hl => ?_)
  refine lv_iconst (v := nI 1) hx hb dX1_objectsLieInARow_2 (by decide +kernel) ?_
  refine lv_istore_n (lv' := [(2, .int (nI 1)), (1, .int (nI 1)), (0, .ref h0)]) hx hb dX1_objectsLieInARow_3 rfl hl (by decide) rfl (fun ls hl => ?_)
  exact key tp 1 1 ls (by omega) (by omega) (by omega) (by omega) hok.2.1 (fun j j1 j2 => by omega) (lv_sub hl [2, 1, 0] rfl)
set_option maxHeartbeats 4000000 in
set_option maxRecDepth 100000 in
/-- new addresses follow from bits -/
theorem c_newAddressesFollowFromBits (l : Launch) (D : va_G) (cI cL : ClassId) (h0 : Nat) (ad : Nat → Nat) (n B nb tp ob co rd : Nat) (rts offs fnd mem frs : Nat → Int32) (btw snw stw : Nat → Int64) (hn : n ≤ 4000) (hB : okB B) (hnb : nb = n / B + 1) (hof : offOk B nb offs (bo btw)) : Met l yX1_newAddressesFollowFromBits wsX1_newAddressesFollowFromBits ({ frames := 3, cells := 0, slots := 0, locals := 90 }) (va_Pc [.ref h0] (fun U => va_P D vwCl (cW cI cL h0 ad n B nb tp ob co rd rts offs fnd mem frs btw snw stw) U.heap ∧ va_K D vwCl [(cI, .int), (cL, .long)] U)) (vp_Si (fun r9 => r9 = nI 1)) 0 0 (fun _ => False) := by
  refine Met.ofW (cc := cX1_newAddressesFollowFromBits) (maxL := 3) (ret := (some .boolean)) (by decide) rfl ?_
  intro p e s m args below meth c s₁ B9 hml hv
  obtain ⟨rfl, hP, hK⟩ := hv
  have hx := B9.exec
  have hb := B9.bytes
  have hr := B9.returns
  have hts := atoms_spec (ws := wsX1_newAddressesFollowFromBits) B9.pre
  have hown : s.vm.findClass RX1 = some m.cls := findClass_of_methodNamed B9.named
  have hlocks := B9.notSynchronized
  have hl := lv_entry ([.ref h0]) (n := 3) (Nat.le_of_ble_eq_true rfl)
  rw [lg_entry_eq]
  generalize (lg_sl ([.ref h0]) ++ List.replicate (3 - (lg_sl ([.ref h0])).length) Slot.unset).toArray = ls at hl ⊢
  have hl : lv_has ls 3 [(0, .ref h0)] := hl
  have key : ∀ (d : Nat) (i : Nat) (ls : Array Slot), n + 2 ≤ i + d → i ≤ n + 1 → lv_has ls 3 [(0, .ref h0), (1, .int (nI (cn (bo btw) i))), (2, .int (nI i))] → W p l e (headSpec wsX1_newAddressesFollowFromBits ({ frames := 3, cells := 0, slots := 0, locals := 90 })).room s m ([.ref h0] : List Value).toArray below meth c s.heap [] 0 0 (MQ below (vp_Si (fun r9 => r9 = nI 1)) ([.ref h0] : List Value).toArray s 0 0 (fun _ => False)) (F0 m 4 ls []) := by
    intro d
    induction d with
    | zero =>
      intro i ls hd hi hl
      exfalso; omega
    | succ d ih =>
      intro i ls hd hi hl
      have q1 := cn_le (bo btw) i
      refine lv_iload_n hx hb dX1_newAddressesFollowFromBits_4 rfl (lv_at hl 2 rfl) ?_
      refine lv_aload_n hx hb dX1_newAddressesFollowFromBits_5 rfl (lv_at hl 0 rfl) ?_
      refine va_get (D := D) (ci := 1) (v := .int (nI n)) (C := RX1) (T := TX1) (N := 15) hx hb hts in_X1_newAddressesFollowFromBits_X1 hown hK hP 0 rfl rfl 0 (by decide) (hts (.fieldLink RX1 18 "OffsetHeap" "last" "I") (by decide +kernel)) (fun _ h9 => h9) rfl dX1_newAddressesFollowFromBits_6 ?_
      refine xk_icmp_gt (tgt := 45) hx hb (by omega) (by omega) dX1_newAddressesFollowFromBits_9 (by decide) (fun c9 => ?_) (fun c9 => ?_)
      · refine lv_iconst (v := nI 1) hx hb dX1_newAddressesFollowFromBits_45 (by decide +kernel) ?_
        exact W.zret hx hb hr rfl (fun t ht hW => ⟨_, rfl, rfl, ht⟩) t_nil dX1_newAddressesFollowFromBits_46
      · refine lv_aload_n hx hb dX1_newAddressesFollowFromBits_12 rfl (lv_at hl 0 rfl) ?_
        refine va_get (D := D) (ci := 1) (v := .ref (ad 2)) (C := RX1) (T := TX1) (N := 15) hx hb hts in_X1_newAddressesFollowFromBits_X1 hown hK hP 0 rfl rfl 4 (by decide) (hts (.fieldLink RX1 41 "OffsetHeap" "bits" "LOffsetHeap$BitRow;") (by decide +kernel)) (fun _ h9 => h9) rfl dX1_newAddressesFollowFromBits_13 ?_
        refine lv_iload_n hx hb dX1_newAddressesFollowFromBits_16 rfl (lv_at hl 2 rfl) ?_
        refine xk_roV (As := [.int (nI i)]) (rest := []) ⟨hx, hb, hml, hown, hts⟩ (c_has l D cL (ad 2) (ad 3) (n / 64 + 1) btw (by omega) i (by omega) (by omega)) (cwV 1 hts gX1_newAddressesFollowFromBits_X0_has rfl rfl rfl (by decide +kernel) ⟨Nat.le_of_ble_eq_true rfl, Nat.le_of_ble_eq_true rfl⟩) (va_recv hK hP (ci := 0) (q0 := 2) rfl rfl) (hP.sub [2, 3] rfl) (hK.sub [1] rfl) rfl hl.1 rfl (Nat.le_of_ble_eq_true rfl) dX1_newAddressesFollowFromBits_17 ⟨Nat.zero_le _, Nat.zero_le _⟩ ?_
        refine xk_if_eqB (tgt := 39) hx hb dX1_newAddressesFollowFromBits_20 (by decide) (fun c20 => ?_) (fun c20 => ?_)
        · refine lv_iinc (v := nI (i + 1)) (lv' := [(2, .int (nI (i + 1))), (0, .ref h0), (1, .int (nI (cn (bo btw) i)))]) hx hb dX1_newAddressesFollowFromBits_39 hl (k := 2) rfl (xk_inc i) (by decide) rfl (fun ls hl => ?_)
          refine lv_goto (tgt := 4) hx hb dX1_newAddressesFollowFromBits_42 (by decide) ?_
          rw [← cn_f c20] at hl
          exact ih (i + 1) ls (by omega) (by omega) (lv_sub hl [1, 2, 0] rfl)
        · refine lv_aload_n hx hb dX1_newAddressesFollowFromBits_23 rfl (lv_at hl 0 rfl) ?_
          refine lv_iload_n hx hb dX1_newAddressesFollowFromBits_24 rfl (lv_at hl 2 rfl) ?_
          refine xk_roV (As := [.int (nI i)]) (rest := []) ⟨hx, hb, hml, hown, hts⟩ (c_newAddress l D cI cL h0 ad n B nb tp ob co rd rts offs fnd mem frs btw snw stw i hn hB hnb hof (by omega)) (cwV 1 hts gX1_newAddressesFollowFromBits_X1_newAddress rfl rfl rfl (by decide +kernel) ⟨Nat.le_of_ble_eq_true rfl, Nat.le_of_ble_eq_true rfl⟩) (va_recv hK hP (ci := 1) (q0 := 0) rfl rfl) hP hK rfl hl.1 rfl (Nat.le_of_ble_eq_true rfl) dX1_newAddressesFollowFromBits_25 ⟨Nat.zero_le _, Nat.zero_le _⟩ ?_
          refine lv_iconst (v := nI 1) hx hb dX1_newAddressesFollowFromBits_28 (by decide +kernel) ?_
          refine lv_iload_n hx hb dX1_newAddressesFollowFromBits_29 rfl (lv_at hl 1 rfl) ?_
          refine lv_iadd hx hb dX1_newAddressesFollowFromBits_30 ?_
          refine xk_top (nI_add _ _) ?_
          refine xk_icmp_eq (tgt := 36) hx hb (by omega) (by omega) dX1_newAddressesFollowFromBits_31 (by decide) (fun c31 => ?_) (fun c31 => by exfalso; omega)
          refine lv_iinc (v := nI (cn (bo btw) i + 1)) (lv' := [(1, .int (nI (cn (bo btw) i + 1))), (0, .ref h0), (2, .int (nI i))]) hx hb dX1_newAddressesFollowFromBits_36 hl (k := 1) rfl (xk_inc (cn (bo btw) i)) (by decide) rfl (fun ls hl => ?_)
          refine lv_iinc (v := nI (i + 1)) (lv' := [(2, .int (nI (i + 1))), (1, .int (nI (cn (bo btw) i + 1))), (0, .ref h0)]) hx hb dX1_newAddressesFollowFromBits_39 hl (k := 2) rfl (xk_inc i) (by decide) rfl (fun ls hl => ?_)
          refine lv_goto (tgt := 4) hx hb dX1_newAddressesFollowFromBits_42 (by decide) ?_
          rw [← cn_t c20] at hl
          exact ih (i + 1) ls (by omega) (by omega) (lv_sub hl [2, 1, 0] rfl)
  refine lv_iconst (v := nI 0) hx hb dX1_newAddressesFollowFromBits_0 (by decide +kernel) ?_
  refine lv_istore_n (lv' := [(1, .int (nI 0)), (0, .ref h0)]) hx hb dX1_newAddressesFollowFromBits_1 rfl hl (by decide) rfl (fun ls hl => ?_)
  refine lv_iconst (v := nI 0) hx hb dX1_newAddressesFollowFromBits_2 (by decide +kernel) ?_
  refine lv_istore_n (lv' := [(2, .int (nI 0)), (1, .int (nI 0)), (0, .ref h0)]) hx hb dX1_newAddressesFollowFromBits_3 rfl hl (by decide) rfl (fun ls hl => ?_)
  exact key (n + 2) 0 ls (by omega) (by omega) (lv_sub hl [2, 1, 0] rfl)
set_option maxHeartbeats 4000000 in
set_option maxRecDepth 100000 in
/-- sound: always -/
theorem c_sound (l : Launch) (D : va_G) (cI cL : ClassId) (h0 : Nat) (ad : Nat → Nat) (n B nb tp ob co rd : Nat) (rts offs fnd mem frs : Nat → Int32) (btw snw stw : Nat → Int64) (hn : n ≤ 4000) (hok : okS n tp mem (bo stw) rts) (hB : okB B) (hnb : nb = n / B + 1) (hof : offOk B nb offs (bo btw)) : Met l yX1_sound wsX1_sound ({ frames := 5, cells := 0, slots := 0, locals := 150 }) (va_Pc [.ref h0] (fun U => va_P D vwCl (cW cI cL h0 ad n B nb tp ob co rd rts offs fnd mem frs btw snw stw) U.heap ∧ va_K D vwCl [(cI, .int), (cL, .long)] U)) (vp_Si (fun r9 => r9 = nI 1)) 0 0 (fun _ => False) := by
  refine Met.ofW (cc := cX1_sound) (maxL := 1) (ret := (some .boolean)) (by decide) rfl ?_
  intro p e s m args below meth c s₁ B9 hml hv
  obtain ⟨rfl, hP, hK⟩ := hv
  have hx := B9.exec
  have hb := B9.bytes
  have hr := B9.returns
  have hts := atoms_spec (ws := wsX1_sound) B9.pre
  have hown : s.vm.findClass RX1 = some m.cls := findClass_of_methodNamed B9.named
  have hlocks := B9.notSynchronized
  have hl := lv_entry ([.ref h0]) (n := 1) (Nat.le_of_ble_eq_true rfl)
  rw [lg_entry_eq]
  generalize (lg_sl ([.ref h0]) ++ List.replicate (1 - (lg_sl ([.ref h0])).length) Slot.unset).toArray = ls at hl ⊢
  have hl : lv_has ls 1 [(0, .ref h0)] := hl
  refine lv_aload_n hx hb dX1_sound_0 rfl (lv_at hl 0 rfl) ?_
  refine xk_roV (As := []) (rest := []) ⟨hx, hb, hml, hown, hts⟩ (c_objectsLieInARow l D cI cL h0 ad n B nb tp ob co rd rts offs fnd mem frs btw snw stw hn hok) (cwV 0 hts gX1_sound_X1_objectsLieInARow rfl rfl rfl (by decide +kernel) ⟨Nat.le_of_ble_eq_true rfl, Nat.le_of_ble_eq_true rfl⟩) (va_recv hK hP (ci := 1) (q0 := 0) rfl rfl) hP hK rfl hl.1 rfl (Nat.le_of_ble_eq_true rfl) dX1_sound_1 ⟨Nat.zero_le _, Nat.zero_le _⟩ ?_
  refine xk_if_eq (tgt := 32) hx hb (by omega) dX1_sound_4 (by decide) (fun c4 => by exfalso; omega) (fun c4 => ?_)
  refine lv_aload_n hx hb dX1_sound_7 rfl (lv_at hl 0 rfl) ?_
  refine xk_roV (As := []) (rest := []) ⟨hx, hb, hml, hown, hts⟩ (c_rootsLeadToHeaders l D cI cL h0 ad n B nb tp ob co rd rts offs fnd mem frs btw snw stw hn hok) (cwV 0 hts gX1_sound_X1_rootsLeadToHeaders rfl rfl rfl (by decide +kernel) ⟨Nat.le_of_ble_eq_true rfl, Nat.le_of_ble_eq_true rfl⟩) (va_recv hK hP (ci := 1) (q0 := 0) rfl rfl) hP hK rfl hl.1 rfl (Nat.le_of_ble_eq_true rfl) dX1_sound_8 ⟨Nat.zero_le _, Nat.zero_le _⟩ ?_
  refine xk_if_eq (tgt := 32) hx hb (by omega) dX1_sound_11 (by decide) (fun c11 => by exfalso; omega) (fun c11 => ?_)
  refine lv_aload_n hx hb dX1_sound_14 rfl (lv_at hl 0 rfl) ?_
  refine xk_roV (As := []) (rest := []) ⟨hx, hb, hml, hown, hts⟩ (c_referencesLeadToHeaders l D cI cL h0 ad n B nb tp ob co rd rts offs fnd mem frs btw snw stw hn hok) (cwV 0 hts gX1_sound_X1_referencesLeadToHeaders rfl rfl rfl (by decide +kernel) ⟨Nat.le_of_ble_eq_true rfl, Nat.le_of_ble_eq_true rfl⟩) (va_recv hK hP (ci := 1) (q0 := 0) rfl rfl) hP hK rfl hl.1 rfl (Nat.le_of_ble_eq_true rfl) dX1_sound_15 ⟨Nat.zero_le _, Nat.zero_le _⟩ ?_
  refine xk_if_eq (tgt := 32) hx hb (by omega) dX1_sound_18 (by decide) (fun c18 => by exfalso; omega) (fun c18 => ?_)
  refine lv_aload_n hx hb dX1_sound_21 rfl (lv_at hl 0 rfl) ?_
  refine xk_roV (As := []) (rest := []) ⟨hx, hb, hml, hown, hts⟩ (c_newAddressesFollowFromBits l D cI cL h0 ad n B nb tp ob co rd rts offs fnd mem frs btw snw stw hn hB hnb hof) (cwV 0 hts gX1_sound_X1_newAddressesFollowFromBits rfl rfl rfl (by decide +kernel) ⟨Nat.le_of_ble_eq_true rfl, Nat.le_of_ble_eq_true rfl⟩) (va_recv hK hP (ci := 1) (q0 := 0) rfl rfl) hP hK rfl hl.1 rfl (Nat.le_of_ble_eq_true rfl) dX1_sound_22 ⟨Nat.zero_le _, Nat.zero_le _⟩ ?_
  refine xk_if_eq (tgt := 32) hx hb (by omega) dX1_sound_25 (by decide) (fun c25 => by exfalso; omega) (fun c25 => ?_)
  refine lv_iconst (v := nI 1) hx hb dX1_sound_28 (by decide +kernel) ?_
  refine lv_goto (tgt := 33) hx hb dX1_sound_29 (by decide) ?_
  exact W.zret hx hb hr rfl (fun t ht hW => ⟨_, rfl, rfl, ht⟩) t_nil dX1_sound_33
