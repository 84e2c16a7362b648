/-! the class: the search -/
theorem in_X1_find_X1 : ∀ w ∈ wsX10, w ∈ wsX1_find := by decide +kernel
theorem in_X1_findReferred_X1 : ∀ w ∈ wsX10, w ∈ wsX1_findReferred := by decide +kernel
theorem in_X1_findWithin_X1 : ∀ w ∈ wsX10, w ∈ wsX1_findWithin := by decide +kernel
theorem in_X1_near_X1 : ∀ w ∈ wsX10, w ∈ wsX1_near := by decide +kernel
set_option maxHeartbeats 4000000 in
set_option maxRecDepth 100000 in
/-- find: one more is seen -/
theorem c_find (l : Launch) (D : va_G) (cI cL : ClassId) (h0 : Nat) (ad : Nat → Nat) (n B nb tp ob co rd : Nat) (rts offs fnd mem frs : Nat → Int32) (btw snw stw : Nat → Int64) (sz a z : Nat) (hn : n ≤ 4000) (ha : a ≤ n) (hF : FI n snw fnd z) : Met l yX1_find wsX1_find ({ frames := 1, cells := 0, slots := 0, locals := 30 }) (va_Pc [.ref h0, .int (nI a), .int (nI z)] (fun U => U.heap.size = sz ∧ va_P D vwCl (cW cI cL h0 ad n B nb tp ob co rd rts offs fnd mem frs btw snw stw) U.heap ∧ va_K D vwCl [(cI, .int), (cL, .long)] U ∧ va_D (fun _ => True) (cW cI cL h0 ad n B nb tp ob co rd rts offs fnd mem frs btw snw stw))) (va_Qi (fun (r9 : Int32) (u : (Nat → Int64) × (Nat → Int32) × Nat) => r9 = nI u.2.2 ∧ StpF n snw fnd z (fun x => x = a) u.1 u.2.1 u.2.2) (fun (u : (Nat → Int64) × (Nat → Int32) × Nat) t => va_P D vwCl (cW cI cL h0 ad n B nb tp ob co rd rts offs u.2.1 mem frs btw u.1 stw) t.heap ∧ va_D (va_A (cW cI cL h0 ad n B nb tp ob co rd rts offs fnd mem frs btw snw stw) sz) (cW cI cL h0 ad n B nb tp ob co rd rts offs u.2.1 mem frs btw u.1 stw)) (va_A (cW cI cL h0 ad n B nb tp ob co rd rts offs fnd mem frs btw snw stw) sz)) 0 0 (va_A (cW cI cL h0 ad n B nb tp ob co rd rts offs fnd mem frs btw snw stw) sz) := by
  refine Met.ofW (cc := cX1_find) (maxL := 3) (ret := (some .int)) (by decide) rfl ?_
  intro p e s m args below meth c s₁ B9 hml hv
  obtain ⟨rfl, hsz, hP, hK, hD0⟩ := hv
  have hx := B9.exec
  have hb := B9.bytes
  have hr := B9.returns
  have hts := atoms_spec (ws := wsX1_find) B9.pre
  have hown : s.vm.findClass RX1 = some m.cls := findClass_of_methodNamed B9.named
  have hlocks := B9.notSynchronized
  subst hsz
  have hD := hD0.self (sz := s.heap.size)
  generalize hAe : va_A (cW cI cL h0 ad n B nb tp ob co rd rts offs fnd mem frs btw snw stw) s.heap.size = A at hD ⊢
  have hA : ∀ q : Nat, s.heap.size ≤ q → A q := fun q h => by rw [← hAe]; exact Or.inr h
  have hS : va_S A s.heap s.heap [] := va_S.rf
  have hl := lv_entry ([.ref h0, .int (nI a), .int (nI z)]) (n := 3) (Nat.le_of_ble_eq_true rfl)
  rw [lg_entry_eq]
  generalize (lg_sl ([.ref h0, .int (nI a), .int (nI z)]) ++ List.replicate (3 - (lg_sl ([.ref h0, .int (nI a), .int (nI z)])).length) Slot.unset).toArray = ls at hl ⊢
  have hl : lv_has ls 3 [(0, .ref h0), (1, .int (nI a)), (2, .int (nI z))] := hl
  have hz := hF.le
  refine lv_iload_n hx hb dX1_find_0 rfl (lv_at hl 1 rfl) ?_
  refine xk_if_eq (tgt := 15) hx hb (by omega) dX1_find_1 (by decide) (fun c1 => ?_) (fun c1 => ?_)
  · refine lv_iload_n hx hb dX1_find_15 rfl (lv_at hl 2 rfl) ?_
    exact W.iret hx hb hr (fun t ht hW => ⟨⟨_, (snw, fnd, z), rfl, ⟨rfl, StpF.refl hF (fun x _ h0 e => by omega)⟩, by rw [ht]; exact hP, hD⟩, hS.F ht⟩) hS.2.2 dX1_find_16
  · refine lv_aload_n hx hb dX1_find_4 rfl (lv_at hl 0 rfl) ?_
    refine va_get (D := D) (ci := 1) (v := .ref (ad 6)) (C := RX1) (T := TX1) (N := 15) hx hb hts in_X1_find_X1 hown hK hP 0 rfl rfl 7 (by decide) (hts (.fieldLink RX1 51 "OffsetHeap" "seen" "LOffsetHeap$BitRow;") (by decide +kernel)) (fun _ h9 => h9) rfl dX1_find_5 ?_
    refine lv_iload_n hx hb dX1_find_8 rfl (lv_at hl 1 rfl) ?_
    refine xk_roV (As := [.int (nI a)]) (rest := []) ⟨hx, hb, hml, hown, hts⟩ (c_has l D cL (ad 6) (ad 7) (n / 64 + 1) snw (by omega) a (by omega) (by omega)) (cwV 1 hts gX1_find_X0_has rfl rfl rfl (by decide +kernel) ⟨Nat.le_of_ble_eq_true rfl, Nat.le_of_ble_eq_true rfl⟩) (va_recv hK hP (ci := 0) (q0 := 6) rfl rfl) (hP.sub [6, 7] rfl) (hK.sub [1] rfl) rfl hl.1 rfl (Nat.le_of_ble_eq_true rfl) dX1_find_9 ⟨Nat.zero_le _, Nat.zero_le _⟩ ?_
    refine xk_if_eqB (tgt := 17) hx hb dX1_find_12 (by decide) (fun c12 => ?_) (fun c12 => ?_)
    · have hlt := hF.lt (by omega) ha c12
      refine lv_aload_n hx hb dX1_find_17 rfl (lv_at hl 0 rfl) ?_
      refine va_get (D := D) (ci := 1) (v := .ref (ad 6)) (C := RX1) (T := TX1) (N := 15) hx hb hts in_X1_find_X1 hown hK hP 0 rfl rfl 7 (by decide) (hts (.fieldLink RX1 51 "OffsetHeap" "seen" "LOffsetHeap$BitRow;") (by decide +kernel)) (fun _ h9 => h9) rfl dX1_find_18 ?_
      refine lv_iload_n hx hb dX1_find_21 rfl (lv_at hl 1 rfl) ?_
      refine xk_aftv (wr := [(h0, .inr (1, [.int (nI n), .int (nI B), .int (nI nb), .ref (ad 1), .ref (ad 2), .ref (ad 4), .ref (ad 5), .ref (ad 6), .ref (ad 10), .ref (ad 8), .ref (ad 9), .int (nI tp), .int (nI ob), .int (nI co), .int (nI rd)])), ((ad 1), .inl (cI, 8, .inl rts)), ((ad 2), .inr (0, [.ref (ad 3)])), ((ad 3), .inl (cL, (n / 64 + 1), .inr (.inl btw))), ((ad 4), .inl (cI, nb, .inl offs)), ((ad 5), .inl (cI, n, .inl fnd)), ((ad 8), .inl (cI, (n + 1), .inl mem)), ((ad 9), .inl (cI, (n + 1), .inl frs)), ((ad 10), .inr (0, [.ref (ad 11)])), ((ad 11), .inl (cL, (n / 64 + 1), .inr (.inl stw)))]) (ws' := fun f2 => cW cI cL h0 ad n B nb tp ob co rd rts offs fnd mem frs btw f2 stw) (va_runV (As := [.int (nI a)]) (rest := []) ⟨hx, hb, hml, hown, hts⟩ (c_put l D cL (ad 6) (ad 7) (n / 64 + 1) snw (by omega) s.heap.size a (by omega) (by omega)) (cwV 1 hts gX1_find_X0_put rfl rfl rfl (by decide +kernel) ⟨Nat.le_of_ble_eq_true rfl, Nat.le_of_ble_eq_true rfl⟩) (xk_preV (va_recv hK hP (ci := 0) (q0 := 6) rfl rfl) rfl (hP.sub [6, 7] rfl) (hK.sub [1] rfl) ((hD.sub [6, 7] (by decide) rfl).weaken (fun _ _ _ _ => trivial))) rfl rfl hl.1 rfl (lv_room (Nat.le_of_ble_eq_true rfl)) dX1_find_22 ⟨Nat.zero_le _, Nat.zero_le _⟩) hP hD hS hA [6, 7] [0, 1, 2, 3, 4, 5, 8, 9, 10, 11] [0, 1, 2, 3, 4, 5, 10, 11, 6, 7, 8, 9] rfl rfl (by decide) (by decide) (fun _ => rfl) (by decide) (fun f2 H locs hf2 hP hD hS => ?_)
      subst hf2
      have hP : va_P D vwCl (cW cI cL h0 ad n B nb tp ob co rd rts offs fnd mem frs btw (bput snw a) stw) H := hP
      have hD : va_D A (cW cI cL h0 ad n B nb tp ob co rd rts offs fnd mem frs btw (bput snw a) stw) := hD
      refine lv_aload_n hx hb dX1_find_25 rfl (lv_at hl 0 rfl) ?_
      refine va_get (D := D) (ci := 1) (v := .ref (ad 5)) (C := RX1) (T := TX1) (N := 15) hx hb hts in_X1_find_X1 hown hK hP 0 rfl rfl 6 (by decide) (hts (.fieldLink RX1 48 "OffsetHeap" "found" "[I") (by decide +kernel)) (fun _ h9 => h9) rfl dX1_find_26 ?_
      refine lv_iload_n hx hb dX1_find_29 rfl (lv_at hl 2 rfl) ?_
      refine lv_iload_n hx hb dX1_find_30 rfl (lv_at hl 1 rfl) ?_
      refine xk_iast hx hb hK hP hD hS 5 0 rfl rfl (by omega) (by omega) dX1_find_31 (fun H locs hP hD hS => ?_)
      have hP : va_P D vwCl (cW cI cL h0 ad n B nb tp ob co rd rts offs (upd fnd z (nI a)) mem frs btw (bput snw a) stw) H := hP
      have hD : va_D A (cW cI cL h0 ad n B nb tp ob co rd rts offs (upd fnd z (nI a)) mem frs btw (bput snw a) stw) := hD
      refine lv_iload_n hx hb dX1_find_32 rfl (lv_at hl 2 rfl) ?_
      refine lv_iconst (v := nI 1) hx hb dX1_find_33 (by decide +kernel) ?_
      refine lv_iadd hx hb dX1_find_34 ?_
      refine xk_top (nI_add _ _) ?_
      exact W.iret hx hb hr (fun t ht hW => ⟨⟨_, (bput snw a, upd fnd z (nI a), z + 1), rfl, ⟨rfl, StpF.add hF (by omega) ha c12⟩, by rw [ht]; exact hP, hD⟩, hS.F ht⟩) hS.2.2 dX1_find_35
    · refine lv_iload_n hx hb dX1_find_15 rfl (lv_at hl 2 rfl) ?_
      exact W.iret hx hb hr (fun t ht hW => ⟨⟨_, (snw, fnd, z), rfl, ⟨rfl, StpF.refl hF (fun x _ h0 e => by rw [e]; exact c12)⟩, by rw [ht]; exact hP, hD⟩, hS.F ht⟩) hS.2.2 dX1_find_16
set_option maxHeartbeats 4000000 in
set_option maxRecDepth 100000 in
/-- findReferred: what an object leads to is seen -/
theorem c_findReferred (l : Launch) (D : va_G) (cI cL : ClassId) (h0 : Nat) (ad : Nat → Nat) (n B nb tp ob co rd : Nat) (rts offs fnd mem frs : Nat → Int32) (btw snw stw : Nat → Int64) (sz o z : Nat) (hn : n ≤ 4000) (hok : okS n tp mem (bo stw) rts) (h1 : 1 ≤ o) (h2 : o < tp) (h3 : bo stw o = true) (hF : FI n snw fnd z) : Met l yX1_findReferred wsX1_findReferred ({ frames := 2, cells := 0, slots := 0, locals := 60 }) (va_Pc [.ref h0, .int (nI o), .int (nI z)] (fun U => U.heap.size = sz ∧ va_P D vwCl (cW cI cL h0 ad n B nb tp ob co rd rts offs fnd mem frs btw snw stw) U.heap ∧ va_K D vwCl [(cI, .int), (cL, .long)] U ∧ va_D (fun _ => True) (cW cI cL h0 ad n B nb tp ob co rd rts offs fnd mem frs btw snw stw))) (va_Qi (fun (r9 : Int32) (u : (Nat → Int64) × (Nat → Int32) × Nat) => r9 = nI u.2.2 ∧ StpF n snw fnd z (fun x => ∃ k, k < rfs mem o ∧ tn (mem (o + 1 + k)) = x) u.1 u.2.1 u.2.2) (fun (u : (Nat → Int64) × (Nat → Int32) × Nat) t => va_P D vwCl (cW cI cL h0 ad n B nb tp ob co rd rts offs u.2.1 mem frs btw u.1 stw) t.heap ∧ va_D (va_A (cW cI cL h0 ad n B nb tp ob co rd rts offs fnd mem frs btw snw stw) sz) (cW cI cL h0 ad n B nb tp ob co rd rts offs u.2.1 mem frs btw u.1 stw)) (va_A (cW cI cL h0 ad n B nb tp ob co rd rts offs fnd mem frs btw snw stw) sz)) 0 0 (va_A (cW cI cL h0 ad n B nb tp ob co rd rts offs fnd mem frs btw snw stw) sz) := by
  refine Met.ofW (cc := cX1_findReferred) (maxL := 6) (ret := (some .int)) (by decide) rfl ?_
  intro p e s m args below meth c s₁ B9 hml hv
  obtain ⟨rfl, hsz, hP, hK, hD0⟩ := hv
  have hx := B9.exec
  have hb := B9.bytes
  have hr := B9.returns
  have hts := atoms_spec (ws := wsX1_findReferred) B9.pre
  have hown : s.vm.findClass RX1 = some m.cls := findClass_of_methodNamed B9.named
  have hlocks := B9.notSynchronized
  subst hsz
  have hD := hD0.self (sz := s.heap.size)
  generalize hAe : va_A (cW cI cL h0 ad n B nb tp ob co rd rts offs fnd mem frs btw snw stw) s.heap.size = A at hD ⊢
  have hA : ∀ q : Nat, s.heap.size ≤ q → A q := fun q h => by rw [← hAe]; exact Or.inr h
  have hS : va_S A s.heap s.heap [] := va_S.rf
  have hl := lv_entry ([.ref h0, .int (nI o), .int (nI z)]) (n := 6) (Nat.le_of_ble_eq_true rfl)
  rw [lg_entry_eq]
  generalize (lg_sl ([.ref h0, .int (nI o), .int (nI z)]) ++ List.replicate (6 - (lg_sl ([.ref h0, .int (nI o), .int (nI z)])).length) Slot.unset).toArray = ls at hl ⊢
  have hl : lv_has ls 6 [(0, .ref h0), (1, .int (nI o)), (2, .int (nI z))] := hl
  have htp := hok.1.2.1
  have hh := hok.hdr h1 h2 h3
  have hs := hok.hsm h1 h2 h3
  have hf := hok.fit h1 h2 h3
  unfold siz at hf
  have key : ∀ (d : Nat) (snw1 : Nat → Int64) (fnd1 : Nat → Int32) (z1 i : Nat) (H : Heap) (locs : List Loc) (ls : Array Slot), tn (mem o) / 16 % 16 + 1 ≤ i + d → i ≤ tn (mem o) / 16 % 16 → StpF n snw fnd z (fun x => ∃ k, k < i ∧ tn (mem (o + 1 + k)) = x) snw1 fnd1 z1 → va_P D vwCl (cW cI cL h0 ad n B nb tp ob co rd rts offs fnd1 mem frs btw snw1 stw) H → va_D A (cW cI cL h0 ad n B nb tp ob co rd rts offs fnd1 mem frs btw snw1 stw) → va_S A s.heap H locs → lv_has ls 6 [(0, .ref h0), (1, .int (nI o)), (2, .int (nI z)), (3, .int (nI (tn (mem o) / 16 % 16))), (4, .int (nI z1)), (5, .int (nI i))] → W p l e (headSpec wsX1_findReferred ({ frames := 2, cells := 0, slots := 0, locals := 60 })).room s m ([.ref h0, .int (nI o), .int (nI z)] : List Value).toArray below meth c H locs 0 0 (MQ below (va_Qi (fun (r9 : Int32) (u : (Nat → Int64) × (Nat → Int32) × Nat) => r9 = nI u.2.2 ∧ StpF n snw fnd z (fun x => ∃ k, k < rfs mem o ∧ tn (mem (o + 1 + k)) = x) u.1 u.2.1 u.2.2) (fun (u : (Nat → Int64) × (Nat → Int32) × Nat) t => va_P D vwCl (cW cI cL h0 ad n B nb tp ob co rd rts offs u.2.1 mem frs btw u.1 stw) t.heap ∧ va_D A (cW cI cL h0 ad n B nb tp ob co rd rts offs u.2.1 mem frs btw u.1 stw)) A) ([.ref h0, .int (nI o), .int (nI z)] : List Value).toArray s 0 0 A) (F0 m 16 ls []) := by
    intro d
    induction d with
    | zero =>
      intro snw1 fnd1 z1 i H locs ls hd hi hI hP hD hS hl
      exfalso; omega
    | succ d ih =>
      intro snw1 fnd1 z1 i H locs ls hd hi hI hP hD hS hl
      refine lv_iload hx hb dX1_findReferred_16 (lv_at hl 5 rfl) ?_
      refine lv_iload_n hx hb dX1_findReferred_18 rfl (lv_at hl 3 rfl) ?_
      refine xk_icmp_ge (tgt := 47) hx hb (by omega) (by omega) dX1_findReferred_19 (by decide) (fun c19 => ?_) (fun c19 => ?_)
      · refine lv_iload hx hb dX1_findReferred_47 (lv_at hl 4 rfl) ?_
        exact W.iret hx hb hr (fun t ht hW => ⟨⟨_, (snw1, fnd1, z1), rfl, ⟨rfl, hI.congr (fun x _ _ => ⟨fun ⟨k, a, b⟩ => ⟨k, by unfold rfs at a; omega, b⟩, fun ⟨k, a, b⟩ => ⟨k, by unfold rfs; omega, b⟩⟩)⟩, by rw [ht]; exact hP, hD⟩, hS.F ht⟩) hS.2.2 dX1_findReferred_49
      · have q := hok.refN h1 h2 h3 (k := i) (by unfold rfs; omega)
        have q2 := q.2
        refine lv_aload_n hx hb dX1_findReferred_22 rfl (lv_at hl 0 rfl) ?_
        refine lv_aload_n hx hb dX1_findReferred_23 rfl (lv_at hl 0 rfl) ?_
        refine va_get (D := D) (ci := 1) (v := .ref (ad 8)) (C := RX1) (T := TX1) (N := 15) hx hb hts in_X1_findReferred_X1 hown hK hP 0 rfl rfl 9 (by decide) (hts (.fieldLink RX1 57 "OffsetHeap" "space" "[I") (by decide +kernel)) (fun _ h9 => h9) rfl dX1_findReferred_24 ?_
        refine lv_iload_n hx hb dX1_findReferred_27 rfl (lv_at hl 1 rfl) ?_
        refine lv_iconst (v := nI 1) hx hb dX1_findReferred_28 (by decide +kernel) ?_
        refine lv_iadd hx hb dX1_findReferred_29 ?_
        refine xk_top (nI_add _ _) ?_
        refine lv_iload hx hb dX1_findReferred_30 (lv_at hl 5 rfl) ?_
        refine lv_iadd hx hb dX1_findReferred_32 ?_
        refine xk_top (nI_add _ _) ?_
        refine xk_iald hx hb hK hP 8 0 rfl rfl (by omega) (by omega) dX1_findReferred_33 ?_
        refine xk_top q.1 ?_
        refine lv_iload hx hb dX1_findReferred_34 (lv_at hl 4 rfl) ?_
        refine xk_afti (wr := []) (ws' := fun u => cW cI cL h0 ad n B nb tp ob co rd rts offs u.2.1 mem frs btw u.1 stw) (va_runV (As := [.int (nI (tn (mem (o + 1 + i)))), .int (nI z1)]) (rest := []) ⟨hx, hb, hml, hown, hts⟩ (c_find l D cI cL h0 ad n B nb tp ob co rd rts offs fnd1 mem frs btw snw1 stw H.size (tn (mem (o + 1 + i))) z1 hn (by omega) hI.1) (cwV 2 hts gX1_findReferred_X1_find rfl rfl rfl (by decide +kernel) ⟨Nat.le_of_ble_eq_true rfl, Nat.le_of_ble_eq_true rfl⟩) (xk_preV (va_recv hK hP (ci := 1) (q0 := 0) rfl rfl) rfl hP hK (hD.weaken (fun _ _ _ _ => trivial))) rfl rfl hl.1 rfl (lv_room (Nat.le_of_ble_eq_true rfl)) dX1_findReferred_36 ⟨Nat.zero_le _, Nat.zero_le _⟩) hP hD hS hA [0, 1, 2, 3, 4, 5, 6, 7, 8, 9, 10, 11] [] [0, 1, 2, 3, 4, 5, 6, 7, 8, 9, 10, 11] rfl rfl (by decide) (by decide) (fun _ => rfl) (by decide) (fun r9 u H locs hpost hP hD hS => ?_)
        obtain ⟨snw2, fnd2, z2⟩ := u
        obtain ⟨rfl, hI2⟩ := hpost
        have hP : va_P D vwCl (cW cI cL h0 ad n B nb tp ob co rd rts offs fnd2 mem frs btw snw2 stw) H := hP
        have hD : va_D A (cW cI cL h0 ad n B nb tp ob co rd rts offs fnd2 mem frs btw snw2 stw) := hD
        refine xk_top (y := nI z2) rfl ?_
        refine lv_istore (lv' := [(4, .int (nI z2)), (0, .ref h0), (1, .int (nI o)), (2, .int (nI z)), (3, .int (nI (tn (mem o) / 16 % 16))), (5, .int (nI i))]) hx hb dX1_findReferred_39 hl (by decide) rfl (fun ls hl => ?_)
        refine lv_iinc (v := nI (i + 1)) (lv' := [(5, .int (nI (i + 1))), (4, .int (nI z2)), (0, .ref h0), (1, .int (nI o)), (2, .int (nI z)), (3, .int (nI (tn (mem o) / 16 % 16)))]) hx hb dX1_findReferred_41 hl (k := 5) rfl (xk_inc i) (by decide) rfl (fun ls hl => ?_)
        refine lv_goto (tgt := 16) hx hb dX1_findReferred_44 (by decide) ?_
        exact ih snw2 fnd2 z2 (i + 1) H locs ls (by omega) (by omega) (hI.trans hI2 (fun x _ => ex_s (f := fun k => tn (mem (o + 1 + k))))) hP hD hS (lv_sub hl [2, 3, 4, 5, 1, 0] rfl)
  refine lv_aload_n hx hb dX1_findReferred_0 rfl (lv_at hl 0 rfl) ?_
  refine va_get (D := D) (ci := 1) (v := .ref (ad 8)) (C := RX1) (T := TX1) (N := 15) hx hb hts in_X1_findReferred_X1 hown hK hP 0 rfl rfl 9 (by decide) (hts (.fieldLink RX1 57 "OffsetHeap" "space" "[I") (by decide +kernel)) (fun _ h9 => h9) rfl dX1_findReferred_1 ?_
  refine lv_iload_n hx hb dX1_findReferred_4 rfl (lv_at hl 1 rfl) ?_
  refine xk_iald hx hb hK hP 8 0 rfl rfl (by omega) (by omega) dX1_findReferred_5 ?_
  refine xk_top hh ?_
  refine xk_roS (As := [.int (nI (tn (mem o)))]) (rest := []) ⟨hx, hb, hml, hown, hts⟩ (c_referencesBy l (tn (mem o)) (by omega)) (va_cwS 1 hts gX1_findReferred_X1_referencesBy rfl rfl rfl (by decide +kernel) ⟨Nat.le_of_ble_eq_true rfl, Nat.le_of_ble_eq_true rfl⟩) rfl hl.1 rfl (Nat.le_of_ble_eq_true rfl) dX1_findReferred_6 ⟨Nat.zero_le _, Nat.zero_le _⟩ ?_
  refine lv_istore_n (lv' := [(3, .int (nI ((tn (mem o)) / 16 % 16))), (0, .ref h0), (1, .int (nI o)), (2, .int (nI z))]) hx hb dX1_findReferred_9 rfl hl (by decide) rfl (fun ls hl => ?_)
  refine lv_iload_n hx hb dX1_findReferred_10 rfl (lv_at hl 3 rfl) ?_
  refine lv_istore (lv' := [(4, .int (nI z)), (3, .int (nI ((tn (mem o)) / 16 % 16))), (0, .ref h0), (1, .int (nI o)), (2, .int (nI z))]) hx hb dX1_findReferred_11 hl (by decide) rfl (fun ls hl => ?_)
  refine lv_iconst (v := nI 0) hx hb dX1_findReferred_13 (by decide +kernel) ?_
  refine lv_istore (lv' := [(5, .int (nI 0)), (4, .int (nI z)), (3, .int (nI ((tn (mem o)) / 16 % 16))), (0, .ref h0), (1, .int (nI o)), (2, .int (nI z))]) hx hb dX1_findReferred_14 hl (by decide) rfl (fun ls hl => ?_)
  exact key 17 snw fnd z 0 s.heap [] ls (by omega) (by omega) (StpF.refl hF (fun x _ _ h => absurd h ex_0)) hP hD hS (lv_sub hl [3, 4, 5, 2, 1, 0] rfl)
set_option maxHeartbeats 4000000 in
set_option maxRecDepth 100000 in
/-- findWithin: what roots lead to by at most q references -/
theorem c_findWithin (l : Launch) (D : va_G) (cI cL : ClassId) (h0 : Nat) (ad : Nat → Nat) (n B nb tp ob co rd : Nat) (rts offs fnd mem frs : Nat → Int32) (btw snw stw : Nat → Int64) (sz q : Nat) (hn : n ≤ 4000) (hq : q ≤ 4000) (hok : okS n tp mem (bo stw) rts) : Met l yX1_findWithin wsX1_findWithin ({ frames := 3, cells := 0, slots := 0, locals := 90 }) (va_Pc [.ref h0, .int (nI q)] (fun U => U.heap.size = sz ∧ va_P D vwCl (cW cI cL h0 ad n B nb tp ob co rd rts offs fnd mem frs btw snw stw) U.heap ∧ va_K D vwCl [(cI, .int), (cL, .long)] U ∧ va_D (fun _ => True) (cW cI cL h0 ad n B nb tp ob co rd rts offs fnd mem frs btw snw stw))) (va_Qi (fun (r9 : Int32) (u : (Nat → Int64) × (Nat → Int32) × Nat) => r9 = nI u.2.2 ∧ FI n u.1 u.2.1 u.2.2 ∧ ∀ x, x ≤ n → (bo u.1 x = true ↔ NR mem rts q x)) (fun (u : (Nat → Int64) × (Nat → Int32) × Nat) t => va_P D vwCl (cW cI cL h0 ad n B nb tp ob co rd rts offs u.2.1 mem frs btw u.1 stw) t.heap ∧ va_D (va_A (cW cI cL h0 ad n B nb tp ob co rd rts offs fnd mem frs btw snw stw) sz) (cW cI cL h0 ad n B nb tp ob co rd rts offs u.2.1 mem frs btw u.1 stw)) (va_A (cW cI cL h0 ad n B nb tp ob co rd rts offs fnd mem frs btw snw stw) sz)) 0 0 (va_A (cW cI cL h0 ad n B nb tp ob co rd rts offs fnd mem frs btw snw stw) sz) := by
  refine Met.ofW (cc := cX1_findWithin) (maxL := 7) (ret := (some .int)) (by decide) rfl ?_
  intro p e s m args below meth c s₁ B9 hml hv
  obtain ⟨rfl, hsz, hP, hK, hD0⟩ := hv
  have hx := B9.exec
  have hb := B9.bytes
  have hr := B9.returns
  have hts := atoms_spec (ws := wsX1_findWithin) B9.pre
  have hown : s.vm.findClass RX1 = some m.cls := findClass_of_methodNamed B9.named
  have hlocks := B9.notSynchronized
  subst hsz
  have hD := hD0.self (sz := s.heap.size)
  generalize hAe : va_A (cW cI cL h0 ad n B nb tp ob co rd rts offs fnd mem frs btw snw stw) s.heap.size = A at hD ⊢
  have hA : ∀ q : Nat, s.heap.size ≤ q → A q := fun q h => by rw [← hAe]; exact Or.inr h
  have hS : va_S A s.heap s.heap [] := va_S.rf
  have hl := lv_entry ([.ref h0, .int (nI q)]) (n := 7) (Nat.le_of_ble_eq_true rfl)
  rw [lg_entry_eq]
  generalize (lg_sl ([.ref h0, .int (nI q)]) ++ List.replicate (7 - (lg_sl ([.ref h0, .int (nI q)])).length) Slot.unset).toArray = ls at hl ⊢
  have hl : lv_has ls 7 [(0, .ref h0), (1, .int (nI q))] := hl
  have htp := hok.1.2.1
  have keyO : ∀ (d : Nat) (snw1 : Nat → Int64) (fnd1 : Nat → Int32) (z1 a j : Nat) (H : Heap) (locs : List Loc) (ls : Array Slot), q + 1 ≤ j + d → j ≤ q → a ≤ z1 → FI n snw1 fnd1 z1 → (∀ x, x ≤ n → (bo snw1 x = true ↔ NR mem rts j x)) → PR n mem fnd1 snw1 a → va_P D vwCl (cW cI cL h0 ad n B nb tp ob co rd rts offs fnd1 mem frs btw snw1 stw) H → va_D A (cW cI cL h0 ad n B nb tp ob co rd rts offs fnd1 mem frs btw snw1 stw) → va_S A s.heap H locs → lv_has ls 7 [(0, .ref h0), (1, .int (nI q)), (2, .int (nI z1)), (3, .int (nI a)), (4, .int (nI j))] → W p l e (headSpec wsX1_findWithin ({ frames := 3, cells := 0, slots := 0, locals := 90 })).room s m ([.ref h0, .int (nI q)] : List Value).toArray below meth c H locs 0 0 (MQ below (va_Qi (fun (r9 : Int32) (u : (Nat → Int64) × (Nat → Int32) × Nat) => r9 = nI u.2.2 ∧ FI n u.1 u.2.1 u.2.2 ∧ ∀ x, x ≤ n → (bo u.1 x = true ↔ NR mem rts q x)) (fun (u : (Nat → Int64) × (Nat → Int32) × Nat) t => va_P D vwCl (cW cI cL h0 ad n B nb tp ob co rd rts offs u.2.1 mem frs btw u.1 stw) t.heap ∧ va_D A (cW cI cL h0 ad n B nb tp ob co rd rts offs u.2.1 mem frs btw u.1 stw)) A) ([.ref h0, .int (nI q)] : List Value).toArray s 0 0 A) (F0 m 40 ls []) := by
    intro d
    induction d with
    | zero =>
      intro snw1 fnd1 z1 a j H locs ls hd hj hfr hF hN hpr hP hD hS hl
      exfalso; omega
    | succ d ih1 =>
      intro snw1 fnd1 z1 a j H locs ls hd hj hfr hF hN hpr hP hD hS hl
      have hz1 := hF.le
      refine lv_iload hx hb dX1_findWithin_40 (lv_at hl 4 rfl) ?_
      refine lv_iload_n hx hb dX1_findWithin_42 rfl (lv_at hl 1 rfl) ?_
      refine xk_icmp_ge (tgt := 92) hx hb (by omega) (by omega) dX1_findWithin_43 (by decide) (fun c43 => ?_) (fun c43 => ?_)
      · refine lv_iload_n hx hb dX1_findWithin_92 rfl (lv_at hl 2 rfl) ?_
        exact W.iret hx hb hr (fun t ht hW => ⟨⟨_, (snw1, fnd1, z1), rfl, ⟨rfl, hF, fun x hx => by rw [hN x hx, show j = q by omega]⟩, by rw [ht]; exact hP, hD⟩, hS.F ht⟩) hS.2.2 dX1_findWithin_93
      · refine lv_iload_n hx hb dX1_findWithin_46 rfl (lv_at hl 3 rfl) ?_
        refine lv_iload_n hx hb dX1_findWithin_47 rfl (lv_at hl 2 rfl) ?_
        refine xk_icmp_ge (tgt := 92) hx hb (by omega) (by omega) dX1_findWithin_48 (by decide) (fun c48 => ?_) (fun c48 => ?_)
        · refine lv_iload_n hx hb dX1_findWithin_92 rfl (lv_at hl 2 rfl) ?_
          exact W.iret hx hb hr (fun t ht hW => ⟨⟨_, (snw1, fnd1, z1), rfl, ⟨rfl, hF, fun x hx => ⟨fun h => NR_mono (by omega) ((hN x hx).mp h), fun h => (hN x hx).mpr (fw_closed hok hF hN hpr (by omega) q x h)⟩⟩, by rw [ht]; exact hP, hD⟩, hS.F ht⟩) hS.2.2 dX1_findWithin_93
        · refine lv_iload_n hx hb dX1_findWithin_51 rfl (lv_at hl 2 rfl) ?_
          refine lv_istore (lv' := [(5, .int (nI z1)), (0, .ref h0), (1, .int (nI q)), (2, .int (nI z1)), (3, .int (nI a)), (4, .int (nI j))]) hx hb dX1_findWithin_52 hl (by decide) rfl (fun ls hl => ?_)
          refine lv_iload_n hx hb dX1_findWithin_54 rfl (lv_at hl 4 rfl) ?_
          refine lv_istore (lv' := [(6, .int (nI a)), (5, .int (nI z1)), (0, .ref h0), (1, .int (nI q)), (2, .int (nI z1)), (3, .int (nI a)), (4, .int (nI j))]) hx hb dX1_findWithin_55 hl (by decide) rfl (fun ls hl => ?_)
          have inn : ∀ (e9 : Nat) (snw2 : Nat → Int64) (fnd2 : Nat → Int32) (z2 f : Nat) (H : Heap) (locs : List Loc) (ls : Array Slot), z1 + 1 ≤ f + e9 → a ≤ f → f ≤ z1 → StpF n snw1 fnd1 z1 (SS n mem fnd1 a f) snw2 fnd2 z2 → va_P D vwCl (cW cI cL h0 ad n B nb tp ob co rd rts offs fnd2 mem frs btw snw2 stw) H → va_D A (cW cI cL h0 ad n B nb tp ob co rd rts offs fnd2 mem frs btw snw2 stw) → va_S A s.heap H locs → lv_has ls 7 [(0, .ref h0), (1, .int (nI q)), (2, .int (nI z2)), (3, .int (nI a)), (4, .int (nI j)), (5, .int (nI z1)), (6, .int (nI f))] → W p l e (headSpec wsX1_findWithin ({ frames := 3, cells := 0, slots := 0, locals := 90 })).room s m ([.ref h0, .int (nI q)] : List Value).toArray below meth c H locs 0 0 (MQ below (va_Qi (fun (r9 : Int32) (u : (Nat → Int64) × (Nat → Int32) × Nat) => r9 = nI u.2.2 ∧ FI n u.1 u.2.1 u.2.2 ∧ ∀ x, x ≤ n → (bo u.1 x = true ↔ NR mem rts q x)) (fun (u : (Nat → Int64) × (Nat → Int32) × Nat) t => va_P D vwCl (cW cI cL h0 ad n B nb tp ob co rd rts offs u.2.1 mem frs btw u.1 stw) t.heap ∧ va_D A (cW cI cL h0 ad n B nb tp ob co rd rts offs u.2.1 mem frs btw u.1 stw)) A) ([.ref h0, .int (nI q)] : List Value).toArray s 0 0 A) (F0 m 57 ls []) := by
            intro e9
            induction e9 with
            | zero =>
              intro snw2 fnd2 z2 f H locs ls he hf1 hf2 hI hP hD hS hl
              exfalso; omega
            | succ e9 ih2 =>
              intro snw2 fnd2 z2 f H locs ls he hf1 hf2 hI hP hD hS hl
              refine lv_iload hx hb dX1_findWithin_57 (lv_at hl 6 rfl) ?_
              refine lv_iload hx hb dX1_findWithin_59 (lv_at hl 5 rfl) ?_
              refine xk_icmp_ge (tgt := 83) hx hb (by omega) (by omega) dX1_findWithin_61 (by decide) (fun c61 => ?_) (fun c61 => ?_)
              · refine lv_iload hx hb dX1_findWithin_83 (lv_at hl 5 rfl) ?_
                refine lv_istore_n (lv' := [(3, .int (nI z1)), (0, .ref h0), (1, .int (nI q)), (2, .int (nI z2)), (4, .int (nI j)), (5, .int (nI z1)), (6, .int (nI f))]) hx hb dX1_findWithin_85 rfl hl (by decide) rfl (fun ls hl => ?_)
                refine lv_iinc (v := nI (j + 1)) (lv' := [(4, .int (nI (j + 1))), (3, .int (nI z1)), (0, .ref h0), (1, .int (nI q)), (2, .int (nI z2)), (5, .int (nI z1)), (6, .int (nI f))]) hx hb dX1_findWithin_86 hl (k := 4) rfl (xk_inc j) (by decide) rfl (fun ls hl => ?_)
                refine lv_goto (tgt := 40) hx hb dX1_findWithin_89 (by decide) ?_
                have hfz : f = z1 := by omega
                subst hfz
                obtain ⟨w1, w2⟩ := fw_step hok hF hN hpr hI
                exact ih1 snw2 fnd2 z2 f (j + 1) H locs ls (by omega) (by omega) (hI.2.2.1) hI.1 w1 w2 hP hD hS (lv_sub hl [2, 3, 4, 1, 0] rfl)
              · obtain ⟨o, o1, o2, o3, o4⟩ := hF.2.2.1 f (by omega)
                have o5 : fnd2 f = nI o := by rw [hI.2.2.2 f (by omega)]; exact o3
                have o6 := NR_obj hok _ o ((hN o o2).mp o4)
                have o7 := hI.1.le
                refine lv_aload_n hx hb dX1_findWithin_64 rfl (lv_at hl 0 rfl) ?_
                refine lv_aload_n hx hb dX1_findWithin_65 rfl (lv_at hl 0 rfl) ?_
                refine va_get (D := D) (ci := 1) (v := .ref (ad 5)) (C := RX1) (T := TX1) (N := 15) hx hb hts in_X1_findWithin_X1 hown hK hP 0 rfl rfl 6 (by decide) (hts (.fieldLink RX1 48 "OffsetHeap" "found" "[I") (by decide +kernel)) (fun _ h9 => h9) rfl dX1_findWithin_66 ?_
                refine lv_iload hx hb dX1_findWithin_69 (lv_at hl 6 rfl) ?_
                refine xk_iald hx hb hK hP 5 0 rfl rfl (by omega) (by omega) dX1_findWithin_71 ?_
                refine xk_top o5 ?_
                refine lv_iload_n hx hb dX1_findWithin_72 rfl (lv_at hl 2 rfl) ?_
                refine xk_afti (wr := []) (ws' := fun u => cW cI cL h0 ad n B nb tp ob co rd rts offs u.2.1 mem frs btw u.1 stw) (va_runV (As := [.int (nI o), .int (nI z2)]) (rest := []) ⟨hx, hb, hml, hown, hts⟩ (c_findReferred l D cI cL h0 ad n B nb tp ob co rd rts offs fnd2 mem frs btw snw2 stw H.size o z2 hn hok o6.1 o6.2.1 o6.2.2 hI.1) (cwV 2 hts gX1_findWithin_X1_findReferred rfl rfl rfl (by decide +kernel) ⟨Nat.le_of_ble_eq_true rfl, Nat.le_of_ble_eq_true rfl⟩) (xk_preV (va_recv hK hP (ci := 1) (q0 := 0) rfl rfl) rfl hP hK (hD.weaken (fun _ _ _ _ => trivial))) rfl rfl hl.1 rfl (lv_room (Nat.le_of_ble_eq_true rfl)) dX1_findWithin_73 ⟨Nat.zero_le _, Nat.zero_le _⟩) hP hD hS hA [0, 1, 2, 3, 4, 5, 6, 7, 8, 9, 10, 11] [] [0, 1, 2, 3, 4, 5, 6, 7, 8, 9, 10, 11] rfl rfl (by decide) (by decide) (fun _ => rfl) (by decide) (fun r9 u H locs hpost hP hD hS => ?_)
                obtain ⟨snw3, fnd3, z3⟩ := u
                obtain ⟨rfl, hI3⟩ := hpost
                have hP : va_P D vwCl (cW cI cL h0 ad n B nb tp ob co rd rts offs fnd3 mem frs btw snw3 stw) H := hP
                have hD : va_D A (cW cI cL h0 ad n B nb tp ob co rd rts offs fnd3 mem frs btw snw3 stw) := hD
                refine xk_top (y := nI z3) rfl ?_
                refine lv_istore_n (lv' := [(2, .int (nI z3)), (0, .ref h0), (1, .int (nI q)), (3, .int (nI a)), (4, .int (nI j)), (5, .int (nI z1)), (6, .int (nI f))]) hx hb dX1_findWithin_76 rfl hl (by decide) rfl (fun ls hl => ?_)
                refine lv_iinc (v := nI (f + 1)) (lv' := [(6, .int (nI (f + 1))), (2, .int (nI z3)), (0, .ref h0), (1, .int (nI q)), (3, .int (nI a)), (4, .int (nI j)), (5, .int (nI z1))]) hx hb dX1_findWithin_77 hl (k := 6) rfl (xk_inc f) (by decide) rfl (fun ls hl => ?_)
                refine lv_goto (tgt := 57) hx hb dX1_findWithin_80 (by decide) ?_
                exact ih2 snw3 fnd3 z3 (f + 1) H locs ls (by omega) (by omega) (by omega) (hI.trans hI3 (fun x _ => SS_s hn (by omega) o2 o3 x)) hP hD hS (lv_sub hl [2, 3, 1, 4, 5, 6, 0] rfl)
          exact inn (z1 + 1) snw1 fnd1 z1 a H locs ls (by omega) (by omega) (by omega) (StpF.refl hF (fun x _ _ h => absurd h SS_0)) hP hD hS (lv_sub hl [2, 3, 4, 5, 6, 1, 0] rfl)
  refine lv_aload_n hx hb dX1_findWithin_0 rfl (lv_at hl 0 rfl) ?_
  refine va_get (D := D) (ci := 1) (v := .ref (ad 6)) (C := RX1) (T := TX1) (N := 15) hx hb hts in_X1_findWithin_X1 hown hK hP 0 rfl rfl 7 (by decide) (hts (.fieldLink RX1 51 "OffsetHeap" "seen" "LOffsetHeap$BitRow;") (by decide +kernel)) (fun _ h9 => h9) rfl dX1_findWithin_1 ?_
  refine xk_aftv (wr := [(h0, .inr (1, [.int (nI n), .int (nI B), .int (nI nb), .ref (ad 1), .ref (ad 2), .ref (ad 4), .ref (ad 5), .ref (ad 6), .ref (ad 10), .ref (ad 8), .ref (ad 9), .int (nI tp), .int (nI ob), .int (nI co), .int (nI rd)])), ((ad 1), .inl (cI, 8, .inl rts)), ((ad 2), .inr (0, [.ref (ad 3)])), ((ad 3), .inl (cL, (n / 64 + 1), .inr (.inl btw))), ((ad 4), .inl (cI, nb, .inl offs)), ((ad 5), .inl (cI, n, .inl fnd)), ((ad 8), .inl (cI, (n + 1), .inl mem)), ((ad 9), .inl (cI, (n + 1), .inl frs)), ((ad 10), .inr (0, [.ref (ad 11)])), ((ad 11), .inl (cL, (n / 64 + 1), .inr (.inl stw)))]) (ws' := fun f2 => cW cI cL h0 ad n B nb tp ob co rd rts offs fnd mem frs btw f2 stw) (va_runV (As := []) (rest := []) ⟨hx, hb, hml, hown, hts⟩ (c_clear l D cL (ad 6) (ad 7) (n / 64 + 1) snw (by omega) s.heap.size) (cwV 0 hts gX1_findWithin_X0_clear rfl rfl rfl (by decide +kernel) ⟨Nat.le_of_ble_eq_true rfl, Nat.le_of_ble_eq_true rfl⟩) (xk_preV (va_recv hK hP (ci := 0) (q0 := 6) rfl rfl) rfl (hP.sub [6, 7] rfl) (hK.sub [1] rfl) ((hD.sub [6, 7] (by decide) rfl).weaken (fun _ _ _ _ => trivial))) rfl rfl hl.1 rfl (lv_room (Nat.le_of_ble_eq_true rfl)) dX1_findWithin_4 ⟨Nat.zero_le _, Nat.zero_le _⟩) hP hD hS hA [6, 7] [0, 1, 2, 3, 4, 5, 8, 9, 10, 11] [0, 1, 2, 3, 4, 5, 10, 11, 6, 7, 8, 9] rfl rfl (by decide) (by decide) (fun _ => rfl) (by decide) (fun f2 H locs hf2 hP hD hS => ?_)
  obtain ⟨sn0, esn0⟩ : ∃ z, z = f2 := ⟨_, rfl⟩
  rw [← esn0] at hP hD hf2
  have hsn0 := hf2
  have hP : va_P D vwCl (cW cI cL h0 ad n B nb tp ob co rd rts offs fnd mem frs btw sn0 stw) H := hP
  have hD : va_D A (cW cI cL h0 ad n B nb tp ob co rd rts offs fnd mem frs btw sn0 stw) := hD
  have bz : ∀ x, x ≤ n → bo sn0 x = false := fun x hx => bo_c0 (hsn0 (x / 64) (by omega))
  have hF0 : FI n sn0 fnd 0 := ⟨(cn_0 (fun i hi => bz i (by omega))).symm, bz 0 (by omega), fun f hf => absurd hf (Nat.not_lt_zero f), fun x hx h => by rw [bz x hx] at h; cases h⟩
  have keyR : ∀ (d : Nat) (snw1 : Nat → Int64) (fnd1 : Nat → Int32) (z1 i : Nat) (H : Heap) (locs : List Loc) (ls : Array Slot), 9 ≤ i + d → i ≤ 8 → StpF n sn0 fnd 0 (fun x => ∃ k, k < i ∧ tn (rts k) = x) snw1 fnd1 z1 → va_P D vwCl (cW cI cL h0 ad n B nb tp ob co rd rts offs fnd1 mem frs btw snw1 stw) H → va_D A (cW cI cL h0 ad n B nb tp ob co rd rts offs fnd1 mem frs btw snw1 stw) → va_S A s.heap H locs → lv_has ls 7 [(0, .ref h0), (1, .int (nI q)), (2, .int (nI z1)), (3, .int (nI i))] → W p l e (headSpec wsX1_findWithin ({ frames := 3, cells := 0, slots := 0, locals := 90 })).room s m ([.ref h0, .int (nI q)] : List Value).toArray below meth c H locs 0 0 (MQ below (va_Qi (fun (r9 : Int32) (u : (Nat → Int64) × (Nat → Int32) × Nat) => r9 = nI u.2.2 ∧ FI n u.1 u.2.1 u.2.2 ∧ ∀ x, x ≤ n → (bo u.1 x = true ↔ NR mem rts q x)) (fun (u : (Nat → Int64) × (Nat → Int32) × Nat) t => va_P D vwCl (cW cI cL h0 ad n B nb tp ob co rd rts offs u.2.1 mem frs btw u.1 stw) t.heap ∧ va_D A (cW cI cL h0 ad n B nb tp ob co rd rts offs u.2.1 mem frs btw u.1 stw)) A) ([.ref h0, .int (nI q)] : List Value).toArray s 0 0 A) (F0 m 11 ls []) := by
    intro d
    induction d with
    | zero =>
      intro snw1 fnd1 z1 i H locs ls hd hi hI hP hD hS hl
      exfalso; omega
    | succ d ih =>
      intro snw1 fnd1 z1 i H locs ls hd hi hI hP hD hS hl
      refine lv_iload_n hx hb dX1_findWithin_11 rfl (lv_at hl 3 rfl) ?_
      refine lv_bipush (v := nI 8) hx hb dX1_findWithin_12 (by decide +kernel) ?_
      refine xk_icmp_ge (tgt := 35) hx hb (by omega) (by omega) dX1_findWithin_14 (by decide) (fun c14 => ?_) (fun c14 => ?_)
      · refine lv_iconst (v := nI 0) hx hb dX1_findWithin_35 (by decide +kernel) ?_
        refine lv_istore_n (lv' := [(3, .int (nI 0)), (0, .ref h0), (1, .int (nI q)), (2, .int (nI z1))]) hx hb dX1_findWithin_36 rfl hl (by decide) rfl (fun ls hl => ?_)
        refine lv_iconst (v := nI 0) hx hb dX1_findWithin_37 (by decide +kernel) ?_
        refine lv_istore (lv' := [(4, .int (nI 0)), (3, .int (nI 0)), (0, .ref h0), (1, .int (nI q)), (2, .int (nI z1))]) hx hb dX1_findWithin_38 hl (by decide) rfl (fun ls hl => ?_)
        have hi8 : i = 8 := by omega
        rw [hi8] at hI
        exact keyO (q + 1) snw1 fnd1 z1 0 0 H locs ls (by omega) (by omega) (by omega) hI.1 (fun x hx => by rw [hI.2.1 x hx, bz x hx]; simp only [NR, Bool.false_eq_true, false_or]; exact ⟨fun h => ⟨by omega, h.2⟩, fun h => ⟨by omega, h.2⟩⟩) (fun f hf => absurd hf (Nat.not_lt_zero f)) hP hD hS (lv_sub hl [2, 3, 4, 1, 0] rfl)
      · have w := hok.rootN (k := i) (by omega)
        have w2 := w.2
        refine lv_aload_n hx hb dX1_findWithin_17 rfl (lv_at hl 0 rfl) ?_
        refine lv_aload_n hx hb dX1_findWithin_18 rfl (lv_at hl 0 rfl) ?_
        refine va_get (D := D) (ci := 1) (v := .ref (ad 1)) (C := RX1) (T := TX1) (N := 15) hx hb hts in_X1_findWithin_X1 hown hK hP 0 rfl rfl 3 (by decide) (hts (.fieldLink RX1 32 "OffsetHeap" "roots" "[I") (by decide +kernel)) (fun _ h9 => h9) rfl dX1_findWithin_19 ?_
        refine lv_iload_n hx hb dX1_findWithin_22 rfl (lv_at hl 3 rfl) ?_
        refine xk_iald hx hb hK hP 1 0 rfl rfl (by omega) (by omega) dX1_findWithin_23 ?_
        refine xk_top w.1 ?_
        refine lv_iload_n hx hb dX1_findWithin_24 rfl (lv_at hl 2 rfl) ?_
        refine xk_afti (wr := []) (ws' := fun u => cW cI cL h0 ad n B nb tp ob co rd rts offs u.2.1 mem frs btw u.1 stw) (va_runV (As := [.int (nI (tn (rts i))), .int (nI z1)]) (rest := []) ⟨hx, hb, hml, hown, hts⟩ (c_find l D cI cL h0 ad n B nb tp ob co rd rts offs fnd1 mem frs btw snw1 stw H.size (tn (rts i)) z1 hn (by omega) hI.1) (cwV 2 hts gX1_findWithin_X1_find rfl rfl rfl (by decide +kernel) ⟨Nat.le_of_ble_eq_true rfl, Nat.le_of_ble_eq_true rfl⟩) (xk_preV (va_recv hK hP (ci := 1) (q0 := 0) rfl rfl) rfl hP hK (hD.weaken (fun _ _ _ _ => trivial))) rfl rfl hl.1 rfl (lv_room (Nat.le_of_ble_eq_true rfl)) dX1_findWithin_25 ⟨Nat.zero_le _, Nat.zero_le _⟩) hP hD hS hA [0, 1, 2, 3, 4, 5, 6, 7, 8, 9, 10, 11] [] [0, 1, 2, 3, 4, 5, 6, 7, 8, 9, 10, 11] rfl rfl (by decide) (by decide) (fun _ => rfl) (by decide) (fun r9 u H locs hpost hP hD hS => ?_)
        obtain ⟨snw2, fnd2, z2⟩ := u
        obtain ⟨rfl, hI2⟩ := hpost
        have hP : va_P D vwCl (cW cI cL h0 ad n B nb tp ob co rd rts offs fnd2 mem frs btw snw2 stw) H := hP
        have hD : va_D A (cW cI cL h0 ad n B nb tp ob co rd rts offs fnd2 mem frs btw snw2 stw) := hD
        refine xk_top (y := nI z2) rfl ?_
        refine lv_istore_n (lv' := [(2, .int (nI z2)), (0, .ref h0), (1, .int (nI q)), (3, .int (nI i))]) hx hb dX1_findWithin_28 rfl hl (by decide) rfl (fun ls hl => ?_)
        refine lv_iinc (v := nI (i + 1)) (lv' := [(3, .int (nI (i + 1))), (2, .int (nI z2)), (0, .ref h0), (1, .int (nI q))]) hx hb dX1_findWithin_29 hl (k := 3) rfl (xk_inc i) (by decide) rfl (fun ls hl => ?_)
        refine lv_goto (tgt := 11) hx hb dX1_findWithin_32 (by decide) ?_
        exact ih snw2 fnd2 z2 (i + 1) H locs ls (by omega) (by omega) (hI.trans hI2 (fun x _ => ex_s (f := fun k => tn (rts k)))) hP hD hS (lv_sub hl [2, 3, 1, 0] rfl)
  refine lv_iconst (v := nI 0) hx hb dX1_findWithin_7 (by decide +kernel) ?_
  refine lv_istore_n (lv' := [(2, .int (nI 0)), (0, .ref h0), (1, .int (nI q))]) hx hb dX1_findWithin_8 rfl hl (by decide) rfl (fun ls hl => ?_)
  refine lv_iconst (v := nI 0) hx hb dX1_findWithin_9 (by decide +kernel) ?_
  refine lv_istore_n (lv' := [(3, .int (nI 0)), (2, .int (nI 0)), (0, .ref h0), (1, .int (nI q))]) hx hb dX1_findWithin_10 rfl hl (by decide) rfl (fun ls hl => ?_)
  exact keyR 9 sn0 fnd 0 0 H locs ls (by omega) (by omega) (StpF.refl hF0 (fun x _ _ h => absurd h ex_0)) hP hD hS (lv_sub hl [2, 3, 1, 0] rfl)
set_option maxHeartbeats 4000000 in
set_option maxRecDepth 100000 in
/-- near -/
theorem c_near (l : Launch) (D : va_G) (cI cL : ClassId) (h0 : Nat) (ad : Nat → Nat) (n B nb tp ob co rd : Nat) (rts offs fnd mem frs : Nat → Int32) (btw snw stw : Nat → Int64) (sz : Nat) (x : Int32) (hn : n ≤ 4000) (hok : okS n tp mem (bo stw) rts) : Met l yX1_near wsX1_near ({ frames := 4, cells := 0, slots := 0, locals := 120 }) (va_Pc [.ref h0, .int x] (fun U => U.heap.size = sz ∧ va_P D vwCl (cW cI cL h0 ad n B nb tp ob co rd rts offs fnd mem frs btw snw stw) U.heap ∧ va_K D vwCl [(cI, .int), (cL, .long)] U ∧ va_D (fun _ => True) (cW cI cL h0 ad n B nb tp ob co rd rts offs fnd mem frs btw snw stw))) (va_Qi (fun (r9 : Int32) (u : (Nat → Int64) × (Nat → Int32)) => (inR 101 x = false ∧ r9 = -1) ∨ ∃ q b, q ≤ 100 ∧ x = nI q ∧ (∀ y, y ≤ n → (b y = true ↔ NR mem rts q y)) ∧ r9 = nI (cn b (n + 1))) (fun (u : (Nat → Int64) × (Nat → Int32)) t => va_P D vwCl (cW cI cL h0 ad n B nb tp ob co rd rts offs u.2 mem frs btw u.1 stw) t.heap ∧ va_D (va_A (cW cI cL h0 ad n B nb tp ob co rd rts offs fnd mem frs btw snw stw) sz) (cW cI cL h0 ad n B nb tp ob co rd rts offs u.2 mem frs btw u.1 stw)) (va_A (cW cI cL h0 ad n B nb tp ob co rd rts offs fnd mem frs btw snw stw) sz)) 0 0 (va_A (cW cI cL h0 ad n B nb tp ob co rd rts offs fnd mem frs btw snw stw) sz) := by
  refine Met.ofW (cc := cX1_near) (maxL := 2) (ret := (some .int)) (by decide) rfl ?_
  intro p e s m args below meth c s₁ B9 hml hv
  obtain ⟨rfl, hsz, hP, hK, hD0⟩ := hv
  have hx := B9.exec
  have hb := B9.bytes
  have hr := B9.returns
  have hts := atoms_spec (ws := wsX1_near) B9.pre
  have hown : s.vm.findClass RX1 = some m.cls := findClass_of_methodNamed B9.named
  have hlocks := B9.notSynchronized
  subst hsz
  have hD := hD0.self (sz := s.heap.size)
  generalize hAe : va_A (cW cI cL h0 ad n B nb tp ob co rd rts offs fnd mem frs btw snw stw) s.heap.size = A at hD ⊢
  have hA : ∀ q : Nat, s.heap.size ≤ q → A q := fun q h => by rw [← hAe]; exact Or.inr h
  have hS : va_S A s.heap s.heap [] := va_S.rf
  have hl := lv_entry ([.ref h0, .int x]) (n := 2) (Nat.le_of_ble_eq_true rfl)
  rw [lg_entry_eq]
  generalize (lg_sl ([.ref h0, .int x]) ++ List.replicate (2 - (lg_sl ([.ref h0, .int x])).length) Slot.unset).toArray = ls at hl ⊢
  have hl : lv_has ls 2 [(0, .ref h0), (1, .int x)] := hl
  rcases xk_sgn x with hneg | ⟨a, ha, rfl⟩
  · refine lv_iload_n hx hb dX1_near_0 rfl (lv_at hl 1 rfl) ?_
    refine lv_if_lt (tgt := 18) hx hb dX1_near_1 (by decide) (fun c1 => ?_) (fun c1 => absurd hneg c1)
    refine lv_iconst (v := (-1)) hx hb dX1_near_18 (by decide +kernel) ?_
    exact W.iret hx hb hr (fun t ht hW => ⟨⟨_, (snw, fnd), rfl, Or.inl ⟨inR_neg hneg, rfl⟩, by rw [ht]; exact hP, hD⟩, hS.F ht⟩) hS.2.2 dX1_near_19
  · refine lv_iload_n hx hb dX1_near_0 rfl (lv_at hl 1 rfl) ?_
    refine xk_if_lt (tgt := 18) hx hb (by omega) dX1_near_1 (by decide) ?_
    refine lv_iload_n hx hb dX1_near_4 rfl (lv_at hl 1 rfl) ?_
    refine lv_bipush (v := nI 100) hx hb dX1_near_5 (by decide +kernel) ?_
    refine xk_icmp_gt (tgt := 18) hx hb (by omega) (by omega) dX1_near_7 (by decide) (fun c7 => ?_) (fun c7 => ?_)
    · refine lv_iconst (v := (-1)) hx hb dX1_near_18 (by decide +kernel) ?_
      exact W.iret hx hb hr (fun t ht hW => ⟨⟨_, (snw, fnd), rfl, Or.inl ⟨by rw [inR_nat ha]; simp; omega, rfl⟩, by rw [ht]; exact hP, hD⟩, hS.F ht⟩) hS.2.2 dX1_near_19
    · refine lv_aload_n hx hb dX1_near_10 rfl (lv_at hl 0 rfl) ?_
      refine lv_iload_n hx hb dX1_near_11 rfl (lv_at hl 1 rfl) ?_
      refine xk_afti (wr := []) (ws' := fun u => cW cI cL h0 ad n B nb tp ob co rd rts offs u.2.1 mem frs btw u.1 stw) (va_runV (As := [.int (nI a)]) (rest := []) ⟨hx, hb, hml, hown, hts⟩ (c_findWithin l D cI cL h0 ad n B nb tp ob co rd rts offs fnd mem frs btw snw stw s.heap.size a hn (by omega) hok) (cwV 1 hts gX1_near_X1_findWithin rfl rfl rfl (by decide +kernel) ⟨Nat.le_of_ble_eq_true rfl, Nat.le_of_ble_eq_true rfl⟩) (xk_preV (va_recv hK hP (ci := 1) (q0 := 0) rfl rfl) rfl hP hK (hD.weaken (fun _ _ _ _ => trivial))) rfl rfl hl.1 rfl (lv_room (Nat.le_of_ble_eq_true rfl)) dX1_near_12 ⟨Nat.zero_le _, Nat.zero_le _⟩) hP hD hS hA [0, 1, 2, 3, 4, 5, 6, 7, 8, 9, 10, 11] [] [0, 1, 2, 3, 4, 5, 6, 7, 8, 9, 10, 11] rfl rfl (by decide) (by decide) (fun _ => rfl) (by decide) (fun r9 u H locs hpost hP hD hS => ?_)
      obtain ⟨snw1, fnd1, z1⟩ := u
      obtain ⟨rfl, hF1, hN1⟩ := hpost
      have hP : va_P D vwCl (cW cI cL h0 ad n B nb tp ob co rd rts offs fnd1 mem frs btw snw1 stw) H := hP
      have hD : va_D A (cW cI cL h0 ad n B nb tp ob co rd rts offs fnd1 mem frs btw snw1 stw) := hD
      refine xk_top (y := nI z1) rfl ?_
      refine lv_goto (tgt := 19) hx hb dX1_near_15 (by decide) ?_
      exact W.iret hx hb hr (fun t ht hW => ⟨⟨_, (snw1, fnd1), rfl, Or.inr ⟨a, bo snw1, by omega, rfl, hN1, by rw [← hF1.1]⟩, by rw [ht]; exact hP, hD⟩, hS.F ht⟩) hS.2.2 dX1_near_19
