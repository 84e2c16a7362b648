/-! the class: make, refer, set, root -/
def cRef (tp : Nat) (mem : Nat → Int32) (st : Nat → Bool) (x k to : Int32) (o j : Nat) : Prop := (o < 2 ^ 31 ∧ x = nI o ∧ 1 ≤ o ∧ o < tp ∧ st o = true) ∧ (j < 2 ^ 31 ∧ k = nI j ∧ j < rfs mem o) ∧ isL tp st to = true
def cSet (tp : Nat) (mem : Nat → Int32) (st : Nat → Bool) (x k : Int32) (o j : Nat) : Prop := (o < 2 ^ 31 ∧ x = nI o ∧ 1 ≤ o ∧ o < tp ∧ st o = true) ∧ (j < 2 ^ 31 ∧ k = nI j ∧ j < pln mem o)
theorem isO_no {tp o : Nat} {st : Nat → Bool} {x : Int32} (h : isO tp st x = false) (ho : o < 2 ^ 31) (e : x = nI o) (h1 : 1 ≤ o) (h2 : o < tp) (h3 : st o = true) : False := by
  rw [e, isO_nat ho] at h
  simp [h1, h2, h3] at h
theorem nI_inj {a b : Nat} (ha : a < 2 ^ 31) (hb : b < 2 ^ 31) (h : nI a = nI b) : a = b := (nI_eq ha hb).mp h
theorem hd_p {r w : Nat} (hr : r ≤ 15) : (256 * w + 16 * r) / 16 % 16 = r ∧ (256 * w + 16 * r) / 256 = w := by omega
theorem in_X1_make_X1 : ∀ w ∈ wsX10, w ∈ wsX1_make := by decide +kernel
theorem in_X1_refer_X1 : ∀ w ∈ wsX10, w ∈ wsX1_refer := by decide +kernel
theorem in_X1_set_X1 : ∀ w ∈ wsX10, w ∈ wsX1_set := by decide +kernel
theorem in_X1_root_X1 : ∀ w ∈ wsX10, w ∈ wsX1_root := by decide +kernel
set_option maxHeartbeats 4000000 in
set_option maxRecDepth 100000 in
/-- make -/
theorem c_make (l : Launch) (D : va_G) (cI cL : ClassId) (h0 : Nat) (ad : Nat → Nat) (n B nb tp ob co rd : Nat) (rts offs fnd mem frs : Nat → Int32) (btw snw stw : Nat → Int64) (sz : Nat) (x y : Int32) (hn : n ≤ 4000) (hob : ob ≤ 4000) (htp : tp ≤ n + 1) (htp1 : 1 ≤ tp) : Met l yX1_make wsX1_make ({ frames := 2, cells := 0, slots := 0, locals := 60 }) (va_Pc [.ref h0, .int x, .int y] (fun U => U.heap.size = sz ∧ va_P D vwCl (cW cI cL h0 ad n B nb tp ob co rd rts offs fnd mem frs btw snw stw) U.heap ∧ va_K D vwCl [(cI, .int), (cL, .long)] U ∧ va_D (fun _ => True) (cW cI cL h0 ad n B nb tp ob co rd rts offs fnd mem frs btw snw stw))) (va_Qi (fun (r9 : Int32) (u : Nat × Nat × (Nat → Int32) × (Nat → Int64)) => (u = (tp, ob, mem, stw) ∧ ((inR 16 x = false ∨ inR 101 y = false) ∧ r9 = -1)) ∨ (u = (tp, ob, mem, stw) ∧ ∃ r w, x = nI r ∧ y = nI w ∧ r ≤ 15 ∧ w ≤ 100 ∧ n < tp + r + w ∧ r9 = nI 0) ∨ (∃ r w, x = nI r ∧ y = nI w ∧ r ≤ 15 ∧ w ≤ 100 ∧ tp + r + w ≤ n ∧ r9 = nI tp ∧ u = (tp + (1 + r + w), ob + 1, upd mem tp (nI (256 * w + 16 * r)), bput stw tp))) (fun (u : Nat × Nat × (Nat → Int32) × (Nat → Int64)) t => va_P D vwCl (cW cI cL h0 ad n B nb u.1 u.2.1 co rd rts offs fnd u.2.2.1 frs btw snw u.2.2.2) t.heap ∧ va_D (va_A (cW cI cL h0 ad n B nb tp ob co rd rts offs fnd mem frs btw snw stw) sz) (cW cI cL h0 ad n B nb u.1 u.2.1 co rd rts offs fnd u.2.2.1 frs btw snw u.2.2.2)) (va_A (cW cI cL h0 ad n B nb tp ob co rd rts offs fnd mem frs btw snw stw) sz)) 0 0 (va_A (cW cI cL h0 ad n B nb tp ob co rd rts offs fnd mem frs btw snw stw) sz) := by
  refine Met.ofW (cc := cX1_make) (maxL := 5) (ret := (some .int)) (by decide) rfl ?_
  intro p e s m args below meth c s₁ B9 hml hv
  obtain ⟨rfl, hsz, hP, hK, hD0⟩ := hv
  have hx := B9.exec
  have hb := B9.bytes
  have hr := B9.returns
  have hts := atoms_spec (ws := wsX1_make) B9.pre
  have hown : s.vm.findClass RX1 = some m.cls := findClass_of_methodNamed B9.named
  have hlocks := B9.notSynchronized
  subst hsz
  have hD := hD0.self (sz := s.heap.size)
  generalize hAe : va_A (cW cI cL h0 ad n B nb tp ob co rd rts offs fnd mem frs btw snw stw) s.heap.size = A at hD ⊢
  have hA : ∀ q : Nat, s.heap.size ≤ q → A q := fun q h => by rw [← hAe]; exact Or.inr h
  have hS : va_S A s.heap s.heap [] := va_S.rf
  have hl := lv_entry ([.ref h0, .int x, .int y]) (n := 5) (Nat.le_of_ble_eq_true rfl)
  rw [lg_entry_eq]
  generalize (lg_sl ([.ref h0, .int x, .int y]) ++ List.replicate (5 - (lg_sl ([.ref h0, .int x, .int y])).length) Slot.unset).toArray = ls at hl ⊢
  have hl : lv_has ls 5 [(0, .ref h0), (1, .int x), (2, .int y)] := hl
  refine lv_iload_n hx hb dX1_make_0 rfl (lv_at hl 1 rfl) ?_
  refine lv_if_lt (tgt := 20) hx hb dX1_make_1 (by decide) (fun c1 => ?_) (fun c1 => ?_)
  · refine lv_iconst (v := (-1)) hx hb dX1_make_20 (by decide +kernel) ?_
    exact W.iret hx hb hr (fun t ht hW => ⟨⟨_, (tp, ob, mem, stw), rfl, Or.inl ⟨rfl, Or.inl (inR_neg c1), rfl⟩, by rw [ht]; exact hP, hD⟩, hS.F ht⟩) hS.2.2 dX1_make_21
  · obtain ⟨r, hr0, er⟩ := nI_of c1
    refine lv_iload_n hx hb dX1_make_4 rfl (lv_at hl 1 rfl) ?_
    refine xk_top er ?_
    refine lv_bipush (v := nI 15) hx hb dX1_make_5 (by decide +kernel) ?_
    refine xk_icmp_gt (tgt := 20) hx hb (by omega) (by omega) dX1_make_7 (by decide) (fun c7 => ?_) (fun c7 => ?_)
    · refine lv_iconst (v := (-1)) hx hb dX1_make_20 (by decide +kernel) ?_
      exact W.iret hx hb hr (fun t ht hW => ⟨⟨_, (tp, ob, mem, stw), rfl, Or.inl ⟨rfl, Or.inl (by rw [er, inR_nat hr0]; simp; omega), rfl⟩, by rw [ht]; exact hP, hD⟩, hS.F ht⟩) hS.2.2 dX1_make_21
    · refine lv_iload_n hx hb dX1_make_10 rfl (lv_at hl 2 rfl) ?_
      refine lv_if_lt (tgt := 20) hx hb dX1_make_11 (by decide) (fun c11 => ?_) (fun c11 => ?_)
      · refine lv_iconst (v := (-1)) hx hb dX1_make_20 (by decide +kernel) ?_
        exact W.iret hx hb hr (fun t ht hW => ⟨⟨_, (tp, ob, mem, stw), rfl, Or.inl ⟨rfl, Or.inr (inR_neg c11), rfl⟩, by rw [ht]; exact hP, hD⟩, hS.F ht⟩) hS.2.2 dX1_make_21
      · obtain ⟨w, hw, ew⟩ := nI_of c11
        refine lv_iload_n hx hb dX1_make_14 rfl (lv_at hl 2 rfl) ?_
        refine xk_top ew ?_
        refine lv_bipush (v := nI 100) hx hb dX1_make_15 (by decide +kernel) ?_
        refine xk_icmp_le (tgt := 22) hx hb (by omega) (by omega) dX1_make_17 (by decide) (fun c17 => ?_) (fun c17 => ?_)
        · have hd := hd_p (w := w) (r := r) (by omega)
          refine lv_iload_n hx hb dX1_make_22 rfl (lv_at hl 1 rfl) ?_
          refine xk_top er ?_
          refine lv_iload_n hx hb dX1_make_23 rfl (lv_at hl 2 rfl) ?_
          refine xk_top ew ?_
          refine xk_roS (As := [.int (nI r), .int (nI w)]) (rest := []) ⟨hx, hb, hml, hown, hts⟩ (c_headerOf l r w) (va_cwS 2 hts gX1_make_X1_headerOf rfl rfl rfl (by decide +kernel) ⟨Nat.le_of_ble_eq_true rfl, Nat.le_of_ble_eq_true rfl⟩) rfl hl.1 rfl (Nat.le_of_ble_eq_true rfl) dX1_make_24 ⟨Nat.zero_le _, Nat.zero_le _⟩ ?_
          refine lv_istore_n (lv' := [(3, .int (nI (256 * w + 16 * r))), (0, .ref h0), (1, .int x), (2, .int y)]) hx hb dX1_make_27 rfl hl (by decide) rfl (fun ls hl => ?_)
          refine lv_iload_n hx hb dX1_make_28 rfl (lv_at hl 0 rfl) ?_
          refine xk_roS (As := [.int (nI (256 * w + 16 * r))]) (rest := []) ⟨hx, hb, hml, hown, hts⟩ (c_sizeBy l (256 * w + 16 * r) (by omega)) (va_cwS 1 hts gX1_make_X1_sizeBy rfl rfl rfl (by decide +kernel) ⟨Nat.le_of_ble_eq_true rfl, Nat.le_of_ble_eq_true rfl⟩) rfl hl.1 rfl (Nat.le_of_ble_eq_true rfl) dX1_make_29 ⟨Nat.zero_le _, Nat.zero_le _⟩ ?_
          refine lv_aload_n hx hb dX1_make_32 rfl (lv_at hl 1 rfl) ?_
          refine va_get (D := D) (ci := 1) (v := .int (nI n)) (C := RX1) (T := TX1) (N := 15) hx hb hts in_X1_make_X1 hown hK hP 0 rfl rfl 0 (by decide) (hts (.fieldLink RX1 18 "OffsetHeap" "last" "I") (by decide +kernel)) (fun _ h9 => h9) rfl dX1_make_33 ?_
          refine lv_iconst (v := nI 1) hx hb dX1_make_36 (by decide +kernel) ?_
          refine lv_iadd hx hb dX1_make_37 ?_
          refine xk_top (nI_add _ _) ?_
          refine lv_aload_n hx hb dX1_make_38 rfl (lv_at hl 1 rfl) ?_
          refine va_get (D := D) (ci := 1) (v := .int (nI tp)) (C := RX1) (T := TX1) (N := 15) hx hb hts in_X1_make_X1 hown hK hP 0 rfl rfl 11 (by decide) (hts (.fieldLink RX1 63 "OffsetHeap" "top" "I") (by decide +kernel)) (fun _ h9 => h9) rfl dX1_make_39 ?_
          refine lv_isub hx hb dX1_make_42 ?_
          refine xk_top (pk_sub (by omega)) ?_
          refine xk_icmp_le (tgt := 48) hx hb (by omega) (by omega) dX1_make_43 (by decide) (fun c43 => ?_) (fun c43 => ?_)
          · refine lv_aload_n hx hb dX1_make_48 rfl (lv_at hl 1 rfl) ?_
            refine va_get (D := D) (ci := 1) (v := .int (nI tp)) (C := RX1) (T := TX1) (N := 15) hx hb hts in_X1_make_X1 hown hK hP 0 rfl rfl 11 (by decide) (hts (.fieldLink RX1 63 "OffsetHeap" "top" "I") (by decide +kernel)) (fun _ h9 => h9) rfl dX1_make_49 ?_
            refine lv_istore (lv' := [(4, .int (nI tp)), (3, .int (nI (256 * w + 16 * r))), (0, .ref h0), (1, .int x), (2, .int y)]) hx hb dX1_make_52 hl (by decide) rfl (fun ls hl => ?_)
            refine lv_aload_n hx hb dX1_make_54 rfl (lv_at hl 2 rfl) ?_
            refine va_get (D := D) (ci := 1) (v := .ref (ad 8)) (C := RX1) (T := TX1) (N := 15) hx hb hts in_X1_make_X1 hown hK hP 0 rfl rfl 9 (by decide) (hts (.fieldLink RX1 57 "OffsetHeap" "space" "[I") (by decide +kernel)) (fun _ h9 => h9) rfl dX1_make_55 ?_
            refine lv_iload hx hb dX1_make_58 (lv_at hl 0 rfl) ?_
            refine lv_iload_n hx hb dX1_make_60 rfl (lv_at hl 1 rfl) ?_
            refine xk_iast hx hb hK hP hD hS 8 0 rfl rfl (by omega) (by omega) dX1_make_61 (fun H locs hP hD hS => ?_)
            have hP : va_P D vwCl (cW cI cL h0 ad n B nb tp ob co rd rts offs fnd (upd mem tp (nI (256 * w + 16 * r))) frs btw snw stw) H := hP
            have hD : va_D A (cW cI cL h0 ad n B nb tp ob co rd rts offs fnd (upd mem tp (nI (256 * w + 16 * r))) frs btw snw stw) := hD
            refine lv_aload_n hx hb dX1_make_62 rfl (lv_at hl 2 rfl) ?_
            refine va_get (D := D) (ci := 1) (v := .ref (ad 10)) (C := RX1) (T := TX1) (N := 15) hx hb hts in_X1_make_X1 hown hK hP 0 rfl rfl 8 (by decide) (hts (.fieldLink RX1 54 "OffsetHeap" "starts" "LOffsetHeap$BitRow;") (by decide +kernel)) (fun _ h9 => h9) rfl dX1_make_63 ?_
            refine lv_iload hx hb dX1_make_66 (lv_at hl 0 rfl) ?_
            refine xk_aftv (wr := [(h0, .inr (1, [.int (nI n), .int (nI B), .int (nI nb), .ref (ad 1), .ref (ad 2), .ref (ad 4), .ref (ad 5), .ref (ad 6), .ref (ad 10), .ref (ad 8), .ref (ad 9), .int (nI tp), .int (nI ob), .int (nI co), .int (nI rd)])), ((ad 1), .inl (cI, 8, .inl rts)), ((ad 2), .inr (0, [.ref (ad 3)])), ((ad 3), .inl (cL, (n / 64 + 1), .inr (.inl btw))), ((ad 4), .inl (cI, nb, .inl offs)), ((ad 5), .inl (cI, n, .inl fnd)), ((ad 6), .inr (0, [.ref (ad 7)])), ((ad 7), .inl (cL, (n / 64 + 1), .inr (.inl snw))), ((ad 8), .inl (cI, (n + 1), .inl (upd mem tp (nI (256 * w + 16 * r))))), ((ad 9), .inl (cI, (n + 1), .inl frs))]) (ws' := fun f2 => cW cI cL h0 ad n B nb tp ob co rd rts offs fnd (upd mem tp (nI (256 * w + 16 * r))) frs btw snw f2) (va_runV (As := [.int (nI tp)]) (rest := []) ⟨hx, hb, hml, hown, hts⟩ (c_put l D cL (ad 10) (ad 11) (n / 64 + 1) stw (by omega) H.size tp (by omega) (by omega)) (cwV 1 hts gX1_make_X0_put rfl rfl rfl (by decide +kernel) ⟨Nat.le_of_ble_eq_true rfl, Nat.le_of_ble_eq_true rfl⟩) (xk_preV (va_recv hK hP (ci := 0) (q0 := 10) rfl rfl) rfl (hP.sub [10, 11] rfl) (hK.sub [1] rfl) ((hD.sub [10, 11] (by decide) rfl).weaken (fun _ _ _ _ => trivial))) rfl rfl hl.1 rfl (lv_room (Nat.le_of_ble_eq_true rfl)) dX1_make_68 ⟨Nat.zero_le _, Nat.zero_le _⟩) hP hD hS hA [10, 11] [0, 1, 2, 3, 4, 5, 6, 7, 8, 9] [0, 1, 2, 3, 4, 5, 6, 7, 8, 9, 10, 11] rfl rfl (by decide) (by decide) (fun _ => rfl) (by decide) (fun f2 H locs hf2 hP hD hS => ?_)
            subst hf2
            have hP : va_P D vwCl (cW cI cL h0 ad n B nb tp ob co rd rts offs fnd (upd mem tp (nI (256 * w + 16 * r))) frs btw snw (bput stw tp)) H := hP
            have hD : va_D A (cW cI cL h0 ad n B nb tp ob co rd rts offs fnd (upd mem tp (nI (256 * w + 16 * r))) frs btw snw (bput stw tp)) := hD
            refine lv_aload_n hx hb dX1_make_71 rfl (lv_at hl 2 rfl) ?_
            refine lv_dup hx hb dX1_make_72 rfl ?_
            refine va_get (D := D) (ci := 1) (v := .int (nI tp)) (C := RX1) (T := TX1) (N := 15) hx hb hts in_X1_make_X1 hown hK hP 0 rfl rfl 11 (by decide) (hts (.fieldLink RX1 63 "OffsetHeap" "top" "I") (by decide +kernel)) (fun _ h9 => h9) rfl dX1_make_73 ?_
            refine lv_iload_n hx hb dX1_make_76 rfl (lv_at hl 1 rfl) ?_
            refine xk_roS (As := [.int (nI (256 * w + 16 * r))]) (rest := [.int (nI tp), .ref h0]) ⟨hx, hb, hml, hown, hts⟩ (c_sizeBy l (256 * w + 16 * r) (by omega)) (va_cwS 1 hts gX1_make_X1_sizeBy rfl rfl rfl (by decide +kernel) ⟨Nat.le_of_ble_eq_true rfl, Nat.le_of_ble_eq_true rfl⟩) rfl hl.1 rfl (Nat.le_of_ble_eq_true rfl) dX1_make_77 ⟨Nat.zero_le _, Nat.zero_le _⟩ ?_
            refine lv_iadd hx hb dX1_make_80 ?_
            refine xk_top (nI_add _ _) ?_
            refine va_put (D := D) (ci := 1) (v := .int (nI (tp + (1 + (256 * w + 16 * r) / 16 % 16 + (256 * w + 16 * r) / 256)))) (ty := .int) (C := RX1) (T := TX1) (N := 15) hx hb hts in_X1_make_X1 tyX1 tyX1_ok nmX1 hown hK hP hD hS 0 rfl rfl 11 (by decide) (hts (.fieldLink RX1 63 "OffsetHeap" "top" "I") (by decide +kernel)) (fun _ h9 => h9) rfl (by decide +kernel) rfl rfl (Nat.le_of_ble_eq_true rfl) dX1_make_81 (fun H locs hP hD hS => ?_)
            have hP : va_P D vwCl (cW cI cL h0 ad n B nb (tp + (1 + (256 * w + 16 * r) / 16 % 16 + (256 * w + 16 * r) / 256)) ob co rd rts offs fnd (upd mem tp (nI (256 * w + 16 * r))) frs btw snw (bput stw tp)) H := hP
            have hD : va_D A (cW cI cL h0 ad n B nb (tp + (1 + (256 * w + 16 * r) / 16 % 16 + (256 * w + 16 * r) / 256)) ob co rd rts offs fnd (upd mem tp (nI (256 * w + 16 * r))) frs btw snw (bput stw tp)) := hD
            refine lv_aload_n hx hb dX1_make_84 rfl (lv_at hl 2 rfl) ?_
            refine lv_dup hx hb dX1_make_85 rfl ?_
            refine va_get (D := D) (ci := 1) (v := .int (nI ob)) (C := RX1) (T := TX1) (N := 15) hx hb hts in_X1_make_X1 hown hK hP 0 rfl rfl 12 (by decide) (hts (.fieldLink RX1 76 "OffsetHeap" "objects" "I") (by decide +kernel)) (fun _ h9 => h9) rfl dX1_make_86 ?_
            refine lv_iconst (v := nI 1) hx hb dX1_make_89 (by decide +kernel) ?_
            refine lv_iadd hx hb dX1_make_90 ?_
            refine xk_top (nI_add _ _) ?_
            refine va_put (D := D) (ci := 1) (v := .int (nI (ob + 1))) (ty := .int) (C := RX1) (T := TX1) (N := 15) hx hb hts in_X1_make_X1 tyX1 tyX1_ok nmX1 hown hK hP hD hS 0 rfl rfl 12 (by decide) (hts (.fieldLink RX1 76 "OffsetHeap" "objects" "I") (by decide +kernel)) (fun _ h9 => h9) rfl (by decide +kernel) rfl rfl (Nat.le_of_ble_eq_true rfl) dX1_make_91 (fun H locs hP hD hS => ?_)
            have hP : va_P D vwCl (cW cI cL h0 ad n B nb (tp + (1 + (256 * w + 16 * r) / 16 % 16 + (256 * w + 16 * r) / 256)) (ob + 1) co rd rts offs fnd (upd mem tp (nI (256 * w + 16 * r))) frs btw snw (bput stw tp)) H := hP
            have hD : va_D A (cW cI cL h0 ad n B nb (tp + (1 + (256 * w + 16 * r) / 16 % 16 + (256 * w + 16 * r) / 256)) (ob + 1) co rd rts offs fnd (upd mem tp (nI (256 * w + 16 * r))) frs btw snw (bput stw tp)) := hD
            refine lv_iload hx hb dX1_make_94 (lv_at hl 0 rfl) ?_
            exact W.iret hx hb hr (fun t ht hW => ⟨⟨_, (tp + (1 + (256 * w + 16 * r) / 16 % 16 + (256 * w + 16 * r) / 256), ob + 1, upd mem tp (nI (256 * w + 16 * r)), bput stw tp), rfl, Or.inr (Or.inr ⟨r, w, er, ew, by omega, by omega, by omega, rfl, by rw [hd.1, hd.2]⟩), by rw [ht]; exact hP, hD⟩, hS.F ht⟩) hS.2.2 dX1_make_96
          · refine lv_iconst (v := nI 0) hx hb dX1_make_46 (by decide +kernel) ?_
            exact W.iret hx hb hr (fun t ht hW => ⟨⟨_, (tp, ob, mem, stw), rfl, Or.inr (Or.inl ⟨rfl, r, w, er, ew, by omega, by omega, by omega, rfl⟩), by rw [ht]; exact hP, hD⟩, hS.F ht⟩) hS.2.2 dX1_make_47
        · refine lv_iconst (v := (-1)) hx hb dX1_make_20 (by decide +kernel) ?_
          exact W.iret hx hb hr (fun t ht hW => ⟨⟨_, (tp, ob, mem, stw), rfl, Or.inl ⟨rfl, Or.inr (by rw [ew, inR_nat hw]; simp; omega), rfl⟩, by rw [ht]; exact hP, hD⟩, hS.F ht⟩) hS.2.2 dX1_make_21
set_option maxHeartbeats 4000000 in
set_option maxRecDepth 100000 in
/-- refer -/
theorem c_refer (l : Launch) (D : va_G) (cI cL : ClassId) (h0 : Nat) (ad : Nat → Nat) (n B nb tp ob co rd : Nat) (rts offs fnd mem frs : Nat → Int32) (btw snw stw : Nat → Int64) (sz : Nat) (x k v : Int32) (hn : n ≤ 4000) (hok : okS n tp mem (bo stw) rts) : Met l yX1_refer wsX1_refer ({ frames := 3, cells := 0, slots := 0, locals := 90 }) (va_Pc [.ref h0, .int x, .int k, .int v] (fun U => U.heap.size = sz ∧ va_P D vwCl (cW cI cL h0 ad n B nb tp ob co rd rts offs fnd mem frs btw snw stw) U.heap ∧ va_K D vwCl [(cI, .int), (cL, .long)] U ∧ va_D (fun _ => True) (cW cI cL h0 ad n B nb tp ob co rd rts offs fnd mem frs btw snw stw))) (va_Qi (fun (r9 : Int32) (u : Nat → Int32) => ((∀ o j, ¬ cRef tp mem (bo stw) x k v o j) ∧ r9 = nI 0 ∧ u = mem) ∨ ∃ o j, cRef tp mem (bo stw) x k v o j ∧ r9 = nI 1 ∧ u = upd mem (o + 1 + j) v) (fun (u : Nat → Int32) t => va_P D vwCl (cW cI cL h0 ad n B nb tp ob co rd rts offs fnd u frs btw snw stw) t.heap ∧ va_D (va_A (cW cI cL h0 ad n B nb tp ob co rd rts offs fnd mem frs btw snw stw) sz) (cW cI cL h0 ad n B nb tp ob co rd rts offs fnd u frs btw snw stw)) (va_A (cW cI cL h0 ad n B nb tp ob co rd rts offs fnd mem frs btw snw stw) sz)) 0 0 (va_A (cW cI cL h0 ad n B nb tp ob co rd rts offs fnd mem frs btw snw stw) sz) := by
  refine Met.ofW (cc := cX1_refer) (maxL := 4) (ret := (some .boolean)) (by decide) rfl ?_
  intro p e s m args below meth c s₁ B9 hml hv
  obtain ⟨rfl, hsz, hP, hK, hD0⟩ := hv
  have hx := B9.exec
  have hb := B9.bytes
  have hr := B9.returns
  have hts := atoms_spec (ws := wsX1_refer) B9.pre
  have hown : s.vm.findClass RX1 = some m.cls := findClass_of_methodNamed B9.named
  have hlocks := B9.notSynchronized
  subst hsz
  have hD := hD0.self (sz := s.heap.size)
  generalize hAe : va_A (cW cI cL h0 ad n B nb tp ob co rd rts offs fnd mem frs btw snw stw) s.heap.size = A at hD ⊢
  have hA : ∀ q : Nat, s.heap.size ≤ q → A q := fun q h => by rw [← hAe]; exact Or.inr h
  have hS : va_S A s.heap s.heap [] := va_S.rf
  have hl := lv_entry ([.ref h0, .int x, .int k, .int v]) (n := 4) (Nat.le_of_ble_eq_true rfl)
  rw [lg_entry_eq]
  generalize (lg_sl ([.ref h0, .int x, .int k, .int v]) ++ List.replicate (4 - (lg_sl ([.ref h0, .int x, .int k, .int v])).length) Slot.unset).toArray = ls at hl ⊢
  have hl : lv_has ls 4 [(0, .ref h0), (1, .int x), (2, .int k), (3, .int v)] := hl
  have htp := hok.1.2.1
  refine lv_aload_n hx hb dX1_refer_0 rfl (lv_at hl 0 rfl) ?_
  refine lv_iload_n hx hb dX1_refer_1 rfl (lv_at hl 1 rfl) ?_
  refine xk_roV (As := [.int x]) (rest := []) ⟨hx, hb, hml, hown, hts⟩ (c_isObject l D cI cL h0 ad n B nb tp ob co rd rts offs fnd mem frs btw snw stw x hn htp) (cwV 1 hts gX1_refer_X1_isObject rfl rfl rfl (by decide +kernel) ⟨Nat.le_of_ble_eq_true rfl, Nat.le_of_ble_eq_true rfl⟩) (va_recv hK hP (ci := 1) (q0 := 0) rfl rfl) hP hK rfl hl.1 rfl (Nat.le_of_ble_eq_true rfl) dX1_refer_2 ⟨Nat.zero_le _, Nat.zero_le _⟩ ?_
  refine xk_if_eqB (tgt := 33) hx hb dX1_refer_5 (by decide) (fun c5 => ?_) (fun c5 => ?_)
  · refine lv_iconst (v := nI 0) hx hb dX1_refer_33 (by decide +kernel) ?_
    exact W.zret hx hb hr rfl (fun t ht hW => ⟨⟨_, mem, rfl, Or.inl ⟨fun o' j' c => isO_no c5 c.1.1 c.1.2.1 c.1.2.2.1 c.1.2.2.2.1 c.1.2.2.2.2, rfl, rfl⟩, by rw [ht]; exact hP, hD⟩, hS.F ht⟩) hS.2.2 dX1_refer_34
  · obtain ⟨o, ho, eo, o1, o2, o3⟩ := isO_t c5
    have hh := hok.hdr o1 o2 o3
    have hs := hok.hsm o1 o2 o3
    have hf := hok.fit o1 o2 o3
    unfold siz at hf
    refine lv_iload_n hx hb dX1_refer_8 rfl (lv_at hl 2 rfl) ?_
    refine lv_if_lt (tgt := 33) hx hb dX1_refer_9 (by decide) (fun c9 => ?_) (fun c9 => ?_)
    · refine lv_iconst (v := nI 0) hx hb dX1_refer_33 (by decide +kernel) ?_
      exact W.zret hx hb hr rfl (fun t ht hW => ⟨⟨_, mem, rfl, Or.inl ⟨fun o' j' c => absurd c9 (by rw [c.2.1.2.1]; exact nI_pos c.2.1.1), rfl, rfl⟩, by rw [ht]; exact hP, hD⟩, hS.F ht⟩) hS.2.2 dX1_refer_34
    · obtain ⟨j, hj, ej⟩ := nI_of c9
      refine lv_iload_n hx hb dX1_refer_12 rfl (lv_at hl 2 rfl) ?_
      refine xk_top ej ?_
      refine lv_aload_n hx hb dX1_refer_13 rfl (lv_at hl 0 rfl) ?_
      refine va_get (D := D) (ci := 1) (v := .ref (ad 8)) (C := RX1) (T := TX1) (N := 15) hx hb hts in_X1_refer_X1 hown hK hP 0 rfl rfl 9 (by decide) (hts (.fieldLink RX1 57 "OffsetHeap" "space" "[I") (by decide +kernel)) (fun _ h9 => h9) rfl dX1_refer_14 ?_
      refine lv_iload_n hx hb dX1_refer_17 rfl (lv_at hl 1 rfl) ?_
      refine xk_top eo ?_
      refine xk_iald hx hb hK hP 8 0 rfl rfl (by omega) (by omega) dX1_refer_18 ?_
      refine xk_top hh ?_
      refine xk_roS (As := [.int (nI (tn (mem o)))]) (rest := [.int (nI j)]) ⟨hx, hb, hml, hown, hts⟩ (c_referencesBy l (tn (mem o)) (by omega)) (va_cwS 1 hts gX1_refer_X1_referencesBy rfl rfl rfl (by decide +kernel) ⟨Nat.le_of_ble_eq_true rfl, Nat.le_of_ble_eq_true rfl⟩) rfl hl.1 rfl (Nat.le_of_ble_eq_true rfl) dX1_refer_19 ⟨Nat.zero_le _, Nat.zero_le _⟩ ?_
      refine xk_icmp_ge (tgt := 33) hx hb (by omega) (by omega) dX1_refer_22 (by decide) (fun c22 => ?_) (fun c22 => ?_)
      · refine lv_iconst (v := nI 0) hx hb dX1_refer_33 (by decide +kernel) ?_
        exact W.zret hx hb hr rfl (fun t ht hW => ⟨⟨_, mem, rfl, Or.inl ⟨fun o' j' c => by have e1 := nI_inj c.1.1 ho (c.1.2.1.symm.trans eo); have e2 := nI_inj c.2.1.1 hj (c.2.1.2.1.symm.trans ej); have e3 := c.2.1.2.2; rw [e1, e2] at e3; unfold rfs at e3; omega, rfl, rfl⟩, by rw [ht]; exact hP, hD⟩, hS.F ht⟩) hS.2.2 dX1_refer_34
      · refine lv_aload_n hx hb dX1_refer_25 rfl (lv_at hl 0 rfl) ?_
        refine lv_iload_n hx hb dX1_refer_26 rfl (lv_at hl 3 rfl) ?_
        refine xk_roV (As := [.int v]) (rest := []) ⟨hx, hb, hml, hown, hts⟩ (c_isObjectOrNone l D cI cL h0 ad n B nb tp ob co rd rts offs fnd mem frs btw snw stw v hn htp) (cwV 1 hts gX1_refer_X1_isObjectOrNone rfl rfl rfl (by decide +kernel) ⟨Nat.le_of_ble_eq_true rfl, Nat.le_of_ble_eq_true rfl⟩) (va_recv hK hP (ci := 1) (q0 := 0) rfl rfl) hP hK rfl hl.1 rfl (Nat.le_of_ble_eq_true rfl) dX1_refer_27 ⟨Nat.zero_le _, Nat.zero_le _⟩ ?_
        refine xk_if_neB (tgt := 35) hx hb dX1_refer_30 (by decide) (fun c30 => ?_) (fun c30 => ?_)
        · refine lv_aload_n hx hb dX1_refer_35 rfl (lv_at hl 0 rfl) ?_
          refine va_get (D := D) (ci := 1) (v := .ref (ad 8)) (C := RX1) (T := TX1) (N := 15) hx hb hts in_X1_refer_X1 hown hK hP 0 rfl rfl 9 (by decide) (hts (.fieldLink RX1 57 "OffsetHeap" "space" "[I") (by decide +kernel)) (fun _ h9 => h9) rfl dX1_refer_36 ?_
          refine lv_iload_n hx hb dX1_refer_39 rfl (lv_at hl 1 rfl) ?_
          refine xk_top eo ?_
          refine lv_iconst (v := nI 1) hx hb dX1_refer_40 (by decide +kernel) ?_
          refine lv_iadd hx hb dX1_refer_41 ?_
          refine xk_top (nI_add _ _) ?_
          refine lv_iload_n hx hb dX1_refer_42 rfl (lv_at hl 2 rfl) ?_
          refine xk_top ej ?_
          refine lv_iadd hx hb dX1_refer_43 ?_
          refine xk_top (nI_add _ _) ?_
          refine lv_iload_n hx hb dX1_refer_44 rfl (lv_at hl 3 rfl) ?_
          refine xk_iast hx hb hK hP hD hS 8 0 rfl rfl (by omega) (by omega) dX1_refer_45 (fun H locs hP hD hS => ?_)
          have hP : va_P D vwCl (cW cI cL h0 ad n B nb tp ob co rd rts offs fnd (upd mem ((o + 1) + j) v) frs btw snw stw) H := hP
          have hD : va_D A (cW cI cL h0 ad n B nb tp ob co rd rts offs fnd (upd mem ((o + 1) + j) v) frs btw snw stw) := hD
          refine lv_iconst (v := nI 1) hx hb dX1_refer_46 (by decide +kernel) ?_
          exact W.zret hx hb hr rfl (fun t ht hW => ⟨⟨_, _, rfl, Or.inr ⟨o, j, ⟨⟨ho, eo, o1, o2, o3⟩, ⟨hj, ej, by unfold rfs; omega⟩, c30⟩, rfl, rfl⟩, by rw [ht]; exact hP, hD⟩, hS.F ht⟩) hS.2.2 dX1_refer_47
        · refine lv_iconst (v := nI 0) hx hb dX1_refer_33 (by decide +kernel) ?_
          exact W.zret hx hb hr rfl (fun t ht hW => ⟨⟨_, mem, rfl, Or.inl ⟨fun o' j' c => absurd c.2.2 (by rw [c30]; decide), rfl, rfl⟩, by rw [ht]; exact hP, hD⟩, hS.F ht⟩) hS.2.2 dX1_refer_34
set_option maxHeartbeats 4000000 in
set_option maxRecDepth 100000 in
/-- set -/
theorem c_set (l : Launch) (D : va_G) (cI cL : ClassId) (h0 : Nat) (ad : Nat → Nat) (n B nb tp ob co rd : Nat) (rts offs fnd mem frs : Nat → Int32) (btw snw stw : Nat → Int64) (sz : Nat) (x k v : Int32) (hn : n ≤ 4000) (hok : okS n tp mem (bo stw) rts) : Met l yX1_set wsX1_set ({ frames := 3, cells := 0, slots := 0, locals := 90 }) (va_Pc [.ref h0, .int x, .int k, .int v] (fun U => U.heap.size = sz ∧ va_P D vwCl (cW cI cL h0 ad n B nb tp ob co rd rts offs fnd mem frs btw snw stw) U.heap ∧ va_K D vwCl [(cI, .int), (cL, .long)] U ∧ va_D (fun _ => True) (cW cI cL h0 ad n B nb tp ob co rd rts offs fnd mem frs btw snw stw))) (va_Qi (fun (r9 : Int32) (u : Nat → Int32) => ((∀ o j, ¬ cSet tp mem (bo stw) x k o j) ∧ r9 = nI 0 ∧ u = mem) ∨ ∃ o j, cSet tp mem (bo stw) x k o j ∧ r9 = nI 1 ∧ u = upd mem (o + 1 + rfs mem o + j) v) (fun (u : Nat → Int32) t => va_P D vwCl (cW cI cL h0 ad n B nb tp ob co rd rts offs fnd u frs btw snw stw) t.heap ∧ va_D (va_A (cW cI cL h0 ad n B nb tp ob co rd rts offs fnd mem frs btw snw stw) sz) (cW cI cL h0 ad n B nb tp ob co rd rts offs fnd u frs btw snw stw)) (va_A (cW cI cL h0 ad n B nb tp ob co rd rts offs fnd mem frs btw snw stw) sz)) 0 0 (va_A (cW cI cL h0 ad n B nb tp ob co rd rts offs fnd mem frs btw snw stw) sz) := by
  refine Met.ofW (cc := cX1_set) (maxL := 4) (ret := (some .boolean)) (by decide) rfl ?_
  intro p e s m args below meth c s₁ B9 hml hv
  obtain ⟨rfl, hsz, hP, hK, hD0⟩ := hv
  have hx := B9.exec
  have hb := B9.bytes
  have hr := B9.returns
  have hts := atoms_spec (ws := wsX1_set) B9.pre
  have hown : s.vm.findClass RX1 = some m.cls := findClass_of_methodNamed B9.named
  have hlocks := B9.notSynchronized
  subst hsz
  have hD := hD0.self (sz := s.heap.size)
  generalize hAe : va_A (cW cI cL h0 ad n B nb tp ob co rd rts offs fnd mem frs btw snw stw) s.heap.size = A at hD ⊢
  have hA : ∀ q : Nat, s.heap.size ≤ q → A q := fun q h => by rw [← hAe]; exact Or.inr h
  have hS : va_S A s.heap s.heap [] := va_S.rf
  have hl := lv_entry ([.ref h0, .int x, .int k, .int v]) (n := 4) (Nat.le_of_ble_eq_true rfl)
  rw [lg_entry_eq]
  generalize (lg_sl ([.ref h0, .int x, .int k, .int v]) ++ List.replicate (4 - (lg_sl ([.ref h0, .int x, .int k, .int v])).length) Slot.unset).toArray = ls at hl ⊢
  have hl : lv_has ls 4 [(0, .ref h0), (1, .int x), (2, .int k), (3, .int v)] := hl
  have htp := hok.1.2.1
  refine lv_aload_n hx hb dX1_set_0 rfl (lv_at hl 0 rfl) ?_
  refine lv_iload_n hx hb dX1_set_1 rfl (lv_at hl 1 rfl) ?_
  refine xk_roV (As := [.int x]) (rest := []) ⟨hx, hb, hml, hown, hts⟩ (c_isObject l D cI cL h0 ad n B nb tp ob co rd rts offs fnd mem frs btw snw stw x hn htp) (cwV 1 hts gX1_set_X1_isObject rfl rfl rfl (by decide +kernel) ⟨Nat.le_of_ble_eq_true rfl, Nat.le_of_ble_eq_true rfl⟩) (va_recv hK hP (ci := 1) (q0 := 0) rfl rfl) hP hK rfl hl.1 rfl (Nat.le_of_ble_eq_true rfl) dX1_set_2 ⟨Nat.zero_le _, Nat.zero_le _⟩ ?_
  refine xk_if_eqB (tgt := 25) hx hb dX1_set_5 (by decide) (fun c5 => ?_) (fun c5 => ?_)
  · refine lv_iconst (v := nI 0) hx hb dX1_set_25 (by decide +kernel) ?_
    exact W.zret hx hb hr rfl (fun t ht hW => ⟨⟨_, mem, rfl, Or.inl ⟨fun o' j' c => isO_no c5 c.1.1 c.1.2.1 c.1.2.2.1 c.1.2.2.2.1 c.1.2.2.2.2, rfl, rfl⟩, by rw [ht]; exact hP, hD⟩, hS.F ht⟩) hS.2.2 dX1_set_26
  · obtain ⟨o, ho, eo, o1, o2, o3⟩ := isO_t c5
    have hh := hok.hdr o1 o2 o3
    have hs := hok.hsm o1 o2 o3
    have hf := hok.fit o1 o2 o3
    unfold siz at hf
    refine lv_iload_n hx hb dX1_set_8 rfl (lv_at hl 2 rfl) ?_
    refine lv_if_lt (tgt := 25) hx hb dX1_set_9 (by decide) (fun c9 => ?_) (fun c9 => ?_)
    · refine lv_iconst (v := nI 0) hx hb dX1_set_25 (by decide +kernel) ?_
      exact W.zret hx hb hr rfl (fun t ht hW => ⟨⟨_, mem, rfl, Or.inl ⟨fun o' j' c => absurd c9 (by rw [c.2.2.1]; exact nI_pos c.2.1), rfl, rfl⟩, by rw [ht]; exact hP, hD⟩, hS.F ht⟩) hS.2.2 dX1_set_26
    · obtain ⟨j, hj, ej⟩ := nI_of c9
      refine lv_iload_n hx hb dX1_set_12 rfl (lv_at hl 2 rfl) ?_
      refine xk_top ej ?_
      refine lv_aload_n hx hb dX1_set_13 rfl (lv_at hl 0 rfl) ?_
      refine va_get (D := D) (ci := 1) (v := .ref (ad 8)) (C := RX1) (T := TX1) (N := 15) hx hb hts in_X1_set_X1 hown hK hP 0 rfl rfl 9 (by decide) (hts (.fieldLink RX1 57 "OffsetHeap" "space" "[I") (by decide +kernel)) (fun _ h9 => h9) rfl dX1_set_14 ?_
      refine lv_iload_n hx hb dX1_set_17 rfl (lv_at hl 1 rfl) ?_
      refine xk_top eo ?_
      refine xk_iald hx hb hK hP 8 0 rfl rfl (by omega) (by omega) dX1_set_18 ?_
      refine xk_top hh ?_
      refine xk_roS (As := [.int (nI (tn (mem o)))]) (rest := [.int (nI j)]) ⟨hx, hb, hml, hown, hts⟩ (c_plainBy l (tn (mem o)) (by omega)) (va_cwS 1 hts gX1_set_X1_plainBy rfl rfl rfl (by decide +kernel) ⟨Nat.le_of_ble_eq_true rfl, Nat.le_of_ble_eq_true rfl⟩) rfl hl.1 rfl (Nat.le_of_ble_eq_true rfl) dX1_set_19 ⟨Nat.zero_le _, Nat.zero_le _⟩ ?_
      refine xk_icmp_lt (tgt := 27) hx hb (by omega) (by omega) dX1_set_22 (by decide) (fun c22 => ?_) (fun c22 => ?_)
      · refine lv_aload_n hx hb dX1_set_27 rfl (lv_at hl 0 rfl) ?_
        refine va_get (D := D) (ci := 1) (v := .ref (ad 8)) (C := RX1) (T := TX1) (N := 15) hx hb hts in_X1_set_X1 hown hK hP 0 rfl rfl 9 (by decide) (hts (.fieldLink RX1 57 "OffsetHeap" "space" "[I") (by decide +kernel)) (fun _ h9 => h9) rfl dX1_set_28 ?_
        refine lv_iload_n hx hb dX1_set_31 rfl (lv_at hl 1 rfl) ?_
        refine xk_top eo ?_
        refine lv_iconst (v := nI 1) hx hb dX1_set_32 (by decide +kernel) ?_
        refine lv_iadd hx hb dX1_set_33 ?_
        refine xk_top (nI_add _ _) ?_
        refine lv_aload_n hx hb dX1_set_34 rfl (lv_at hl 0 rfl) ?_
        refine va_get (D := D) (ci := 1) (v := .ref (ad 8)) (C := RX1) (T := TX1) (N := 15) hx hb hts in_X1_set_X1 hown hK hP 0 rfl rfl 9 (by decide) (hts (.fieldLink RX1 57 "OffsetHeap" "space" "[I") (by decide +kernel)) (fun _ h9 => h9) rfl dX1_set_35 ?_
        refine lv_iload_n hx hb dX1_set_38 rfl (lv_at hl 1 rfl) ?_
        refine xk_top eo ?_
        refine xk_iald hx hb hK hP 8 0 rfl rfl (by omega) (by omega) dX1_set_39 ?_
        refine xk_top hh ?_
        refine xk_roS (As := [.int (nI (tn (mem o)))]) (rest := [.int (nI (o + 1)), .ref (ad 8)]) ⟨hx, hb, hml, hown, hts⟩ (c_referencesBy l (tn (mem o)) (by omega)) (va_cwS 1 hts gX1_set_X1_referencesBy rfl rfl rfl (by decide +kernel) ⟨Nat.le_of_ble_eq_true rfl, Nat.le_of_ble_eq_true rfl⟩) rfl hl.1 rfl (Nat.le_of_ble_eq_true rfl) dX1_set_40 ⟨Nat.zero_le _, Nat.zero_le _⟩ ?_
        refine lv_iadd hx hb dX1_set_43 ?_
        refine xk_top (nI_add _ _) ?_
        refine lv_iload_n hx hb dX1_set_44 rfl (lv_at hl 2 rfl) ?_
        refine xk_top ej ?_
        refine lv_iadd hx hb dX1_set_45 ?_
        refine xk_top (nI_add _ _) ?_
        refine lv_iload_n hx hb dX1_set_46 rfl (lv_at hl 3 rfl) ?_
        refine xk_iast hx hb hK hP hD hS 8 0 rfl rfl (by omega) (by omega) dX1_set_47 (fun H locs hP hD hS => ?_)
        have hP : va_P D vwCl (cW cI cL h0 ad n B nb tp ob co rd rts offs fnd (upd mem (((o + 1) + ((tn (mem o)) / 16 % 16)) + j) v) frs btw snw stw) H := hP
        have hD : va_D A (cW cI cL h0 ad n B nb tp ob co rd rts offs fnd (upd mem (((o + 1) + ((tn (mem o)) / 16 % 16)) + j) v) frs btw snw stw) := hD
        refine lv_iconst (v := nI 1) hx hb dX1_set_48 (by decide +kernel) ?_
        exact W.zret hx hb hr rfl (fun t ht hW => ⟨⟨_, _, rfl, Or.inr ⟨o, j, ⟨⟨ho, eo, o1, o2, o3⟩, ⟨hj, ej, by unfold pln; omega⟩⟩, rfl, rfl⟩, by rw [ht]; exact hP, hD⟩, hS.F ht⟩) hS.2.2 dX1_set_49
      · refine lv_iconst (v := nI 0) hx hb dX1_set_25 (by decide +kernel) ?_
        exact W.zret hx hb hr rfl (fun t ht hW => ⟨⟨_, mem, rfl, Or.inl ⟨fun o' j' c => by have e1 := nI_inj c.1.1 ho (c.1.2.1.symm.trans eo); have e2 := nI_inj c.2.1 hj (c.2.2.1.symm.trans ej); have e3 := c.2.2.2; rw [e1, e2] at e3; unfold pln at e3; omega, rfl, rfl⟩, by rw [ht]; exact hP, hD⟩, hS.F ht⟩) hS.2.2 dX1_set_26
set_option maxHeartbeats 4000000 in
set_option maxRecDepth 100000 in
/-- root -/
theorem c_root (l : Launch) (D : va_G) (cI cL : ClassId) (h0 : Nat) (ad : Nat → Nat) (n B nb tp ob co rd : Nat) (rts offs fnd mem frs : Nat → Int32) (btw snw stw : Nat → Int64) (sz : Nat) (k v : Int32) (hn : n ≤ 4000) (htp : tp ≤ n + 1) : Met l yX1_root wsX1_root ({ frames := 3, cells := 0, slots := 0, locals := 90 }) (va_Pc [.ref h0, .int k, .int v] (fun U => U.heap.size = sz ∧ va_P D vwCl (cW cI cL h0 ad n B nb tp ob co rd rts offs fnd mem frs btw snw stw) U.heap ∧ va_K D vwCl [(cI, .int), (cL, .long)] U ∧ va_D (fun _ => True) (cW cI cL h0 ad n B nb tp ob co rd rts offs fnd mem frs btw snw stw))) (va_Qi (fun (r9 : Int32) (u : Nat → Int32) => ((inR 8 k = false ∨ isL tp (bo stw) v = false) ∧ r9 = nI 0 ∧ u = rts) ∨ ∃ j, j < 8 ∧ k = nI j ∧ isL tp (bo stw) v = true ∧ r9 = nI 1 ∧ u = upd rts j v) (fun (u : Nat → Int32) t => va_P D vwCl (cW cI cL h0 ad n B nb tp ob co rd u offs fnd mem frs btw snw stw) t.heap ∧ va_D (va_A (cW cI cL h0 ad n B nb tp ob co rd rts offs fnd mem frs btw snw stw) sz) (cW cI cL h0 ad n B nb tp ob co rd u offs fnd mem frs btw snw stw)) (va_A (cW cI cL h0 ad n B nb tp ob co rd rts offs fnd mem frs btw snw stw) sz)) 0 0 (va_A (cW cI cL h0 ad n B nb tp ob co rd rts offs fnd mem frs btw snw stw) sz) := by
  refine Met.ofW (cc := cX1_root) (maxL := 3) (ret := (some .boolean)) (by decide) rfl ?_
  intro p e s m args below meth c s₁ B9 hml hv
  obtain ⟨rfl, hsz, hP, hK, hD0⟩ := hv
  have hx := B9.exec
  have hb := B9.bytes
  have hr := B9.returns
  have hts := atoms_spec (ws := wsX1_root) B9.pre
  have hown : s.vm.findClass RX1 = some m.cls := findClass_of_methodNamed B9.named
  have hlocks := B9.notSynchronized
  subst hsz
  have hD := hD0.self (sz := s.heap.size)
  generalize hAe : va_A (cW cI cL h0 ad n B nb tp ob co rd rts offs fnd mem frs btw snw stw) s.heap.size = A at hD ⊢
  have hA : ∀ q : Nat, s.heap.size ≤ q → A q := fun q h => by rw [← hAe]; exact Or.inr h
  have hS : va_S A s.heap s.heap [] := va_S.rf
  have hl := lv_entry ([.ref h0, .int k, .int v]) (n := 3) (Nat.le_of_ble_eq_true rfl)
  rw [lg_entry_eq]
  generalize (lg_sl ([.ref h0, .int k, .int v]) ++ List.replicate (3 - (lg_sl ([.ref h0, .int k, .int v])).length) Slot.unset).toArray = ls at hl ⊢
  have hl : lv_has ls 3 [(0, .ref h0), (1, .int k), (2, .int v)] := hl
  refine lv_iload_n hx hb dX1_root_0 rfl (lv_at hl 1 rfl) ?_
  refine xk_roS (As := [.int k]) (rest := []) ⟨hx, hb, hml, hown, hts⟩ (c_isRoot l k) (va_cwS 1 hts gX1_root_X1_isRoot rfl rfl rfl (by decide +kernel) ⟨Nat.le_of_ble_eq_true rfl, Nat.le_of_ble_eq_true rfl⟩) rfl hl.1 rfl (Nat.le_of_ble_eq_true rfl) dX1_root_1 ⟨Nat.zero_le _, Nat.zero_le _⟩ ?_
  refine xk_if_eqB (tgt := 15) hx hb dX1_root_4 (by decide) (fun c4 => ?_) (fun c4 => ?_)
  · refine lv_iconst (v := nI 0) hx hb dX1_root_15 (by decide +kernel) ?_
    exact W.zret hx hb hr rfl (fun t ht hW => ⟨⟨_, rts, rfl, Or.inl ⟨Or.inl c4, rfl, rfl⟩, by rw [ht]; exact hP, hD⟩, hS.F ht⟩) hS.2.2 dX1_root_16
  · refine lv_aload_n hx hb dX1_root_7 rfl (lv_at hl 0 rfl) ?_
    refine lv_iload_n hx hb dX1_root_8 rfl (lv_at hl 2 rfl) ?_
    refine xk_roV (As := [.int v]) (rest := []) ⟨hx, hb, hml, hown, hts⟩ (c_isObjectOrNone l D cI cL h0 ad n B nb tp ob co rd rts offs fnd mem frs btw snw stw v hn htp) (cwV 1 hts gX1_root_X1_isObjectOrNone rfl rfl rfl (by decide +kernel) ⟨Nat.le_of_ble_eq_true rfl, Nat.le_of_ble_eq_true rfl⟩) (va_recv hK hP (ci := 1) (q0 := 0) rfl rfl) hP hK rfl hl.1 rfl (Nat.le_of_ble_eq_true rfl) dX1_root_9 ⟨Nat.zero_le _, Nat.zero_le _⟩ ?_
    refine xk_if_neB (tgt := 17) hx hb dX1_root_12 (by decide) (fun c12 => ?_) (fun c12 => ?_)
    · obtain ⟨j, hj, ej⟩ : ∃ j, j < 8 ∧ k = nI j := by
        rcases xk_sgn k with q | ⟨j, hj, rfl⟩
        · rw [inR_neg q] at c4; cases c4
        · rw [inR_nat hj] at c4; simp at c4; exact ⟨j, c4, rfl⟩
      refine lv_aload_n hx hb dX1_root_17 rfl (lv_at hl 0 rfl) ?_
      refine va_get (D := D) (ci := 1) (v := .ref (ad 1)) (C := RX1) (T := TX1) (N := 15) hx hb hts in_X1_root_X1 hown hK hP 0 rfl rfl 3 (by decide) (hts (.fieldLink RX1 32 "OffsetHeap" "roots" "[I") (by decide +kernel)) (fun _ h9 => h9) rfl dX1_root_18 ?_
      refine lv_iload_n hx hb dX1_root_21 rfl (lv_at hl 1 rfl) ?_
      refine xk_top ej ?_
      refine lv_iload_n hx hb dX1_root_22 rfl (lv_at hl 2 rfl) ?_
      refine xk_iast hx hb hK hP hD hS 1 0 rfl rfl (by omega) (by omega) dX1_root_23 (fun H locs hP hD hS => ?_)
      have hP : va_P D vwCl (cW cI cL h0 ad n B nb tp ob co rd (upd rts j v) offs fnd mem frs btw snw stw) H := hP
      have hD : va_D A (cW cI cL h0 ad n B nb tp ob co rd (upd rts j v) offs fnd mem frs btw snw stw) := hD
      refine lv_iconst (v := nI 1) hx hb dX1_root_24 (by decide +kernel) ?_
      exact W.zret hx hb hr rfl (fun t ht hW => ⟨⟨_, _, rfl, Or.inr ⟨j, hj, ej, c12, rfl, rfl⟩, by rw [ht]; exact hP, hD⟩, hS.F ht⟩) hS.2.2 dX1_root_25
    · refine lv_iconst (v := nI 0) hx hb dX1_root_15 (by decide +kernel) ?_
      exact W.zret hx hb hr rfl (fun t ht hW => ⟨⟨_, rts, rfl, Or.inl ⟨Or.inr c12, rfl, rfl⟩, by rw [ht]; exact hP, hD⟩, hS.F ht⟩) hS.2.2 dX1_root_16
