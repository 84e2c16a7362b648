/-! the class: collect -/
def swA (ad : Nat → Nat) : Nat → Nat := fun k => match k with
  | 8 => ad 9
  | 9 => ad 8
  | k => ad k
theorem mk_put {n o i : Nat} {w1 w2 : Nat → Int64} (h : ∀ x, x ≤ n → (bo w2 x = true ↔ bo w1 x = true ∨ (o ≤ x ∧ x < i))) (hi : o ≤ i := by omega) : ∀ x, x ≤ n → (bo (bput w2 i) x = true ↔ bo w1 x = true ∨ (o ≤ x ∧ x < i + 1)) := by
  intro x hx
  rw [bo_put]
  simp only [Bool.or_eq_true, decide_eq_true_eq, h x hx]
  constructor
  · rintro ((z | z) | z)
    · exact Or.inl z
    · exact Or.inr ⟨z.1, by omega⟩
    · exact Or.inr ⟨by omega, by omega⟩
  · rintro (z | z)
    · exact Or.inl (Or.inl z)
    · by_cases w : x = i
      · exact Or.inr w
      · exact Or.inl (Or.inr ⟨z.1, by omega⟩)
theorem in_X1_markLiving_X1 : ∀ w ∈ wsX10, w ∈ wsX1_markLiving := by decide +kernel
theorem in_X1_fillOffsets_X1 : ∀ w ∈ wsX10, w ∈ wsX1_fillOffsets := by decide +kernel
theorem in_X1_copyLiving_X1 : ∀ w ∈ wsX10, w ∈ wsX1_copyLiving := by decide +kernel
theorem in_X1_leadRootsAnew_X1 : ∀ w ∈ wsX10, w ∈ wsX1_leadRootsAnew := by decide +kernel
theorem in_X1_swapSpaces_X1 : ∀ w ∈ wsX10, w ∈ wsX1_swapSpaces := by decide +kernel
theorem in_X1_collect_X1 : ∀ w ∈ wsX10, w ∈ wsX1_collect := by decide +kernel
set_option maxHeartbeats 4000000 in
set_option maxRecDepth 100000 in
/-- markLiving -/
theorem c_markLiving (l : Launch) (D : va_G) (cI cL : ClassId) (h0 : Nat) (ad : Nat → Nat) (n B nb tp ob co rd : Nat) (rts offs fnd mem frs : Nat → Int32) (btw snw stw : Nat → Int64) (sz : Nat) (hn : n ≤ 4000) (hok : okS n tp mem (bo stw) rts) : Met l yX1_markLiving wsX1_markLiving ({ frames := 4, cells := 0, slots := 0, locals := 120 }) (va_Pc [.ref h0] (fun U => U.heap.size = sz ∧ va_P D vwCl (cW cI cL h0 ad n B nb tp ob co rd rts offs fnd mem frs btw snw stw) U.heap ∧ va_K D vwCl [(cI, .int), (cL, .long)] U ∧ va_D (fun _ => True) (cW cI cL h0 ad n B nb tp ob co rd rts offs fnd mem frs btw snw stw))) (va_Qv (fun (u : (Nat → Int64) × (Nat → Int32) × (Nat → Int64)) => okL n mem rts (bo u.2.2)) (fun (u : (Nat → Int64) × (Nat → Int32) × (Nat → Int64)) t => va_P D vwCl (cW cI cL h0 ad n B nb tp ob co rd rts offs u.2.1 mem frs u.2.2 u.1 stw) t.heap ∧ va_D (va_A (cW cI cL h0 ad n B nb tp ob co rd rts offs fnd mem frs btw snw stw) sz) (cW cI cL h0 ad n B nb tp ob co rd rts offs u.2.1 mem frs u.2.2 u.1 stw)) (va_A (cW cI cL h0 ad n B nb tp ob co rd rts offs fnd mem frs btw snw stw) sz)) 0 0 (va_A (cW cI cL h0 ad n B nb tp ob co rd rts offs fnd mem frs btw snw stw) sz) := by
  refine Met.ofW (cc := cX1_markLiving) (maxL := 5) (ret := none) (by decide) rfl ?_
  intro p e s m args below meth c s₁ B9 hml hv
  obtain ⟨rfl, hsz, hP, hK, hD0⟩ := hv
  have hx := B9.exec
  have hb := B9.bytes
  have hr := B9.returns
  have hts := atoms_spec (ws := wsX1_markLiving) B9.pre
  have hown : s.vm.findClass RX1 = some m.cls := findClass_of_methodNamed B9.named
  have hlocks := B9.notSynchronized
  subst hsz
  have hD := hD0.self (sz := s.heap.size)
  generalize hAe : va_A (cW cI cL h0 ad n B nb tp ob co rd rts offs fnd mem frs btw snw stw) s.heap.size = A at hD ⊢
  have hA : ∀ q : Nat, s.heap.size ≤ q → A q := fun q h => by rw [← hAe]; exact Or.inr h
  have hS : va_S A s.heap s.heap [] := va_S.rf
  have hl := lv_entry ([.ref h0]) (n := 5) (Nat.le_of_ble_eq_true rfl)
  rw [lg_entry_eq]
  generalize (lg_sl ([.ref h0]) ++ List.replicate (5 - (lg_sl ([.ref h0])).length) Slot.unset).toArray = ls at hl ⊢
  have hl : lv_has ls 5 [(0, .ref h0)] := hl
  have htp := hok.1.2.1
  refine lv_aload_n hx hb dX1_markLiving_0 rfl (lv_at hl 0 rfl) ?_
  refine lv_aload_n hx hb dX1_markLiving_1 rfl (lv_at hl 0 rfl) ?_
  refine va_get (D := D) (ci := 1) (v := .int (nI n)) (C := RX1) (T := TX1) (N := 15) hx hb hts in_X1_markLiving_X1 hown hK hP 0 rfl rfl 0 (by decide) (hts (.fieldLink RX1 18 "OffsetHeap" "last" "I") (by decide +kernel)) (fun _ h9 => h9) rfl dX1_markLiving_2 ?_
  refine xk_afti (wr := []) (ws' := fun u => cW cI cL h0 ad n B nb tp ob co rd rts offs u.2.1 mem frs btw u.1 stw) (va_runV (As := [.int (nI n)]) (rest := []) ⟨hx, hb, hml, hown, hts⟩ (c_findWithin l D cI cL h0 ad n B nb tp ob co rd rts offs fnd mem frs btw snw stw s.heap.size n hn (by omega) hok) (cwV 1 hts gX1_markLiving_X1_findWithin rfl rfl rfl (by decide +kernel) ⟨Nat.le_of_ble_eq_true rfl, Nat.le_of_ble_eq_true rfl⟩) (xk_preV (va_recv hK hP (ci := 1) (q0 := 0) rfl rfl) rfl hP hK (hD.weaken (fun _ _ _ _ => trivial))) rfl rfl hl.1 rfl (lv_room (Nat.le_of_ble_eq_true rfl)) dX1_markLiving_5 ⟨Nat.zero_le _, Nat.zero_le _⟩) hP hD hS hA [0, 1, 2, 3, 4, 5, 6, 7, 8, 9, 10, 11] [] [0, 1, 2, 3, 4, 5, 6, 7, 8, 9, 10, 11] rfl rfl (by decide) (by decide) (fun _ => rfl) (by decide) (fun r9 u H locs hpost hP hD hS => ?_)
  obtain ⟨snw1, fnd1, z1⟩ := u
  obtain ⟨rfl, hF, hN⟩ := hpost
  have hF : FI n snw1 fnd1 z1 := hF
  have hN : ∀ x, x ≤ n → (bo snw1 x = true ↔ NR mem rts n x) := hN
  have hP : va_P D vwCl (cW cI cL h0 ad n B nb tp ob co rd rts offs fnd1 mem frs btw snw1 stw) H := hP
  have hD : va_D A (cW cI cL h0 ad n B nb tp ob co rd rts offs fnd1 mem frs btw snw1 stw) := hD
  refine xk_top (y := nI z1) rfl ?_
  refine lv_istore_n (lv' := [(1, .int (nI z1)), (0, .ref h0)]) hx hb dX1_markLiving_8 rfl hl (by decide) rfl (fun ls hl => ?_)
  refine lv_aload_n hx hb dX1_markLiving_9 rfl (lv_at hl 1 rfl) ?_
  refine va_get (D := D) (ci := 1) (v := .ref (ad 2)) (C := RX1) (T := TX1) (N := 15) hx hb hts in_X1_markLiving_X1 hown hK hP 0 rfl rfl 4 (by decide) (hts (.fieldLink RX1 41 "OffsetHeap" "bits" "LOffsetHeap$BitRow;") (by decide +kernel)) (fun _ h9 => h9) rfl dX1_markLiving_10 ?_
  refine xk_aftv (wr := [(h0, .inr (1, [.int (nI n), .int (nI B), .int (nI nb), .ref (ad 1), .ref (ad 2), .ref (ad 4), .ref (ad 5), .ref (ad 6), .ref (ad 10), .ref (ad 8), .ref (ad 9), .int (nI tp), .int (nI ob), .int (nI co), .int (nI rd)])), ((ad 1), .inl (cI, 8, .inl rts)), ((ad 4), .inl (cI, nb, .inl offs)), ((ad 5), .inl (cI, n, .inl fnd1)), ((ad 6), .inr (0, [.ref (ad 7)])), ((ad 7), .inl (cL, (n / 64 + 1), .inr (.inl snw1))), ((ad 8), .inl (cI, (n + 1), .inl mem)), ((ad 9), .inl (cI, (n + 1), .inl frs)), ((ad 10), .inr (0, [.ref (ad 11)])), ((ad 11), .inl (cL, (n / 64 + 1), .inr (.inl stw)))]) (ws' := fun f2 => cW cI cL h0 ad n B nb tp ob co rd rts offs fnd1 mem frs f2 snw1 stw) (va_runV (As := []) (rest := []) ⟨hx, hb, hml, hown, hts⟩ (c_clear l D cL (ad 2) (ad 3) (n / 64 + 1) btw (by omega) H.size) (cwV 0 hts gX1_markLiving_X0_clear rfl rfl rfl (by decide +kernel) ⟨Nat.le_of_ble_eq_true rfl, Nat.le_of_ble_eq_true rfl⟩) (xk_preV (va_recv hK hP (ci := 0) (q0 := 2) rfl rfl) rfl (hP.sub [2, 3] rfl) (hK.sub [1] rfl) ((hD.sub [2, 3] (by decide) rfl).weaken (fun _ _ _ _ => trivial))) rfl rfl hl.1 rfl (lv_room (Nat.le_of_ble_eq_true rfl)) dX1_markLiving_13 ⟨Nat.zero_le _, Nat.zero_le _⟩) hP hD hS hA [2, 3] [0, 1, 4, 5, 6, 7, 8, 9, 10, 11] [0, 1, 10, 11, 2, 3, 4, 5, 6, 7, 8, 9] rfl rfl (by decide) (by decide) (fun _ => rfl) (by decide) (fun f2 H locs hf2 hP hD hS => ?_)
  obtain ⟨bt0, ebt0⟩ : ∃ z, z = f2 := ⟨_, rfl⟩
  rw [← ebt0] at hP hD hf2
  have hbt0 := hf2
  have hP : va_P D vwCl (cW cI cL h0 ad n B nb tp ob co rd rts offs fnd1 mem frs bt0 snw1 stw) H := hP
  have hD : va_D A (cW cI cL h0 ad n B nb tp ob co rd rts offs fnd1 mem frs bt0 snw1 stw) := hD
  have bz : ∀ x, x ≤ n → bo bt0 x = false := fun x hx => bo_c0 (hbt0 (x / 64) (by omega))
  have hz1 := hF.le
  have keyO : ∀ (d : Nat) (btw1 : Nat → Int64) (f : Nat) (H : Heap) (locs : List Loc) (ls : Array Slot), z1 + 1 ≤ f + d → f ≤ z1 → (∀ x, x ≤ n → (bo btw1 x = true ↔ MK n mem fnd1 f x)) → va_P D vwCl (cW cI cL h0 ad n B nb tp ob co rd rts offs fnd1 mem frs btw1 snw1 stw) H → va_D A (cW cI cL h0 ad n B nb tp ob co rd rts offs fnd1 mem frs btw1 snw1 stw) → va_S A s.heap H locs → lv_has ls 5 [(0, .ref h0), (1, .int (nI z1)), (2, .int (nI f))] → W p l e (headSpec wsX1_markLiving ({ frames := 4, cells := 0, slots := 0, locals := 120 })).room s m ([.ref h0] : List Value).toArray below meth c H locs 0 0 (MQ below (va_Qv (fun (u : (Nat → Int64) × (Nat → Int32) × (Nat → Int64)) => okL n mem rts (bo u.2.2)) (fun (u : (Nat → Int64) × (Nat → Int32) × (Nat → Int64)) t => va_P D vwCl (cW cI cL h0 ad n B nb tp ob co rd rts offs u.2.1 mem frs u.2.2 u.1 stw) t.heap ∧ va_D A (cW cI cL h0 ad n B nb tp ob co rd rts offs u.2.1 mem frs u.2.2 u.1 stw)) A) ([.ref h0] : List Value).toArray s 0 0 A) (F0 m 18 ls []) := by
    intro d
    induction d with
    | zero =>
      intro btw1 f H locs ls hd hf1 hM hP hD hS hl
      exfalso; omega
    | succ d ih1 =>
      intro btw1 f H locs ls hd hf1 hM hP hD hS hl
      refine lv_iload_n hx hb dX1_markLiving_18 rfl (lv_at hl 2 rfl) ?_
      refine lv_iload_n hx hb dX1_markLiving_19 rfl (lv_at hl 1 rfl) ?_
      refine xk_icmp_ge (tgt := 80) hx hb (by omega) (by omega) dX1_markLiving_20 (by decide) (fun c20 => ?_) (fun c20 => ?_)
      · exact W.vret hx hb hr (fun t ht hW => ⟨⟨(snw1, fnd1, btw1), rfl, fun x hx => by rw [hM x hx, show f = z1 by omega]; exact MK_all hn hF hN (fun x hx => by have := NR_obj hok _ x hx; omega) x, by rw [ht]; exact hP, hD⟩, hS.F ht⟩) hS.2.2 dX1_markLiving_80
      · obtain ⟨o, o1, o2, o3, o4⟩ := hF.2.2.1 f (by omega)
        have o6 := NR_obj hok _ o ((hN o o2).mp o4)
        have hh := hok.hdr o6.1 o6.2.1 o6.2.2
        have hs := hok.hsm o6.1 o6.2.1 o6.2.2
        have hf := hok.fit o6.1 o6.2.1 o6.2.2
        unfold siz at hf
        refine lv_aload_n hx hb dX1_markLiving_23 rfl (lv_at hl 0 rfl) ?_
        refine va_get (D := D) (ci := 1) (v := .ref (ad 5)) (C := RX1) (T := TX1) (N := 15) hx hb hts in_X1_markLiving_X1 hown hK hP 0 rfl rfl 6 (by decide) (hts (.fieldLink RX1 48 "OffsetHeap" "found" "[I") (by decide +kernel)) (fun _ h9 => h9) rfl dX1_markLiving_24 ?_
        refine lv_iload_n hx hb dX1_markLiving_27 rfl (lv_at hl 2 rfl) ?_
        refine xk_iald hx hb hK hP 5 0 rfl rfl (by omega) (by omega) dX1_markLiving_28 ?_
        refine xk_top o3 ?_
        refine lv_aload_n hx hb dX1_markLiving_29 rfl (lv_at hl 0 rfl) ?_
        refine va_get (D := D) (ci := 1) (v := .ref (ad 8)) (C := RX1) (T := TX1) (N := 15) hx hb hts in_X1_markLiving_X1 hown hK hP 0 rfl rfl 9 (by decide) (hts (.fieldLink RX1 57 "OffsetHeap" "space" "[I") (by decide +kernel)) (fun _ h9 => h9) rfl dX1_markLiving_30 ?_
        refine lv_aload_n hx hb dX1_markLiving_33 rfl (lv_at hl 0 rfl) ?_
        refine va_get (D := D) (ci := 1) (v := .ref (ad 5)) (C := RX1) (T := TX1) (N := 15) hx hb hts in_X1_markLiving_X1 hown hK hP 0 rfl rfl 6 (by decide) (hts (.fieldLink RX1 48 "OffsetHeap" "found" "[I") (by decide +kernel)) (fun _ h9 => h9) rfl dX1_markLiving_34 ?_
        refine lv_iload_n hx hb dX1_markLiving_37 rfl (lv_at hl 2 rfl) ?_
        refine xk_iald hx hb hK hP 5 0 rfl rfl (by omega) (by omega) dX1_markLiving_38 ?_
        refine xk_top o3 ?_
        refine xk_iald hx hb hK hP 8 0 rfl rfl (by omega) (by omega) dX1_markLiving_39 ?_
        refine xk_top hh ?_
        refine xk_roS (As := [.int (nI (tn (mem o)))]) (rest := [.int (nI o)]) ⟨hx, hb, hml, hown, hts⟩ (c_sizeBy l (tn (mem o)) (by omega)) (va_cwS 1 hts gX1_markLiving_X1_sizeBy rfl rfl rfl (by decide +kernel) ⟨Nat.le_of_ble_eq_true rfl, Nat.le_of_ble_eq_true rfl⟩) rfl hl.1 rfl (Nat.le_of_ble_eq_true rfl) dX1_markLiving_40 ⟨Nat.zero_le _, Nat.zero_le _⟩ ?_
        refine lv_iadd hx hb dX1_markLiving_43 ?_
        refine xk_top (nI_add _ _) ?_
        refine lv_istore_n (lv' := [(3, .int (nI (o + (1 + (tn (mem o)) / 16 % 16 + (tn (mem o)) / 256)))), (0, .ref h0), (1, .int (nI z1)), (2, .int (nI f))]) hx hb dX1_markLiving_44 rfl hl (by decide) rfl (fun ls hl => ?_)
        refine lv_aload_n hx hb dX1_markLiving_45 rfl (lv_at hl 1 rfl) ?_
        refine va_get (D := D) (ci := 1) (v := .ref (ad 5)) (C := RX1) (T := TX1) (N := 15) hx hb hts in_X1_markLiving_X1 hown hK hP 0 rfl rfl 6 (by decide) (hts (.fieldLink RX1 48 "OffsetHeap" "found" "[I") (by decide +kernel)) (fun _ h9 => h9) rfl dX1_markLiving_46 ?_
        refine lv_iload_n hx hb dX1_markLiving_49 rfl (lv_at hl 3 rfl) ?_
        refine xk_iald hx hb hK hP 5 0 rfl rfl (by omega) (by omega) dX1_markLiving_50 ?_
        refine xk_top o3 ?_
        refine lv_istore (lv' := [(4, .int (nI o)), (3, .int (nI (o + (1 + (tn (mem o)) / 16 % 16 + (tn (mem o)) / 256)))), (0, .ref h0), (1, .int (nI z1)), (2, .int (nI f))]) hx hb dX1_markLiving_51 hl (by decide) rfl (fun ls hl => ?_)
        have inn : ∀ (e9 : Nat) (btw2 : Nat → Int64) (i : Nat) (H : Heap) (locs : List Loc) (ls : Array Slot), o + (1 + tn (mem o) / 16 % 16 + tn (mem o) / 256) + 1 ≤ i + e9 → o ≤ i → i ≤ o + (1 + tn (mem o) / 16 % 16 + tn (mem o) / 256) → (∀ x, x ≤ n → (bo btw2 x = true ↔ bo btw1 x = true ∨ (o ≤ x ∧ x < i))) → va_P D vwCl (cW cI cL h0 ad n B nb tp ob co rd rts offs fnd1 mem frs btw2 snw1 stw) H → va_D A (cW cI cL h0 ad n B nb tp ob co rd rts offs fnd1 mem frs btw2 snw1 stw) → va_S A s.heap H locs → lv_has ls 5 [(0, .ref h0), (1, .int (nI z1)), (2, .int (nI f)), (3, .int (nI (o + (1 + tn (mem o) / 16 % 16 + tn (mem o) / 256)))), (4, .int (nI i))] → W p l e (headSpec wsX1_markLiving ({ frames := 4, cells := 0, slots := 0, locals := 120 })).room s m ([.ref h0] : List Value).toArray below meth c H locs 0 0 (MQ below (va_Qv (fun (u : (Nat → Int64) × (Nat → Int32) × (Nat → Int64)) => okL n mem rts (bo u.2.2)) (fun (u : (Nat → Int64) × (Nat → Int32) × (Nat → Int64)) t => va_P D vwCl (cW cI cL h0 ad n B nb tp ob co rd rts offs u.2.1 mem frs u.2.2 u.1 stw) t.heap ∧ va_D A (cW cI cL h0 ad n B nb tp ob co rd rts offs u.2.1 mem frs u.2.2 u.1 stw)) A) ([.ref h0] : List Value).toArray s 0 0 A) (F0 m 53 ls []) := by
          intro e9
          induction e9 with
          | zero =>
            intro btw2 i H locs ls he hi1 hi2 hI hP hD hS hl
            exfalso; omega
          | succ e9 ih2 =>
            intro btw2 i H locs ls he hi1 hi2 hI hP hD hS hl
            refine lv_iload hx hb dX1_markLiving_53 (lv_at hl 4 rfl) ?_
            refine lv_iload_n hx hb dX1_markLiving_55 rfl (lv_at hl 3 rfl) ?_
            refine xk_icmp_ge (tgt := 74) hx hb (by omega) (by omega) dX1_markLiving_56 (by decide) (fun c56 => ?_) (fun c56 => ?_)
            · refine lv_iinc (v := nI (f + 1)) (lv' := [(2, .int (nI (f + 1))), (0, .ref h0), (1, .int (nI z1)), (3, .int (nI (o + (1 + tn (mem o) / 16 % 16 + tn (mem o) / 256)))), (4, .int (nI i))]) hx hb dX1_markLiving_74 hl (k := 2) rfl (xk_inc f) (by decide) rfl (fun ls hl => ?_)
              refine lv_goto (tgt := 18) hx hb dX1_markLiving_77 (by decide) ?_
              exact ih1 btw2 (f + 1) H locs ls (by omega) (by omega) (fun x hx => by rw [hI x hx, hM x hx, MK_s hn o2 o3 x]; unfold siz; rw [show i = o + (1 + tn (mem o) / 16 % 16 + tn (mem o) / 256) by omega]) hP hD hS (lv_sub hl [1, 2, 0] rfl)
            · refine lv_aload_n hx hb dX1_markLiving_59 rfl (lv_at hl 0 rfl) ?_
              refine va_get (D := D) (ci := 1) (v := .ref (ad 2)) (C := RX1) (T := TX1) (N := 15) hx hb hts in_X1_markLiving_X1 hown hK hP 0 rfl rfl 4 (by decide) (hts (.fieldLink RX1 41 "OffsetHeap" "bits" "LOffsetHeap$BitRow;") (by decide +kernel)) (fun _ h9 => h9) rfl dX1_markLiving_60 ?_
              refine lv_iload hx hb dX1_markLiving_63 (lv_at hl 4 rfl) ?_
              refine xk_aftv (wr := [(h0, .inr (1, [.int (nI n), .int (nI B), .int (nI nb), .ref (ad 1), .ref (ad 2), .ref (ad 4), .ref (ad 5), .ref (ad 6), .ref (ad 10), .ref (ad 8), .ref (ad 9), .int (nI tp), .int (nI ob), .int (nI co), .int (nI rd)])), ((ad 1), .inl (cI, 8, .inl rts)), ((ad 4), .inl (cI, nb, .inl offs)), ((ad 5), .inl (cI, n, .inl fnd1)), ((ad 6), .inr (0, [.ref (ad 7)])), ((ad 7), .inl (cL, (n / 64 + 1), .inr (.inl snw1))), ((ad 8), .inl (cI, (n + 1), .inl mem)), ((ad 9), .inl (cI, (n + 1), .inl frs)), ((ad 10), .inr (0, [.ref (ad 11)])), ((ad 11), .inl (cL, (n / 64 + 1), .inr (.inl stw)))]) (ws' := fun f2 => cW cI cL h0 ad n B nb tp ob co rd rts offs fnd1 mem frs f2 snw1 stw) (va_runV (As := [.int (nI i)]) (rest := []) ⟨hx, hb, hml, hown, hts⟩ (c_put l D cL (ad 2) (ad 3) (n / 64 + 1) btw2 (by omega) H.size i (by omega) (by omega)) (cwV 1 hts gX1_markLiving_X0_put rfl rfl rfl (by decide +kernel) ⟨Nat.le_of_ble_eq_true rfl, Nat.le_of_ble_eq_true rfl⟩) (xk_preV (va_recv hK hP (ci := 0) (q0 := 2) rfl rfl) rfl (hP.sub [2, 3] rfl) (hK.sub [1] rfl) ((hD.sub [2, 3] (by decide) rfl).weaken (fun _ _ _ _ => trivial))) rfl rfl hl.1 rfl (lv_room (Nat.le_of_ble_eq_true rfl)) dX1_markLiving_65 ⟨Nat.zero_le _, Nat.zero_le _⟩) hP hD hS hA [2, 3] [0, 1, 4, 5, 6, 7, 8, 9, 10, 11] [0, 1, 10, 11, 2, 3, 4, 5, 6, 7, 8, 9] rfl rfl (by decide) (by decide) (fun _ => rfl) (by decide) (fun f2 H locs hf2 hP hD hS => ?_)
              subst hf2
              have hP : va_P D vwCl (cW cI cL h0 ad n B nb tp ob co rd rts offs fnd1 mem frs (bput btw2 i) snw1 stw) H := hP
              have hD : va_D A (cW cI cL h0 ad n B nb tp ob co rd rts offs fnd1 mem frs (bput btw2 i) snw1 stw) := hD
              refine lv_iinc (v := nI (i + 1)) (lv' := [(4, .int (nI (i + 1))), (0, .ref h0), (1, .int (nI z1)), (2, .int (nI f)), (3, .int (nI (o + (1 + tn (mem o) / 16 % 16 + tn (mem o) / 256))))]) hx hb dX1_markLiving_68 hl (k := 4) rfl (xk_inc i) (by decide) rfl (fun ls hl => ?_)
              refine lv_goto (tgt := 53) hx hb dX1_markLiving_71 (by decide) ?_
              exact ih2 (bput btw2 i) (i + 1) H locs ls (by omega) (by omega) (by omega) (mk_put hI) hP hD hS (lv_sub hl [1, 2, 3, 4, 0] rfl)
        exact inn 300 btw1 o H locs ls (by omega) (by omega) (by omega) (fun x _ => ⟨Or.inl, fun z => z.resolve_right (fun w => by omega)⟩) hP hD hS (lv_sub hl [2, 3, 4, 1, 0] rfl)
  refine lv_iconst (v := nI 0) hx hb dX1_markLiving_16 (by decide +kernel) ?_
  refine lv_istore_n (lv' := [(2, .int (nI 0)), (1, .int (nI z1)), (0, .ref h0)]) hx hb dX1_markLiving_17 rfl hl (by decide) rfl (fun ls hl => ?_)
  exact keyO (z1 + 1) bt0 0 H locs ls (by omega) (by omega) (fun x hx => by rw [bz x hx]; exact ⟨fun z => absurd z (by decide), fun ⟨g, g1, _⟩ => by omega⟩) hP hD hS (lv_sub hl [2, 1, 0] rfl)
set_option maxHeartbeats 4000000 in
set_option maxRecDepth 100000 in
/-- fillOffsets -/
theorem c_fillOffsets (l : Launch) (D : va_G) (cI cL : ClassId) (h0 : Nat) (ad : Nat → Nat) (n B nb tp ob co rd : Nat) (rts offs fnd mem frs : Nat → Int32) (btw snw stw : Nat → Int64) (sz : Nat) (hn : n ≤ 4000) (hB : okB B) (hnb : nb = n / B + 1) : Met l yX1_fillOffsets wsX1_fillOffsets ({ frames := 1, cells := 0, slots := 0, locals := 30 }) (va_Pc [.ref h0] (fun U => U.heap.size = sz ∧ va_P D vwCl (cW cI cL h0 ad n B nb tp ob co rd rts offs fnd mem frs btw snw stw) U.heap ∧ va_K D vwCl [(cI, .int), (cL, .long)] U ∧ va_D (fun _ => True) (cW cI cL h0 ad n B nb tp ob co rd rts offs fnd mem frs btw snw stw))) (va_Qi (fun (r9 : Int32) (u : Nat → Int32) => r9 = nI (cn (bo btw) (n + 1)) ∧ offOk B nb u (bo btw)) (fun (u : Nat → Int32) t => va_P D vwCl (cW cI cL h0 ad n B nb tp ob co rd rts u fnd mem frs btw snw stw) t.heap ∧ va_D (va_A (cW cI cL h0 ad n B nb tp ob co rd rts offs fnd mem frs btw snw stw) sz) (cW cI cL h0 ad n B nb tp ob co rd rts u fnd mem frs btw snw stw)) (va_A (cW cI cL h0 ad n B nb tp ob co rd rts offs fnd mem frs btw snw stw) sz)) 0 0 (va_A (cW cI cL h0 ad n B nb tp ob co rd rts offs fnd mem frs btw snw stw) sz) := by
  refine Met.ofW (cc := cX1_fillOffsets) (maxL := 3) (ret := (some .int)) (by decide) rfl ?_
  intro p e s m args below meth c s₁ B9 hml hv
  obtain ⟨rfl, hsz, hP, hK, hD0⟩ := hv
  have hx := B9.exec
  have hb := B9.bytes
  have hr := B9.returns
  have hts := atoms_spec (ws := wsX1_fillOffsets) B9.pre
  have hown : s.vm.findClass RX1 = some m.cls := findClass_of_methodNamed B9.named
  have hlocks := B9.notSynchronized
  subst hsz
  have hD := hD0.self (sz := s.heap.size)
  generalize hAe : va_A (cW cI cL h0 ad n B nb tp ob co rd rts offs fnd mem frs btw snw stw) s.heap.size = A at hD ⊢
  have hA : ∀ q : Nat, s.heap.size ≤ q → A q := fun q h => by rw [← hAe]; exact Or.inr h
  have hS : va_S A s.heap s.heap [] := va_S.rf
  have hl := lv_entry ([.ref h0]) (n := 3) (Nat.le_of_ble_eq_true rfl)
  rw [lg_entry_eq]
  generalize (lg_sl ([.ref h0]) ++ List.replicate (3 - (lg_sl ([.ref h0])).length) Slot.unset).toArray = ls at hl ⊢
  have hl : lv_has ls 3 [(0, .ref h0)] := hl
  obtain ⟨-, -, -, b4, b5⟩ := okB_div (i := 0) hB
  have key : ∀ (d : Nat) (offs1 : Nat → Int32) (i : Nat) (H : Heap) (locs : List Loc) (ls : Array Slot), n + 2 ≤ i + d → i ≤ n + 1 → (∀ k, k < nb → k * B < i → offs1 k = nI (cn (bo btw) (k * B))) → va_P D vwCl (cW cI cL h0 ad n B nb tp ob co rd rts offs1 fnd mem frs btw snw stw) H → va_D A (cW cI cL h0 ad n B nb tp ob co rd rts offs1 fnd mem frs btw snw stw) → va_S A s.heap H locs → lv_has ls 3 [(0, .ref h0), (1, .int (nI (cn (bo btw) i))), (2, .int (nI i))] → W p l e (headSpec wsX1_fillOffsets ({ frames := 1, cells := 0, slots := 0, locals := 30 })).room s m ([.ref h0] : List Value).toArray below meth c H locs 0 0 (MQ below (va_Qi (fun (r9 : Int32) (u : Nat → Int32) => r9 = nI (cn (bo btw) (n + 1)) ∧ offOk B nb u (bo btw)) (fun (u : Nat → Int32) t => va_P D vwCl (cW cI cL h0 ad n B nb tp ob co rd rts u fnd mem frs btw snw stw) t.heap ∧ va_D A (cW cI cL h0 ad n B nb tp ob co rd rts u fnd mem frs btw snw stw)) A) ([.ref h0] : List Value).toArray s 0 0 A) (F0 m 4 ls []) := by
    intro d
    induction d with
    | zero =>
      intro offs1 i H locs ls hd hi hO hP hD hS hl
      exfalso; omega
    | succ d ih =>
      intro offs1 i H locs ls hd hi hO hP hD hS hl
      refine lv_iload_n hx hb dX1_fillOffsets_4 rfl (lv_at hl 2 rfl) ?_
      refine lv_aload_n hx hb dX1_fillOffsets_5 rfl (lv_at hl 0 rfl) ?_
      refine va_get (D := D) (ci := 1) (v := .int (nI n)) (C := RX1) (T := TX1) (N := 15) hx hb hts in_X1_fillOffsets_X1 hown hK hP 0 rfl rfl 0 (by decide) (hts (.fieldLink RX1 18 "OffsetHeap" "last" "I") (by decide +kernel)) (fun _ h9 => h9) rfl dX1_fillOffsets_6 ?_
      refine xk_icmp_gt (tgt := 53) hx hb (by omega) (by omega) dX1_fillOffsets_9 (by decide) (fun c9 => ?_) (fun c9 => ?_)
      · refine lv_iload_n hx hb dX1_fillOffsets_53 rfl (lv_at hl 1 rfl) ?_
        exact W.iret hx hb hr (fun t ht hW => ⟨⟨_, offs1, rfl, ⟨by rw [show i = n + 1 by omega], off_all hB hnb (by rw [show i = n + 1 by omega] at hO; exact hO)⟩, by rw [ht]; exact hP, hD⟩, hS.F ht⟩) hS.2.2 dX1_fillOffsets_54
      · have b6 : i % B ≤ i := Nat.mod_le _ _
        have b7 : i / B ≤ n / B := Nat.div_le_div_right c9
        have b8 := cn_le (bo btw) i
        have b9 : n / B ≤ n := Nat.div_le_self _ _
        refine lv_iload_n hx hb dX1_fillOffsets_12 rfl (lv_at hl 2 rfl) ?_
        refine lv_aload_n hx hb dX1_fillOffsets_13 rfl (lv_at hl 0 rfl) ?_
        refine va_get (D := D) (ci := 1) (v := .int (nI B)) (C := RX1) (T := TX1) (N := 15) hx hb hts in_X1_fillOffsets_X1 hown hK hP 0 rfl rfl 1 (by decide) (hts (.fieldLink RX1 26 "OffsetHeap" "blockWords" "I") (by decide +kernel)) (fun _ h9 => h9) rfl dX1_fillOffsets_14 ?_
        refine lv_irem hx hb dX1_fillOffsets_17 (nI_ne0 (by omega) (by omega)) ?_
        refine xk_top (pk_rem (by omega) (by omega) (by omega)) ?_
        refine xk_if_ne (tgt := 33) hx hb (by omega) dX1_fillOffsets_18 (by decide) (fun c18 => ?_) (fun c18 => ?_)
        · refine lv_aload_n hx hb dX1_fillOffsets_33 rfl (lv_at hl 0 rfl) ?_
          refine va_get (D := D) (ci := 1) (v := .ref (ad 2)) (C := RX1) (T := TX1) (N := 15) hx hb hts in_X1_fillOffsets_X1 hown hK hP 0 rfl rfl 4 (by decide) (hts (.fieldLink RX1 41 "OffsetHeap" "bits" "LOffsetHeap$BitRow;") (by decide +kernel)) (fun _ h9 => h9) rfl dX1_fillOffsets_34 ?_
          refine lv_iload_n hx hb dX1_fillOffsets_37 rfl (lv_at hl 2 rfl) ?_
          refine xk_roV (As := [.int (nI i)]) (rest := []) ⟨hx, hb, hml, hown, hts⟩ (c_has l D cL (ad 2) (ad 3) (n / 64 + 1) btw (by omega) i (by omega) (by omega)) (cwV 1 hts gX1_fillOffsets_X0_has rfl rfl rfl (by decide +kernel) ⟨Nat.le_of_ble_eq_true rfl, Nat.le_of_ble_eq_true rfl⟩) (va_recv hK hP (ci := 0) (q0 := 2) rfl rfl) (hP.sub [2, 3] rfl) (hK.sub [1] rfl) rfl hl.1 rfl (Nat.le_of_ble_eq_true rfl) dX1_fillOffsets_38 ⟨Nat.zero_le _, Nat.zero_le _⟩ ?_
          refine xk_if_eqB (tgt := 47) hx hb dX1_fillOffsets_41 (by decide) (fun c41 => ?_) (fun c41 => ?_)
          · refine lv_iinc (v := nI (i + 1)) (lv' := [(2, .int (nI (i + 1))), (0, .ref h0), (1, .int (nI (cn (bo btw) i)))]) hx hb dX1_fillOffsets_47 hl (k := 2) rfl (xk_inc i) (by decide) rfl (fun ls hl => ?_)
            refine lv_goto (tgt := 4) hx hb dX1_fillOffsets_50 (by decide) ?_
            rw [← cn_f c41] at hl
            exact ih offs1 (i + 1) H locs ls (by omega) (by omega) (off_skip hB hO c18) hP hD hS (lv_sub hl [1, 2, 0] rfl)
          · refine lv_iinc (v := nI (cn (bo btw) i + 1)) (lv' := [(1, .int (nI (cn (bo btw) i + 1))), (0, .ref h0), (2, .int (nI i))]) hx hb dX1_fillOffsets_44 hl (k := 1) rfl (xk_inc (cn (bo btw) i)) (by decide) rfl (fun ls hl => ?_)
            refine lv_iinc (v := nI (i + 1)) (lv' := [(2, .int (nI (i + 1))), (1, .int (nI (cn (bo btw) i + 1))), (0, .ref h0)]) hx hb dX1_fillOffsets_47 hl (k := 2) rfl (xk_inc i) (by decide) rfl (fun ls hl => ?_)
            refine lv_goto (tgt := 4) hx hb dX1_fillOffsets_50 (by decide) ?_
            rw [← cn_t c41] at hl
            exact ih offs1 (i + 1) H locs ls (by omega) (by omega) (off_skip hB hO c18) hP hD hS (lv_sub hl [2, 1, 0] rfl)
        · refine lv_aload_n hx hb dX1_fillOffsets_21 rfl (lv_at hl 0 rfl) ?_
          refine va_get (D := D) (ci := 1) (v := .ref (ad 4)) (C := RX1) (T := TX1) (N := 15) hx hb hts in_X1_fillOffsets_X1 hown hK hP 0 rfl rfl 5 (by decide) (hts (.fieldLink RX1 45 "OffsetHeap" "offsets" "[I") (by decide +kernel)) (fun _ h9 => h9) rfl dX1_fillOffsets_22 ?_
          refine lv_iload_n hx hb dX1_fillOffsets_25 rfl (lv_at hl 2 rfl) ?_
          refine lv_aload_n hx hb dX1_fillOffsets_26 rfl (lv_at hl 0 rfl) ?_
          refine va_get (D := D) (ci := 1) (v := .int (nI B)) (C := RX1) (T := TX1) (N := 15) hx hb hts in_X1_fillOffsets_X1 hown hK hP 0 rfl rfl 1 (by decide) (hts (.fieldLink RX1 26 "OffsetHeap" "blockWords" "I") (by decide +kernel)) (fun _ h9 => h9) rfl dX1_fillOffsets_27 ?_
          refine lv_idiv hx hb dX1_fillOffsets_30 (nI_ne0 (by omega) (by omega)) ?_
          refine xk_top (pk_div (by omega) (by omega) (by omega)) ?_
          refine lv_iload_n hx hb dX1_fillOffsets_31 rfl (lv_at hl 1 rfl) ?_
          refine xk_iast hx hb hK hP hD hS 4 0 rfl rfl (by omega) (by omega) dX1_fillOffsets_32 (fun H locs hP hD hS => ?_)
          have hP : va_P D vwCl (cW cI cL h0 ad n B nb tp ob co rd rts (upd offs1 (i / B) (nI (cn (bo btw) i))) fnd mem frs btw snw stw) H := hP
          have hD : va_D A (cW cI cL h0 ad n B nb tp ob co rd rts (upd offs1 (i / B) (nI (cn (bo btw) i))) fnd mem frs btw snw stw) := hD
          refine lv_aload_n hx hb dX1_fillOffsets_33 rfl (lv_at hl 0 rfl) ?_
          refine va_get (D := D) (ci := 1) (v := .ref (ad 2)) (C := RX1) (T := TX1) (N := 15) hx hb hts in_X1_fillOffsets_X1 hown hK hP 0 rfl rfl 4 (by decide) (hts (.fieldLink RX1 41 "OffsetHeap" "bits" "LOffsetHeap$BitRow;") (by decide +kernel)) (fun _ h9 => h9) rfl dX1_fillOffsets_34 ?_
          refine lv_iload_n hx hb dX1_fillOffsets_37 rfl (lv_at hl 2 rfl) ?_
          refine xk_roV (As := [.int (nI i)]) (rest := []) ⟨hx, hb, hml, hown, hts⟩ (c_has l D cL (ad 2) (ad 3) (n / 64 + 1) btw (by omega) i (by omega) (by omega)) (cwV 1 hts gX1_fillOffsets_X0_has rfl rfl rfl (by decide +kernel) ⟨Nat.le_of_ble_eq_true rfl, Nat.le_of_ble_eq_true rfl⟩) (va_recv hK hP (ci := 0) (q0 := 2) rfl rfl) (hP.sub [2, 3] rfl) (hK.sub [1] rfl) rfl hl.1 rfl (Nat.le_of_ble_eq_true rfl) dX1_fillOffsets_38 ⟨Nat.zero_le _, Nat.zero_le _⟩ ?_
          refine xk_if_eqB (tgt := 47) hx hb dX1_fillOffsets_41 (by decide) (fun c41 => ?_) (fun c41 => ?_)
          · refine lv_iinc (v := nI (i + 1)) (lv' := [(2, .int (nI (i + 1))), (0, .ref h0), (1, .int (nI (cn (bo btw) i)))]) hx hb dX1_fillOffsets_47 hl (k := 2) rfl (xk_inc i) (by decide) rfl (fun ls hl => ?_)
            refine lv_goto (tgt := 4) hx hb dX1_fillOffsets_50 (by decide) ?_
            rw [← cn_f c41] at hl
            exact ih (upd offs1 (i / B) (nI (cn (bo btw) i))) (i + 1) H locs ls (by omega) (by omega) (off_step hB hO c18) hP hD hS (lv_sub hl [1, 2, 0] rfl)
          · refine lv_iinc (v := nI (cn (bo btw) i + 1)) (lv' := [(1, .int (nI (cn (bo btw) i + 1))), (0, .ref h0), (2, .int (nI i))]) hx hb dX1_fillOffsets_44 hl (k := 1) rfl (xk_inc (cn (bo btw) i)) (by decide) rfl (fun ls hl => ?_)
            refine lv_iinc (v := nI (i + 1)) (lv' := [(2, .int (nI (i + 1))), (1, .int (nI (cn (bo btw) i + 1))), (0, .ref h0)]) hx hb dX1_fillOffsets_47 hl (k := 2) rfl (xk_inc i) (by decide) rfl (fun ls hl => ?_)
            refine lv_goto (tgt := 4) hx hb dX1_fillOffsets_50 (by decide) ?_
            rw [← cn_t c41] at hl
            exact ih (upd offs1 (i / B) (nI (cn (bo btw) i))) (i + 1) H locs ls (by omega) (by omega) (off_step hB hO c18) hP hD hS (lv_sub hl [2, 1, 0] rfl)
  refine lv_iconst (v := nI 0) hx hb dX1_fillOffsets_0 (by decide +kernel) ?_
  refine lv_istore_n (lv' := [(1, .int (nI 0)), (0, .ref h0)]) hx hb dX1_fillOffsets_1 rfl hl (by decide) rfl (fun ls hl => ?_)
  refine lv_iconst (v := nI 0) hx hb dX1_fillOffsets_2 (by decide +kernel) ?_
  refine lv_istore_n (lv' := [(2, .int (nI 0)), (1, .int (nI 0)), (0, .ref h0)]) hx hb dX1_fillOffsets_3 rfl hl (by decide) rfl (fun ls hl => ?_)
  exact key (n + 2) offs 0 s.heap [] ls (by omega) (by omega) (fun k _ h => absurd h (Nat.not_lt_zero _)) hP hD hS (lv_sub hl [2, 1, 0] rfl)
set_option maxHeartbeats 4000000 in
set_option maxRecDepth 100000 in
/-- copyLiving -/
theorem c_copyLiving (l : Launch) (D : va_G) (cI cL : ClassId) (h0 : Nat) (ad : Nat → Nat) (n B nb tp ob co rd : Nat) (rts offs fnd mem frs : Nat → Int32) (btw snw stw : Nat → Int64) (sz : Nat) (hn : n ≤ 4000) (hok : okS n tp mem (bo stw) rts) (hB : okB B) (hnb : nb = n / B + 1) (hof : offOk B nb offs (bo btw)) (hL : okL n mem rts (bo btw)) : Met l yX1_copyLiving wsX1_copyLiving ({ frames := 4, cells := 0, slots := 0, locals := 120 }) (va_Pc [.ref h0] (fun U => U.heap.size = sz ∧ va_P D vwCl (cW cI cL h0 ad n B nb tp ob co rd rts offs fnd mem frs btw snw stw) U.heap ∧ va_K D vwCl [(cI, .int), (cL, .long)] U ∧ va_D (fun _ => True) (cW cI cL h0 ad n B nb tp ob co rd rts offs fnd mem frs btw snw stw))) (va_Qv (fun (u : (Nat → Int32) × (Nat → Int64) × Nat × Nat) => CP n tp mem (bo stw) (bo btw) u.1 (bo u.2.1) u.2.2.1 u.2.2.2 tp) (fun (u : (Nat → Int32) × (Nat → Int64) × Nat × Nat) t => va_P D vwCl (cW cI cL h0 ad n B nb tp u.2.2.2 co u.2.2.1 rts offs fnd mem u.1 btw snw u.2.1) t.heap ∧ va_D (va_A (cW cI cL h0 ad n B nb tp ob co rd rts offs fnd mem frs btw snw stw) sz) (cW cI cL h0 ad n B nb tp u.2.2.2 co u.2.2.1 rts offs fnd mem u.1 btw snw u.2.1)) (va_A (cW cI cL h0 ad n B nb tp ob co rd rts offs fnd mem frs btw snw stw) sz)) 0 0 (va_A (cW cI cL h0 ad n B nb tp ob co rd rts offs fnd mem frs btw snw stw) sz) := by
  refine Met.ofW (cc := cX1_copyLiving) (maxL := 6) (ret := none) (by decide) rfl ?_
  intro p e s m args below meth c s₁ B9 hml hv
  obtain ⟨rfl, hsz, hP, hK, hD0⟩ := hv
  have hx := B9.exec
  have hb := B9.bytes
  have hr := B9.returns
  have hts := atoms_spec (ws := wsX1_copyLiving) B9.pre
  have hown : s.vm.findClass RX1 = some m.cls := findClass_of_methodNamed B9.named
  have hlocks := B9.notSynchronized
  subst hsz
  have hD := hD0.self (sz := s.heap.size)
  generalize hAe : va_A (cW cI cL h0 ad n B nb tp ob co rd rts offs fnd mem frs btw snw stw) s.heap.size = A at hD ⊢
  have hA : ∀ q : Nat, s.heap.size ≤ q → A q := fun q h => by rw [← hAe]; exact Or.inr h
  have hS : va_S A s.heap s.heap [] := va_S.rf
  have hl := lv_entry ([.ref h0]) (n := 6) (Nat.le_of_ble_eq_true rfl)
  rw [lg_entry_eq]
  generalize (lg_sl ([.ref h0]) ++ List.replicate (6 - (lg_sl ([.ref h0])).length) Slot.unset).toArray = ls at hl ⊢
  have hl : lv_has ls 6 [(0, .ref h0)] := hl
  have htp := hok.1.2.1
  have htp1 := hok.1.1
  refine lv_aload_n hx hb dX1_copyLiving_0 rfl (lv_at hl 0 rfl) ?_
  refine va_get (D := D) (ci := 1) (v := .ref (ad 9)) (C := RX1) (T := TX1) (N := 15) hx hb hts in_X1_copyLiving_X1 hown hK hP 0 rfl rfl 10 (by decide) (hts (.fieldLink RX1 60 "OffsetHeap" "fresh" "[I") (by decide +kernel)) (fun _ h9 => h9) rfl dX1_copyLiving_1 ?_
  refine lv_iconst (v := nI 0) hx hb dX1_copyLiving_4 (by decide +kernel) ?_
  refine xk_aftv (wr := [(h0, .inr (1, [.int (nI n), .int (nI B), .int (nI nb), .ref (ad 1), .ref (ad 2), .ref (ad 4), .ref (ad 5), .ref (ad 6), .ref (ad 10), .ref (ad 8), .ref (ad 9), .int (nI tp), .int (nI ob), .int (nI co), .int (nI rd)])), ((ad 1), .inl (cI, 8, .inl rts)), ((ad 2), .inr (0, [.ref (ad 3)])), ((ad 3), .inl (cL, (n / 64 + 1), .inr (.inl btw))), ((ad 4), .inl (cI, nb, .inl offs)), ((ad 5), .inl (cI, n, .inl fnd)), ((ad 6), .inr (0, [.ref (ad 7)])), ((ad 7), .inl (cL, (n / 64 + 1), .inr (.inl snw))), ((ad 8), .inl (cI, (n + 1), .inl mem)), ((ad 10), .inr (0, [.ref (ad 11)])), ((ad 11), .inl (cL, (n / 64 + 1), .inr (.inl stw)))]) (ws' := fun f2 => cW cI cL h0 ad n B nb tp ob co rd rts offs fnd mem f2 btw snw stw) (va_runS (As := [.ref (ad 9), .int (nI 0)]) (rest := []) ⟨hx, hb, hml, hown, hts⟩ (c_fillI l D (ad 9) cI (n + 1) s.heap.size frs (nI 0) (by omega)) (va_cwS 2 hts gX1_copyLiving_J7_fill_53178 rfl rfl rfl (by decide +kernel) ⟨Nat.le_of_ble_eq_true rfl, Nat.le_of_ble_eq_true rfl⟩) (xk_preS rfl (hP.sub [9] rfl) (hK.sub [0] rfl) ((hD.sub [9] (by decide) rfl).weaken (fun _ _ _ _ => trivial))) rfl rfl hl.1 rfl (lv_room (Nat.le_of_ble_eq_true rfl)) dX1_copyLiving_5 ⟨Nat.zero_le _, Nat.zero_le _⟩) hP hD hS hA [9] [0, 1, 2, 3, 4, 5, 6, 7, 8, 10, 11] [0, 1, 2, 3, 4, 5, 6, 7, 8, 11, 9, 10] rfl rfl (by decide) (by decide) (fun _ => rfl) (by decide) (fun fr0 H locs hfr0 hP hD hS => ?_)
  have hP : va_P D vwCl (cW cI cL h0 ad n B nb tp ob co rd rts offs fnd mem fr0 btw snw stw) H := hP
  have hD : va_D A (cW cI cL h0 ad n B nb tp ob co rd rts offs fnd mem fr0 btw snw stw) := hD
  refine lv_aload_n hx hb dX1_copyLiving_8 rfl (lv_at hl 0 rfl) ?_
  refine va_get (D := D) (ci := 1) (v := .ref (ad 10)) (C := RX1) (T := TX1) (N := 15) hx hb hts in_X1_copyLiving_X1 hown hK hP 0 rfl rfl 8 (by decide) (hts (.fieldLink RX1 54 "OffsetHeap" "starts" "LOffsetHeap$BitRow;") (by decide +kernel)) (fun _ h9 => h9) rfl dX1_copyLiving_9 ?_
  refine xk_aftv (wr := [(h0, .inr (1, [.int (nI n), .int (nI B), .int (nI nb), .ref (ad 1), .ref (ad 2), .ref (ad 4), .ref (ad 5), .ref (ad 6), .ref (ad 10), .ref (ad 8), .ref (ad 9), .int (nI tp), .int (nI ob), .int (nI co), .int (nI rd)])), ((ad 1), .inl (cI, 8, .inl rts)), ((ad 2), .inr (0, [.ref (ad 3)])), ((ad 3), .inl (cL, (n / 64 + 1), .inr (.inl btw))), ((ad 4), .inl (cI, nb, .inl offs)), ((ad 5), .inl (cI, n, .inl fnd)), ((ad 6), .inr (0, [.ref (ad 7)])), ((ad 7), .inl (cL, (n / 64 + 1), .inr (.inl snw))), ((ad 8), .inl (cI, (n + 1), .inl mem)), ((ad 9), .inl (cI, (n + 1), .inl fr0))]) (ws' := fun f2 => cW cI cL h0 ad n B nb tp ob co rd rts offs fnd mem fr0 btw snw f2) (va_runV (As := []) (rest := []) ⟨hx, hb, hml, hown, hts⟩ (c_clear l D cL (ad 10) (ad 11) (n / 64 + 1) stw (by omega) H.size) (cwV 0 hts gX1_copyLiving_X0_clear rfl rfl rfl (by decide +kernel) ⟨Nat.le_of_ble_eq_true rfl, Nat.le_of_ble_eq_true rfl⟩) (xk_preV (va_recv hK hP (ci := 0) (q0 := 10) rfl rfl) rfl (hP.sub [10, 11] rfl) (hK.sub [1] rfl) ((hD.sub [10, 11] (by decide) rfl).weaken (fun _ _ _ _ => trivial))) rfl rfl hl.1 rfl (lv_room (Nat.le_of_ble_eq_true rfl)) dX1_copyLiving_12 ⟨Nat.zero_le _, Nat.zero_le _⟩) hP hD hS hA [10, 11] [0, 1, 2, 3, 4, 5, 6, 7, 8, 9] [0, 1, 2, 3, 4, 5, 6, 7, 8, 9, 10, 11] rfl rfl (by decide) (by decide) (fun _ => rfl) (by decide) (fun f2 H locs hf2 hP hD hS => ?_)
  obtain ⟨fs0, efs0⟩ : ∃ z, z = f2 := ⟨_, rfl⟩
  rw [← efs0] at hP hD hf2
  have hfs0 := hf2
  have hP : va_P D vwCl (cW cI cL h0 ad n B nb tp ob co rd rts offs fnd mem fr0 btw snw fs0) H := hP
  have hD : va_D A (cW cI cL h0 ad n B nb tp ob co rd rts offs fnd mem fr0 btw snw fs0) := hD
  refine lv_aload_n hx hb dX1_copyLiving_15 rfl (lv_at hl 0 rfl) ?_
  refine lv_iconst (v := nI 0) hx hb dX1_copyLiving_16 (by decide +kernel) ?_
  refine va_put (D := D) (ci := 1) (v := .int (nI 0)) (ty := .int) (C := RX1) (T := TX1) (N := 15) hx hb hts in_X1_copyLiving_X1 tyX1 tyX1_ok nmX1 hown hK hP hD hS 0 rfl rfl 14 (by decide) (hts (.fieldLink RX1 122 "OffsetHeap" "wordsRead" "I") (by decide +kernel)) (fun _ h9 => h9) rfl (by decide +kernel) rfl rfl (Nat.le_of_ble_eq_true rfl) dX1_copyLiving_17 (fun H locs hP hD hS => ?_)
  have hP : va_P D vwCl (cW cI cL h0 ad n B nb tp ob co 0 rts offs fnd mem fr0 btw snw fs0) H := hP
  have hD : va_D A (cW cI cL h0 ad n B nb tp ob co 0 rts offs fnd mem fr0 btw snw fs0) := hD
  refine lv_aload_n hx hb dX1_copyLiving_20 rfl (lv_at hl 0 rfl) ?_
  refine lv_iconst (v := nI 0) hx hb dX1_copyLiving_21 (by decide +kernel) ?_
  refine va_put (D := D) (ci := 1) (v := .int (nI 0)) (ty := .int) (C := RX1) (T := TX1) (N := 15) hx hb hts in_X1_copyLiving_X1 tyX1 tyX1_ok nmX1 hown hK hP hD hS 0 rfl rfl 12 (by decide) (hts (.fieldLink RX1 76 "OffsetHeap" "objects" "I") (by decide +kernel)) (fun _ h9 => h9) rfl (by decide +kernel) rfl rfl (Nat.le_of_ble_eq_true rfl) dX1_copyLiving_22 (fun H locs hP hD hS => ?_)
  have hP : va_P D vwCl (cW cI cL h0 ad n B nb tp 0 co 0 rts offs fnd mem fr0 btw snw fs0) H := hP
  have hD : va_D A (cW cI cL h0 ad n B nb tp 0 co 0 rts offs fnd mem fr0 btw snw fs0) := hD
  have bz : ∀ x, x ≤ n → bo fs0 x = false := fun x hx => bo_c0 (hfs0 (x / 64) (by omega))
  have key : ∀ (d : Nat) (frs1 : Nat → Int32) (fsw1 : Nat → Int64) (rd1 ob1 R P i : Nat) (H : Heap) (locs : List Loc) (ls : Array Slot), tp + 1 ≤ i + d → 1 ≤ i → i ≤ tp → R ≤ 15 → P ≤ 100 → CP n tp mem (bo stw) (bo btw) frs1 (bo fsw1) rd1 ob1 i → PH tp mem (bo stw) (bo btw) R P i → va_P D vwCl (cW cI cL h0 ad n B nb tp ob1 co rd1 rts offs fnd mem frs1 btw snw fsw1) H → va_D A (cW cI cL h0 ad n B nb tp ob1 co rd1 rts offs fnd mem frs1 btw snw fsw1) → va_S A s.heap H locs → lv_has ls 6 [(0, .ref h0), (1, .int (nI R)), (2, .int (nI P)), (3, .int (nI i))] → W p l e (headSpec wsX1_copyLiving ({ frames := 4, cells := 0, slots := 0, locals := 120 })).room s m ([.ref h0] : List Value).toArray below meth c H locs 0 0 (MQ below (va_Qv (fun (u : (Nat → Int32) × (Nat → Int64) × Nat × Nat) => CP n tp mem (bo stw) (bo btw) u.1 (bo u.2.1) u.2.2.1 u.2.2.2 tp) (fun (u : (Nat → Int32) × (Nat → Int64) × Nat × Nat) t => va_P D vwCl (cW cI cL h0 ad n B nb tp u.2.2.2 co u.2.2.1 rts offs fnd mem u.1 btw snw u.2.1) t.heap ∧ va_D A (cW cI cL h0 ad n B nb tp u.2.2.2 co u.2.2.1 rts offs fnd mem u.1 btw snw u.2.1)) A) ([.ref h0] : List Value).toArray s 0 0 A) (F0 m 31 ls []) := by
    intro d
    induction d with
    | zero =>
      intro frs1 fsw1 rd1 ob1 R P i H locs ls hd hi1 hi2 hR hPb hcp hph hP hD hS hl
      exfalso; omega
    | succ d ih =>
      intro frs1 fsw1 rd1 ob1 R P i H locs ls hd hi1 hi2 hR hPb hcp hph hP hD hS hl
      refine lv_iload_n hx hb dX1_copyLiving_31 rfl (lv_at hl 3 rfl) ?_
      refine lv_aload_n hx hb dX1_copyLiving_32 rfl (lv_at hl 0 rfl) ?_
      refine va_get (D := D) (ci := 1) (v := .int (nI tp)) (C := RX1) (T := TX1) (N := 15) hx hb hts in_X1_copyLiving_X1 hown hK hP 0 rfl rfl 11 (by decide) (hts (.fieldLink RX1 63 "OffsetHeap" "top" "I") (by decide +kernel)) (fun _ h9 => h9) rfl dX1_copyLiving_33 ?_
      refine xk_icmp_ge (tgt := 166) hx hb (by omega) (by omega) dX1_copyLiving_36 (by decide) (fun c36 => ?_) (fun c36 => ?_)
      · exact W.vret hx hb hr (fun t ht hW => ⟨⟨(frs1, fsw1, rd1, ob1), rfl, (by rw [show i = tp by omega] at hcp; exact hcp), by rw [ht]; exact hP, hD⟩, hS.F ht⟩) hS.2.2 dX1_copyLiving_166
      · refine lv_aload_n hx hb dX1_copyLiving_39 rfl (lv_at hl 0 rfl) ?_
        refine va_get (D := D) (ci := 1) (v := .ref (ad 2)) (C := RX1) (T := TX1) (N := 15) hx hb hts in_X1_copyLiving_X1 hown hK hP 0 rfl rfl 4 (by decide) (hts (.fieldLink RX1 41 "OffsetHeap" "bits" "LOffsetHeap$BitRow;") (by decide +kernel)) (fun _ h9 => h9) rfl dX1_copyLiving_40 ?_
        refine lv_iload_n hx hb dX1_copyLiving_43 rfl (lv_at hl 3 rfl) ?_
        refine xk_roV (As := [.int (nI i)]) (rest := []) ⟨hx, hb, hml, hown, hts⟩ (c_has l D cL (ad 2) (ad 3) (n / 64 + 1) btw (by omega) i (by omega) (by omega)) (cwV 1 hts gX1_copyLiving_X0_has rfl rfl rfl (by decide +kernel) ⟨Nat.le_of_ble_eq_true rfl, Nat.le_of_ble_eq_true rfl⟩) (va_recv hK hP (ci := 0) (q0 := 2) rfl rfl) (hP.sub [2, 3] rfl) (hK.sub [1] rfl) rfl hl.1 rfl (Nat.le_of_ble_eq_true rfl) dX1_copyLiving_44 ⟨Nat.zero_le _, Nat.zero_le _⟩ ?_
        refine xk_if_neB (tgt := 53) hx hb dX1_copyLiving_47 (by decide) (fun c47 => ?_) (fun c47 => ?_)
        · have b1 := hL.lt hok (i := i) (by omega)
          refine lv_aload_n hx hb dX1_copyLiving_53 rfl (lv_at hl 0 rfl) ?_
          refine va_get (D := D) (ci := 1) (v := .ref (ad 8)) (C := RX1) (T := TX1) (N := 15) hx hb hts in_X1_copyLiving_X1 hown hK hP 0 rfl rfl 9 (by decide) (hts (.fieldLink RX1 57 "OffsetHeap" "space" "[I") (by decide +kernel)) (fun _ h9 => h9) rfl dX1_copyLiving_54 ?_
          refine lv_iload_n hx hb dX1_copyLiving_57 rfl (lv_at hl 3 rfl) ?_
          refine xk_iald hx hb hK hP 8 0 rfl rfl (by omega) (by omega) dX1_copyLiving_58 ?_
          refine lv_istore (lv' := [(4, .int (mem i)), (0, .ref h0), (1, .int (nI R)), (2, .int (nI P)), (3, .int (nI i))]) hx hb dX1_copyLiving_59 hl (by decide) rfl (fun ls hl => ?_)
          refine lv_aload_n hx hb dX1_copyLiving_61 rfl (lv_at hl 1 rfl) ?_
          refine lv_dup hx hb dX1_copyLiving_62 rfl ?_
          refine va_get (D := D) (ci := 1) (v := .int (nI rd1)) (C := RX1) (T := TX1) (N := 15) hx hb hts in_X1_copyLiving_X1 hown hK hP 0 rfl rfl 14 (by decide) (hts (.fieldLink RX1 122 "OffsetHeap" "wordsRead" "I") (by decide +kernel)) (fun _ h9 => h9) rfl dX1_copyLiving_63 ?_
          refine lv_iconst (v := nI 1) hx hb dX1_copyLiving_66 (by decide +kernel) ?_
          refine lv_iadd hx hb dX1_copyLiving_67 ?_
          refine xk_top (nI_add _ _) ?_
          refine va_put (D := D) (ci := 1) (v := .int (nI (rd1 + 1))) (ty := .int) (C := RX1) (T := TX1) (N := 15) hx hb hts in_X1_copyLiving_X1 tyX1 tyX1_ok nmX1 hown hK hP hD hS 0 rfl rfl 14 (by decide) (hts (.fieldLink RX1 122 "OffsetHeap" "wordsRead" "I") (by decide +kernel)) (fun _ h9 => h9) rfl (by decide +kernel) rfl rfl (Nat.le_of_ble_eq_true rfl) dX1_copyLiving_68 (fun H locs hP hD hS => ?_)
          have hP : va_P D vwCl (cW cI cL h0 ad n B nb tp ob1 co (rd1 + 1) rts offs fnd mem frs1 btw snw fsw1) H := hP
          have hD : va_D A (cW cI cL h0 ad n B nb tp ob1 co (rd1 + 1) rts offs fnd mem frs1 btw snw fsw1) := hD
          refine lv_aload_n hx hb dX1_copyLiving_71 rfl (lv_at hl 1 rfl) ?_
          refine lv_iload_n hx hb dX1_copyLiving_72 rfl (lv_at hl 4 rfl) ?_
          refine xk_roV (As := [.int (nI i)]) (rest := []) ⟨hx, hb, hml, hown, hts⟩ (c_newAddress l D cI cL h0 ad n B nb tp ob1 co (rd1 + 1) rts offs fnd mem frs1 btw snw fsw1 i hn hB hnb hof (by omega)) (cwV 1 hts gX1_copyLiving_X1_newAddress rfl rfl rfl (by decide +kernel) ⟨Nat.le_of_ble_eq_true rfl, Nat.le_of_ble_eq_true rfl⟩) (va_recv hK hP (ci := 1) (q0 := 0) rfl rfl) hP hK rfl hl.1 rfl (Nat.le_of_ble_eq_true rfl) dX1_copyLiving_73 ⟨Nat.zero_le _, Nat.zero_le _⟩ ?_
          refine lv_istore (lv' := [(5, .int (nI (1 + cn (bo btw) i))), (4, .int (mem i)), (0, .ref h0), (1, .int (nI R)), (2, .int (nI P)), (3, .int (nI i))]) hx hb dX1_copyLiving_76 hl (by decide) rfl (fun ls hl => ?_)
          refine lv_iload_n hx hb dX1_copyLiving_78 rfl (lv_at hl 3 rfl) ?_
          refine xk_if_le (tgt := 101) hx hb (by omega) dX1_copyLiving_79 (by decide) (fun c79 => ?_) (fun c79 => ?_)
          · refine lv_iload_n hx hb dX1_copyLiving_101 rfl (lv_at hl 4 rfl) ?_
            refine xk_if_le (tgt := 120) hx hb (by omega) dX1_copyLiving_102 (by decide) (fun c102 => ?_) (fun c102 => ?_)
            · have hst : bo stw i = true := by
                rcases hph with ⟨-, -, w⟩ | ⟨o, o1, o2, o3, o4, o5, o6, eR, eP⟩
                · rcases w (by omega) with w | w
                  · exact w
                  · rw [w] at c47; cases c47
                · exfalso; rw [siz_rfs] at o6; omega
              have hh := hok.hdr (by omega) (by omega) hst
              have hs := hok.hsm (by omega) (by omega) hst
              refine lv_iload hx hb dX1_copyLiving_120 (lv_at hl 1 rfl) ?_
              refine xk_top hh ?_
              refine xk_roS (As := [.int (nI (tn (mem i)))]) (rest := []) ⟨hx, hb, hml, hown, hts⟩ (c_referencesBy l (tn (mem i)) (by omega)) (va_cwS 1 hts gX1_copyLiving_X1_referencesBy rfl rfl rfl (by decide +kernel) ⟨Nat.le_of_ble_eq_true rfl, Nat.le_of_ble_eq_true rfl⟩) rfl hl.1 rfl (Nat.le_of_ble_eq_true rfl) dX1_copyLiving_122 ⟨Nat.zero_le _, Nat.zero_le _⟩ ?_
              refine lv_istore_n (lv' := [(1, .int (nI ((tn (mem i)) / 16 % 16))), (5, .int (nI (1 + cn (bo btw) i))), (4, .int (mem i)), (0, .ref h0), (2, .int (nI P)), (3, .int (nI i))]) hx hb dX1_copyLiving_125 rfl hl (by decide) rfl (fun ls hl => ?_)
              refine lv_iload hx hb dX1_copyLiving_126 (lv_at hl 2 rfl) ?_
              refine xk_top hh ?_
              refine xk_roS (As := [.int (nI (tn (mem i)))]) (rest := []) ⟨hx, hb, hml, hown, hts⟩ (c_plainBy l (tn (mem i)) (by omega)) (va_cwS 1 hts gX1_copyLiving_X1_plainBy rfl rfl rfl (by decide +kernel) ⟨Nat.le_of_ble_eq_true rfl, Nat.le_of_ble_eq_true rfl⟩) rfl hl.1 rfl (Nat.le_of_ble_eq_true rfl) dX1_copyLiving_128 ⟨Nat.zero_le _, Nat.zero_le _⟩ ?_
              refine lv_istore_n (lv' := [(2, .int (nI ((tn (mem i)) / 256))), (1, .int (nI ((tn (mem i)) / 16 % 16))), (5, .int (nI (1 + cn (bo btw) i))), (4, .int (mem i)), (0, .ref h0), (3, .int (nI i))]) hx hb dX1_copyLiving_131 rfl hl (by decide) rfl (fun ls hl => ?_)
              refine lv_aload_n hx hb dX1_copyLiving_132 rfl (lv_at hl 4 rfl) ?_
              refine va_get (D := D) (ci := 1) (v := .ref (ad 9)) (C := RX1) (T := TX1) (N := 15) hx hb hts in_X1_copyLiving_X1 hown hK hP 0 rfl rfl 10 (by decide) (hts (.fieldLink RX1 60 "OffsetHeap" "fresh" "[I") (by decide +kernel)) (fun _ h9 => h9) rfl dX1_copyLiving_133 ?_
              refine lv_iload hx hb dX1_copyLiving_136 (lv_at hl 2 rfl) ?_
              refine lv_iload hx hb dX1_copyLiving_138 (lv_at hl 3 rfl) ?_
              refine xk_top hh ?_
              refine xk_iast hx hb hK hP hD hS 9 0 rfl rfl (by omega) (by omega) dX1_copyLiving_140 (fun H locs hP hD hS => ?_)
              have hP : va_P D vwCl (cW cI cL h0 ad n B nb tp ob1 co (rd1 + 1) rts offs fnd mem (upd frs1 (1 + cn (bo btw) i) (nI (tn (mem i)))) btw snw fsw1) H := hP
              have hD : va_D A (cW cI cL h0 ad n B nb tp ob1 co (rd1 + 1) rts offs fnd mem (upd frs1 (1 + cn (bo btw) i) (nI (tn (mem i)))) btw snw fsw1) := hD
              refine lv_aload_n hx hb dX1_copyLiving_141 rfl (lv_at hl 4 rfl) ?_
              refine va_get (D := D) (ci := 1) (v := .ref (ad 10)) (C := RX1) (T := TX1) (N := 15) hx hb hts in_X1_copyLiving_X1 hown hK hP 0 rfl rfl 8 (by decide) (hts (.fieldLink RX1 54 "OffsetHeap" "starts" "LOffsetHeap$BitRow;") (by decide +kernel)) (fun _ h9 => h9) rfl dX1_copyLiving_142 ?_
              refine lv_iload hx hb dX1_copyLiving_145 (lv_at hl 2 rfl) ?_
              refine xk_aftv (wr := [(h0, .inr (1, [.int (nI n), .int (nI B), .int (nI nb), .ref (ad 1), .ref (ad 2), .ref (ad 4), .ref (ad 5), .ref (ad 6), .ref (ad 10), .ref (ad 8), .ref (ad 9), .int (nI tp), .int (nI ob1), .int (nI co), .int (nI (rd1 + 1))])), ((ad 1), .inl (cI, 8, .inl rts)), ((ad 2), .inr (0, [.ref (ad 3)])), ((ad 3), .inl (cL, (n / 64 + 1), .inr (.inl btw))), ((ad 4), .inl (cI, nb, .inl offs)), ((ad 5), .inl (cI, n, .inl fnd)), ((ad 6), .inr (0, [.ref (ad 7)])), ((ad 7), .inl (cL, (n / 64 + 1), .inr (.inl snw))), ((ad 8), .inl (cI, (n + 1), .inl mem)), ((ad 9), .inl (cI, (n + 1), .inl (upd frs1 (1 + cn (bo btw) i) (nI (tn (mem i))))))]) (ws' := fun f2 => cW cI cL h0 ad n B nb tp ob1 co (rd1 + 1) rts offs fnd mem (upd frs1 (1 + cn (bo btw) i) (nI (tn (mem i)))) btw snw f2) (va_runV (As := [.int (nI (1 + cn (bo btw) i))]) (rest := []) ⟨hx, hb, hml, hown, hts⟩ (c_put l D cL (ad 10) (ad 11) (n / 64 + 1) fsw1 (by omega) H.size (1 + cn (bo btw) i) (by omega) (by omega)) (cwV 1 hts gX1_copyLiving_X0_put rfl rfl rfl (by decide +kernel) ⟨Nat.le_of_ble_eq_true rfl, Nat.le_of_ble_eq_true rfl⟩) (xk_preV (va_recv hK hP (ci := 0) (q0 := 10) rfl rfl) rfl (hP.sub [10, 11] rfl) (hK.sub [1] rfl) ((hD.sub [10, 11] (by decide) rfl).weaken (fun _ _ _ _ => trivial))) rfl rfl hl.1 rfl (lv_room (Nat.le_of_ble_eq_true rfl)) dX1_copyLiving_147 ⟨Nat.zero_le _, Nat.zero_le _⟩) hP hD hS hA [10, 11] [0, 1, 2, 3, 4, 5, 6, 7, 8, 9] [0, 1, 2, 3, 4, 5, 6, 7, 8, 9, 10, 11] rfl rfl (by decide) (by decide) (fun _ => rfl) (by decide) (fun f2 H locs hf2 hP hD hS => ?_)
              subst hf2
              have hP : va_P D vwCl (cW cI cL h0 ad n B nb tp ob1 co (rd1 + 1) rts offs fnd mem (upd frs1 (1 + cn (bo btw) i) (nI (tn (mem i)))) btw snw (bput fsw1 (1 + cn (bo btw) i))) H := hP
              have hD : va_D A (cW cI cL h0 ad n B nb tp ob1 co (rd1 + 1) rts offs fnd mem (upd frs1 (1 + cn (bo btw) i) (nI (tn (mem i)))) btw snw (bput fsw1 (1 + cn (bo btw) i))) := hD
              refine lv_aload_n hx hb dX1_copyLiving_150 rfl (lv_at hl 4 rfl) ?_
              refine lv_dup hx hb dX1_copyLiving_151 rfl ?_
              refine va_get (D := D) (ci := 1) (v := .int (nI ob1)) (C := RX1) (T := TX1) (N := 15) hx hb hts in_X1_copyLiving_X1 hown hK hP 0 rfl rfl 12 (by decide) (hts (.fieldLink RX1 76 "OffsetHeap" "objects" "I") (by decide +kernel)) (fun _ h9 => h9) rfl dX1_copyLiving_152 ?_
              refine lv_iconst (v := nI 1) hx hb dX1_copyLiving_155 (by decide +kernel) ?_
              refine lv_iadd hx hb dX1_copyLiving_156 ?_
              refine xk_top (nI_add _ _) ?_
              refine va_put (D := D) (ci := 1) (v := .int (nI (ob1 + 1))) (ty := .int) (C := RX1) (T := TX1) (N := 15) hx hb hts in_X1_copyLiving_X1 tyX1 tyX1_ok nmX1 hown hK hP hD hS 0 rfl rfl 12 (by decide) (hts (.fieldLink RX1 76 "OffsetHeap" "objects" "I") (by decide +kernel)) (fun _ h9 => h9) rfl (by decide +kernel) rfl rfl (Nat.le_of_ble_eq_true rfl) dX1_copyLiving_157 (fun H locs hP hD hS => ?_)
              have hP : va_P D vwCl (cW cI cL h0 ad n B nb tp (ob1 + 1) co (rd1 + 1) rts offs fnd mem (upd frs1 (1 + cn (bo btw) i) (nI (tn (mem i)))) btw snw (bput fsw1 (1 + cn (bo btw) i))) H := hP
              have hD : va_D A (cW cI cL h0 ad n B nb tp (ob1 + 1) co (rd1 + 1) rts offs fnd mem (upd frs1 (1 + cn (bo btw) i) (nI (tn (mem i)))) btw snw (bput fsw1 (1 + cn (bo btw) i))) := hD
              refine lv_iinc (v := nI (i + 1)) (lv' := [(3, .int (nI (i + 1))), (2, .int (nI ((tn (mem i)) / 256))), (1, .int (nI ((tn (mem i)) / 16 % 16))), (5, .int (nI (1 + cn (bo btw) i))), (4, .int (mem i)), (0, .ref h0)]) hx hb dX1_copyLiving_160 hl (k := 5) rfl (xk_inc i) (by decide) rfl (fun ls hl => ?_)
              refine lv_goto (tgt := 31) hx hb dX1_copyLiving_163 (by decide) ?_
              have w := ph_next hok (by omega) (by omega) hst c47 (Nat.le_refl i) (by have := siz_pos mem i; omega)
              rw [show i + 1 + rfs mem i - (i + 1) = tn (mem i) / 16 % 16 by unfold rfs; omega, show pln mem i - (i + 1 - (i + 1 + rfs mem i)) = tn (mem i) / 256 by unfold pln; omega] at w
              exact ih _ (bput fsw1 (1 + cn (bo btw) i)) _ (ob1 + 1) _ _ (i + 1) H locs ls (by omega) (by omega) (by omega) (by omega) (by omega) (cp_store hcp (by omega) c47 ⟨fun z => absurd ((RW_in hok (by omega) (by omega) hst (Nat.le_refl i) (by have := siz_pos mem i; omega)).mp z) (by omega), fun _ => hh.symm⟩ (fun j hj => by rw [bo_put]; simp only [Bool.or_eq_true, decide_eq_true_eq, hst, true_and]; exact ⟨fun z => z.imp_right Eq.symm, fun z => z.imp_right Eq.symm⟩) (by rw [hst]; rfl)) w hP hD hS (lv_sub hl [5, 2, 1, 0] rfl)
            · obtain ⟨o, o1, o2, o3, o4, o5, o6, eR, eP⟩ := hph.resolve_left (fun z => by have := z.2.1; omega)
              refine lv_iinc (v := nI (P - 1)) (lv' := [(2, .int (nI (P - 1))), (5, .int (nI (1 + cn (bo btw) i))), (4, .int (mem i)), (0, .ref h0), (1, .int (nI R)), (3, .int (nI i))]) hx hb dX1_copyLiving_105 hl (k := 4) rfl (xk_dec (by omega)) (by decide) rfl (fun ls hl => ?_)
              refine lv_aload_n hx hb dX1_copyLiving_108 rfl (lv_at hl 3 rfl) ?_
              refine va_get (D := D) (ci := 1) (v := .ref (ad 9)) (C := RX1) (T := TX1) (N := 15) hx hb hts in_X1_copyLiving_X1 hown hK hP 0 rfl rfl 10 (by decide) (hts (.fieldLink RX1 60 "OffsetHeap" "fresh" "[I") (by decide +kernel)) (fun _ h9 => h9) rfl dX1_copyLiving_109 ?_
              refine lv_iload hx hb dX1_copyLiving_112 (lv_at hl 1 rfl) ?_
              refine lv_iload hx hb dX1_copyLiving_114 (lv_at hl 2 rfl) ?_
              refine xk_iast hx hb hK hP hD hS 9 0 rfl rfl (by omega) (by omega) dX1_copyLiving_116 (fun H locs hP hD hS => ?_)
              have hP : va_P D vwCl (cW cI cL h0 ad n B nb tp ob1 co (rd1 + 1) rts offs fnd mem (upd frs1 (1 + cn (bo btw) i) (mem i)) btw snw fsw1) H := hP
              have hD : va_D A (cW cI cL h0 ad n B nb tp ob1 co (rd1 + 1) rts offs fnd mem (upd frs1 (1 + cn (bo btw) i) (mem i)) btw snw fsw1) := hD
              refine lv_goto (tgt := 160) hx hb dX1_copyLiving_117 (by decide) ?_
              refine lv_iinc (v := nI (i + 1)) (lv' := [(3, .int (nI (i + 1))), (2, .int (nI (P - 1))), (5, .int (nI (1 + cn (bo btw) i))), (4, .int (mem i)), (0, .ref h0), (1, .int (nI R))]) hx hb dX1_copyLiving_160 hl (k := 5) rfl (xk_inc i) (by decide) rfl (fun ls hl => ?_)
              refine lv_goto (tgt := 31) hx hb dX1_copyLiving_163 (by decide) ?_
              have hgp := hok.gap o1 o2 o3 o5 o6
              have w := ph_next hok o1 o2 o3 o4 (by omega : o ≤ i) o6
              rw [show o + 1 + rfs mem o - (i + 1) = R by omega, show pln mem o - (i + 1 - (o + 1 + rfs mem o)) = P - 1 by omega] at w
              exact ih _ fsw1 _ ob1 R (P - 1) (i + 1) H locs ls (by omega) (by omega) (by omega) hR (by omega) (cp_store hcp (by omega) c47 ⟨fun z => absurd ((RW_in hok o1 o2 o3 (by omega) o6).mp z) (by omega), fun _ => rfl⟩ (fun j hj => ⟨Or.inl, fun z => z.resolve_right (fun y => by rw [hgp] at y; cases y.1)⟩) (by rw [hgp]; rfl)) w hP hD hS (lv_sub hl [4, 5, 1, 0] rfl)
          · obtain ⟨o, o1, o2, o3, o4, o5, o6, eR, eP⟩ := hph.resolve_left (fun z => by have := z.1; omega)
            have hk : i - (o + 1) < rfs mem o := by omega
            have q := hok.refN o1 o2 o3 hk
            rw [show o + 1 + (i - (o + 1)) = i by omega] at q
            have q2 := q.2
            refine lv_iinc (v := nI (R - 1)) (lv' := [(1, .int (nI (R - 1))), (5, .int (nI (1 + cn (bo btw) i))), (4, .int (mem i)), (0, .ref h0), (2, .int (nI P)), (3, .int (nI i))]) hx hb dX1_copyLiving_82 hl (k := 3) rfl (xk_dec (by omega)) (by decide) rfl (fun ls hl => ?_)
            refine lv_aload_n hx hb dX1_copyLiving_85 rfl (lv_at hl 3 rfl) ?_
            refine va_get (D := D) (ci := 1) (v := .ref (ad 9)) (C := RX1) (T := TX1) (N := 15) hx hb hts in_X1_copyLiving_X1 hown hK hP 0 rfl rfl 10 (by decide) (hts (.fieldLink RX1 60 "OffsetHeap" "fresh" "[I") (by decide +kernel)) (fun _ h9 => h9) rfl dX1_copyLiving_86 ?_
            refine lv_iload hx hb dX1_copyLiving_89 (lv_at hl 1 rfl) ?_
            refine lv_aload_n hx hb dX1_copyLiving_91 rfl (lv_at hl 3 rfl) ?_
            refine lv_iload hx hb dX1_copyLiving_92 (lv_at hl 2 rfl) ?_
            refine xk_top q.1 ?_
            refine xk_roV (As := [.int (nI (tn (mem i)))]) (rest := [.int (nI (1 + cn (bo btw) i)), .ref (ad 9)]) ⟨hx, hb, hml, hown, hts⟩ (c_newAddressOrNone l D cI cL h0 ad n B nb tp ob1 co (rd1 + 1) rts offs fnd mem frs1 btw snw fsw1 (tn (mem i)) hn hB hnb hof (by omega)) (cwV 1 hts gX1_copyLiving_X1_newAddressOrNone rfl rfl rfl (by decide +kernel) ⟨Nat.le_of_ble_eq_true rfl, Nat.le_of_ble_eq_true rfl⟩) (va_recv hK hP (ci := 1) (q0 := 0) rfl rfl) hP hK rfl hl.1 rfl (Nat.le_of_ble_eq_true rfl) dX1_copyLiving_94 ⟨Nat.zero_le _, Nat.zero_le _⟩ ?_
            refine xk_iast hx hb hK hP hD hS 9 0 rfl rfl (by omega) (by omega) dX1_copyLiving_97 (fun H locs hP hD hS => ?_)
            have hP : va_P D vwCl (cW cI cL h0 ad n B nb tp ob1 co (rd1 + 1) rts offs fnd mem (upd frs1 (1 + cn (bo btw) i) (nI (if tn (mem i) = 0 then 0 else 1 + cn (bo btw) (tn (mem i))))) btw snw fsw1) H := hP
            have hD : va_D A (cW cI cL h0 ad n B nb tp ob1 co (rd1 + 1) rts offs fnd mem (upd frs1 (1 + cn (bo btw) i) (nI (if tn (mem i) = 0 then 0 else 1 + cn (bo btw) (tn (mem i))))) btw snw fsw1) := hD
            refine lv_goto (tgt := 160) hx hb dX1_copyLiving_98 (by decide) ?_
            refine lv_iinc (v := nI (i + 1)) (lv' := [(3, .int (nI (i + 1))), (1, .int (nI (R - 1))), (5, .int (nI (1 + cn (bo btw) i))), (4, .int (mem i)), (0, .ref h0), (2, .int (nI P))]) hx hb dX1_copyLiving_160 hl (k := 5) rfl (xk_inc i) (by decide) rfl (fun ls hl => ?_)
            refine lv_goto (tgt := 31) hx hb dX1_copyLiving_163 (by decide) ?_
            have hgp := hok.gap o1 o2 o3 o5 o6
            have w := ph_next hok o1 o2 o3 o4 (by omega : o ≤ i) o6
            rw [show o + 1 + rfs mem o - (i + 1) = R - 1 by omega, show pln mem o - (i + 1 - (o + 1 + rfs mem o)) = P by omega] at w
            exact ih _ fsw1 _ ob1 (R - 1) P (i + 1) H locs ls (by omega) (by omega) (by omega) (by omega) hPb (cp_store hcp (by omega) c47 ⟨fun _ => rfl, fun nr => absurd ((RW_in hok o1 o2 o3 (by omega) o6).mpr ⟨o5, by omega⟩) nr⟩ (fun j hj => ⟨Or.inl, fun z => z.resolve_right (fun y => by rw [hgp] at y; cases y.1)⟩) (by rw [hgp]; rfl)) w hP hD hS (lv_sub hl [4, 1, 5, 0] rfl)
        · refine lv_goto (tgt := 160) hx hb dX1_copyLiving_50 (by decide) ?_
          refine lv_iinc (v := nI (i + 1)) (lv' := [(3, .int (nI (i + 1))), (0, .ref h0), (1, .int (nI R)), (2, .int (nI P))]) hx hb dX1_copyLiving_160 hl (k := 3) rfl (xk_inc i) (by decide) rfl (fun ls hl => ?_)
          refine lv_goto (tgt := 31) hx hb dX1_copyLiving_163 (by decide) ?_
          exact ih frs1 fsw1 rd1 ob1 R P (i + 1) H locs ls (by omega) (by omega) (by omega) hR hPb (cp_skip hcp (by omega) c47) (ph_skip hok hL hph (by omega) (by omega) c47) hP hD hS (lv_sub hl [1, 2, 3, 0] rfl)
  refine lv_iconst (v := nI 0) hx hb dX1_copyLiving_25 (by decide +kernel) ?_
  refine lv_istore_n (lv' := [(1, .int (nI 0)), (0, .ref h0)]) hx hb dX1_copyLiving_26 rfl hl (by decide) rfl (fun ls hl => ?_)
  refine lv_iconst (v := nI 0) hx hb dX1_copyLiving_27 (by decide +kernel) ?_
  refine lv_istore_n (lv' := [(2, .int (nI 0)), (1, .int (nI 0)), (0, .ref h0)]) hx hb dX1_copyLiving_28 rfl hl (by decide) rfl (fun ls hl => ?_)
  refine lv_iconst (v := nI 1) hx hb dX1_copyLiving_29 (by decide +kernel) ?_
  refine lv_istore_n (lv' := [(3, .int (nI 1)), (2, .int (nI 0)), (1, .int (nI 0)), (0, .ref h0)]) hx hb dX1_copyLiving_30 rfl hl (by decide) rfl (fun ls hl => ?_)
  exact key tp fr0 fs0 0 0 0 0 1 H locs ls (by omega) (by omega) (by omega) (by omega) (by omega) ⟨⟨by omega, by omega, (cn_0 (fun i hi => by rw [show i = 0 by omega]; exact hL.zero hok)).symm, (cn_0 (fun i hi => by rw [show i = 0 by omega, hL.zero hok]; rfl)).symm⟩, fun j hj hbj => (by rw [show j = 0 by omega, hL.zero hok] at hbj; cases hbj), fun j hj _ => hfr0 j (by omega), fun j hj => by rw [bz j hj]; exact ⟨fun z => absurd z (by decide), fun ⟨t, t1, t2, _⟩ => by rw [show t = 0 by omega, hL.zero hok] at t2; cases t2⟩⟩ (Or.inl ⟨rfl, rfl, fun h => Or.inl (hok.2.1 h)⟩) hP hD hS (lv_sub hl [3, 2, 1, 0] rfl)
set_option maxHeartbeats 4000000 in
set_option maxRecDepth 100000 in
/-- leadRootsAnew -/
theorem c_leadRootsAnew (l : Launch) (D : va_G) (cI cL : ClassId) (h0 : Nat) (ad : Nat → Nat) (n B nb tp ob co rd : Nat) (rts offs fnd mem frs : Nat → Int32) (btw snw stw : Nat → Int64) (sz : Nat) (hn : n ≤ 4000) (hrt : ∀ j, j < 8 → rts j = nI (tn (rts j)) ∧ tn (rts j) ≤ n) (hB : okB B) (hnb : nb = n / B + 1) (hof : offOk B nb offs (bo btw)) : Met l yX1_leadRootsAnew wsX1_leadRootsAnew ({ frames := 4, cells := 0, slots := 0, locals := 120 }) (va_Pc [.ref h0] (fun U => U.heap.size = sz ∧ va_P D vwCl (cW cI cL h0 ad n B nb tp ob co rd rts offs fnd mem frs btw snw stw) U.heap ∧ va_K D vwCl [(cI, .int), (cL, .long)] U ∧ va_D (fun _ => True) (cW cI cL h0 ad n B nb tp ob co rd rts offs fnd mem frs btw snw stw))) (va_Qv (fun (u : Nat → Int32) => ∀ j, j < 8 → u j = nI (if tn (rts j) = 0 then 0 else 1 + cn (bo btw) (tn (rts j)))) (fun (u : Nat → Int32) t => va_P D vwCl (cW cI cL h0 ad n B nb tp ob co rd u offs fnd mem frs btw snw stw) t.heap ∧ va_D (va_A (cW cI cL h0 ad n B nb tp ob co rd rts offs fnd mem frs btw snw stw) sz) (cW cI cL h0 ad n B nb tp ob co rd u offs fnd mem frs btw snw stw)) (va_A (cW cI cL h0 ad n B nb tp ob co rd rts offs fnd mem frs btw snw stw) sz)) 0 0 (va_A (cW cI cL h0 ad n B nb tp ob co rd rts offs fnd mem frs btw snw stw) sz) := by
  refine Met.ofW (cc := cX1_leadRootsAnew) (maxL := 2) (ret := none) (by decide) rfl ?_
  intro p e s m args below meth c s₁ B9 hml hv
  obtain ⟨rfl, hsz, hP, hK, hD0⟩ := hv
  have hx := B9.exec
  have hb := B9.bytes
  have hr := B9.returns
  have hts := atoms_spec (ws := wsX1_leadRootsAnew) B9.pre
  have hown : s.vm.findClass RX1 = some m.cls := findClass_of_methodNamed B9.named
  have hlocks := B9.notSynchronized
  subst hsz
  have hD := hD0.self (sz := s.heap.size)
  generalize hAe : va_A (cW cI cL h0 ad n B nb tp ob co rd rts offs fnd mem frs btw snw stw) s.heap.size = A at hD ⊢
  have hA : ∀ q : Nat, s.heap.size ≤ q → A q := fun q h => by rw [← hAe]; exact Or.inr h
  have hS : va_S A s.heap s.heap [] := va_S.rf
  have hl := lv_entry ([.ref h0]) (n := 2) (Nat.le_of_ble_eq_true rfl)
  rw [lg_entry_eq]
  generalize (lg_sl ([.ref h0]) ++ List.replicate (2 - (lg_sl ([.ref h0])).length) Slot.unset).toArray = ls at hl ⊢
  have hl : lv_has ls 2 [(0, .ref h0)] := hl
  have key : ∀ (d : Nat) (rt1 : Nat → Int32) (i : Nat) (H : Heap) (locs : List Loc) (ls : Array Slot), 9 ≤ i + d → i ≤ 8 → (∀ j, j < i → rt1 j = nI (if tn (rts j) = 0 then 0 else 1 + cn (bo btw) (tn (rts j)))) → (∀ j, i ≤ j → rt1 j = rts j) → va_P D vwCl (cW cI cL h0 ad n B nb tp ob co rd rt1 offs fnd mem frs btw snw stw) H → va_D A (cW cI cL h0 ad n B nb tp ob co rd rt1 offs fnd mem frs btw snw stw) → va_S A s.heap H locs → lv_has ls 2 [(0, .ref h0), (1, .int (nI i))] → W p l e (headSpec wsX1_leadRootsAnew ({ frames := 4, cells := 0, slots := 0, locals := 120 })).room s m ([.ref h0] : List Value).toArray below meth c H locs 0 0 (MQ below (va_Qv (fun (u : Nat → Int32) => ∀ j, j < 8 → u j = nI (if tn (rts j) = 0 then 0 else 1 + cn (bo btw) (tn (rts j)))) (fun (u : Nat → Int32) t => va_P D vwCl (cW cI cL h0 ad n B nb tp ob co rd u offs fnd mem frs btw snw stw) t.heap ∧ va_D A (cW cI cL h0 ad n B nb tp ob co rd u offs fnd mem frs btw snw stw)) A) ([.ref h0] : List Value).toArray s 0 0 A) (F0 m 2 ls []) := by
    intro d
    induction d with
    | zero =>
      intro rt1 i H locs ls hd hi h1 h2 hP hD hS hl
      exfalso; omega
    | succ d ih =>
      intro rt1 i H locs ls hd hi h1 h2 hP hD hS hl
      refine lv_iload_n hx hb dX1_leadRootsAnew_2 rfl (lv_at hl 1 rfl) ?_
      refine lv_bipush (v := nI 8) hx hb dX1_leadRootsAnew_3 (by decide +kernel) ?_
      refine xk_icmp_ge (tgt := 30) hx hb (by omega) (by omega) dX1_leadRootsAnew_5 (by decide) (fun c5 => ?_) (fun c5 => ?_)
      · exact W.vret hx hb hr (fun t ht hW => ⟨⟨rt1, rfl, (fun j hj => h1 j (by omega)), by rw [ht]; exact hP, hD⟩, hS.F ht⟩) hS.2.2 dX1_leadRootsAnew_30
      · have q := hrt i (by omega)
        have q2 := q.2
        refine lv_aload_n hx hb dX1_leadRootsAnew_8 rfl (lv_at hl 0 rfl) ?_
        refine va_get (D := D) (ci := 1) (v := .ref (ad 1)) (C := RX1) (T := TX1) (N := 15) hx hb hts in_X1_leadRootsAnew_X1 hown hK hP 0 rfl rfl 3 (by decide) (hts (.fieldLink RX1 32 "OffsetHeap" "roots" "[I") (by decide +kernel)) (fun _ h9 => h9) rfl dX1_leadRootsAnew_9 ?_
        refine lv_iload_n hx hb dX1_leadRootsAnew_12 rfl (lv_at hl 1 rfl) ?_
        refine lv_aload_n hx hb dX1_leadRootsAnew_13 rfl (lv_at hl 0 rfl) ?_
        refine lv_aload_n hx hb dX1_leadRootsAnew_14 rfl (lv_at hl 0 rfl) ?_
        refine va_get (D := D) (ci := 1) (v := .ref (ad 1)) (C := RX1) (T := TX1) (N := 15) hx hb hts in_X1_leadRootsAnew_X1 hown hK hP 0 rfl rfl 3 (by decide) (hts (.fieldLink RX1 32 "OffsetHeap" "roots" "[I") (by decide +kernel)) (fun _ h9 => h9) rfl dX1_leadRootsAnew_15 ?_
        refine lv_iload_n hx hb dX1_leadRootsAnew_18 rfl (lv_at hl 1 rfl) ?_
        refine xk_iald hx hb hK hP 1 0 rfl rfl (by omega) (by omega) dX1_leadRootsAnew_19 ?_
        refine xk_top ((h2 i (Nat.le_refl i)).trans q.1) ?_
        refine xk_roV (As := [.int (nI (tn (rts i)))]) (rest := [.int (nI i), .ref (ad 1)]) ⟨hx, hb, hml, hown, hts⟩ (c_newAddressOrNone l D cI cL h0 ad n B nb tp ob co rd rt1 offs fnd mem frs btw snw stw (tn (rts i)) hn hB hnb hof (by omega)) (cwV 1 hts gX1_leadRootsAnew_X1_newAddressOrNone rfl rfl rfl (by decide +kernel) ⟨Nat.le_of_ble_eq_true rfl, Nat.le_of_ble_eq_true rfl⟩) (va_recv hK hP (ci := 1) (q0 := 0) rfl rfl) hP hK rfl hl.1 rfl (Nat.le_of_ble_eq_true rfl) dX1_leadRootsAnew_20 ⟨Nat.zero_le _, Nat.zero_le _⟩ ?_
        refine xk_iast hx hb hK hP hD hS 1 0 rfl rfl (by omega) (by omega) dX1_leadRootsAnew_23 (fun H locs hP hD hS => ?_)
        have hP : va_P D vwCl (cW cI cL h0 ad n B nb tp ob co rd (upd rt1 i (nI (if tn (rts i) = 0 then 0 else 1 + cn (bo btw) (tn (rts i))))) offs fnd mem frs btw snw stw) H := hP
        have hD : va_D A (cW cI cL h0 ad n B nb tp ob co rd (upd rt1 i (nI (if tn (rts i) = 0 then 0 else 1 + cn (bo btw) (tn (rts i))))) offs fnd mem frs btw snw stw) := hD
        refine lv_iinc (v := nI (i + 1)) (lv' := [(1, .int (nI (i + 1))), (0, .ref h0)]) hx hb dX1_leadRootsAnew_24 hl (k := 1) rfl (xk_inc i) (by decide) rfl (fun ls hl => ?_)
        refine lv_goto (tgt := 2) hx hb dX1_leadRootsAnew_27 (by decide) ?_
        have w1 : ∀ j, j < i + 1 → upd rt1 i (nI (if tn (rts i) = 0 then 0 else 1 + cn (bo btw) (tn (rts i)))) j = nI (if tn (rts j) = 0 then 0 else 1 + cn (bo btw) (tn (rts j))) := by
          intro j hj
          by_cases z : j = i
          · rw [z]; exact pk_us
          · rw [pk_un z]; exact h1 j (by omega)
        exact ih _ (i + 1) H locs ls (by omega) (by omega) w1 (fun j hj => by rw [pk_un (by omega)]; exact h2 j (by omega)) hP hD hS (lv_sub hl [1, 0] rfl)
  refine lv_iconst (v := nI 0) hx hb dX1_leadRootsAnew_0 (by decide +kernel) ?_
  refine lv_istore_n (lv' := [(1, .int (nI 0)), (0, .ref h0)]) hx hb dX1_leadRootsAnew_1 rfl hl (by decide) rfl (fun ls hl => ?_)
  exact key 9 rts 0 s.heap [] ls (by omega) (by omega) (fun j hj => absurd hj (Nat.not_lt_zero j)) (fun j _ => rfl) hP hD hS (lv_sub hl [1, 0] rfl)
set_option maxHeartbeats 4000000 in
set_option maxRecDepth 100000 in
/-- swapSpaces -/
theorem c_swapSpaces (l : Launch) (D : va_G) (cI cL : ClassId) (h0 : Nat) (ad : Nat → Nat) (n B nb tp ob co rd : Nat) (rts offs fnd mem frs : Nat → Int32) (btw snw stw : Nat → Int64) (sz : Nat) : Met l yX1_swapSpaces wsX1_swapSpaces ({ frames := 0, cells := 0, slots := 0, locals := 0 }) (va_Pc [.ref h0] (fun U => U.heap.size = sz ∧ va_P D vwCl (cW cI cL h0 ad n B nb tp ob co rd rts offs fnd mem frs btw snw stw) U.heap ∧ va_K D vwCl [(cI, .int), (cL, .long)] U ∧ va_D (fun _ => True) (cW cI cL h0 ad n B nb tp ob co rd rts offs fnd mem frs btw snw stw))) (va_Qv (fun (u : Unit) => True) (fun (u : Unit) t => va_P D vwCl (cW cI cL h0 (swA ad) n B nb tp ob co rd rts offs fnd frs mem btw snw stw) t.heap ∧ va_D (va_A (cW cI cL h0 ad n B nb tp ob co rd rts offs fnd mem frs btw snw stw) sz) (cW cI cL h0 (swA ad) n B nb tp ob co rd rts offs fnd frs mem btw snw stw)) (va_A (cW cI cL h0 ad n B nb tp ob co rd rts offs fnd mem frs btw snw stw) sz)) 0 0 (va_A (cW cI cL h0 ad n B nb tp ob co rd rts offs fnd mem frs btw snw stw) sz) := by
  refine Met.ofW (cc := cX1_swapSpaces) (maxL := 2) (ret := none) (by decide) rfl ?_
  intro p e s m args below meth c s₁ B9 hml hv
  obtain ⟨rfl, hsz, hP, hK, hD0⟩ := hv
  have hx := B9.exec
  have hb := B9.bytes
  have hr := B9.returns
  have hts := atoms_spec (ws := wsX1_swapSpaces) B9.pre
  have hown : s.vm.findClass RX1 = some m.cls := findClass_of_methodNamed B9.named
  have hlocks := B9.notSynchronized
  subst hsz
  have hD := hD0.self (sz := s.heap.size)
  generalize hAe : va_A (cW cI cL h0 ad n B nb tp ob co rd rts offs fnd mem frs btw snw stw) s.heap.size = A at hD ⊢
  have hA : ∀ q : Nat, s.heap.size ≤ q → A q := fun q h => by rw [← hAe]; exact Or.inr h
  have hS : va_S A s.heap s.heap [] := va_S.rf
  have hl := lv_entry ([.ref h0]) (n := 2) (Nat.le_of_ble_eq_true rfl)
  rw [lg_entry_eq]
  generalize (lg_sl ([.ref h0]) ++ List.replicate (2 - (lg_sl ([.ref h0])).length) Slot.unset).toArray = ls at hl ⊢
  have hl : lv_has ls 2 [(0, .ref h0)] := hl
  refine lv_aload_n hx hb dX1_swapSpaces_0 rfl (lv_at hl 0 rfl) ?_
  refine va_get (D := D) (ci := 1) (v := .ref (ad 8)) (C := RX1) (T := TX1) (N := 15) hx hb hts in_X1_swapSpaces_X1 hown hK hP 0 rfl rfl 9 (by decide) (hts (.fieldLink RX1 57 "OffsetHeap" "space" "[I") (by decide +kernel)) (fun _ h9 => h9) rfl dX1_swapSpaces_1 ?_
  refine lv_astore_n (lv' := [(1, .ref (ad 8)), (0, .ref h0)]) hx hb dX1_swapSpaces_4 rfl hl (by decide) rfl (fun ls hl => ?_)
  refine lv_aload_n hx hb dX1_swapSpaces_5 rfl (lv_at hl 1 rfl) ?_
  refine lv_aload_n hx hb dX1_swapSpaces_6 rfl (lv_at hl 1 rfl) ?_
  refine va_get (D := D) (ci := 1) (v := .ref (ad 9)) (C := RX1) (T := TX1) (N := 15) hx hb hts in_X1_swapSpaces_X1 hown hK hP 0 rfl rfl 10 (by decide) (hts (.fieldLink RX1 60 "OffsetHeap" "fresh" "[I") (by decide +kernel)) (fun _ h9 => h9) rfl dX1_swapSpaces_7 ?_
  refine va_put (D := D) (ci := 1) (v := .ref (ad 9)) (ty := .array .int) (C := RX1) (T := TX1) (N := 15) hx hb hts in_X1_swapSpaces_X1 tyX1 tyX1_ok nmX1 hown hK hP hD hS 0 rfl rfl 9 (by decide) (hts (.fieldLink RX1 57 "OffsetHeap" "space" "[I") (by decide +kernel)) (fun _ h9 => h9) rfl (by decide +kernel) rfl rfl (Nat.le_of_ble_eq_true rfl) dX1_swapSpaces_10 (fun H locs hP hD hS => ?_)
  have hP : va_P D vwCl [(h0, .inr (1, [.int (nI n), .int (nI B), .int (nI nb), .ref (ad 1), .ref (ad 2), .ref (ad 4), .ref (ad 5), .ref (ad 6), .ref (ad 10), .ref (ad 9), .ref (ad 9), .int (nI tp), .int (nI ob), .int (nI co), .int (nI rd)])), ((ad 1), .inl (cI, 8, .inl rts)), ((ad 2), .inr (0, [.ref (ad 3)])), ((ad 3), .inl (cL, (n / 64 + 1), .inr (.inl btw))), ((ad 4), .inl (cI, nb, .inl offs)), ((ad 5), .inl (cI, n, .inl fnd)), ((ad 6), .inr (0, [.ref (ad 7)])), ((ad 7), .inl (cL, (n / 64 + 1), .inr (.inl snw))), ((ad 8), .inl (cI, (n + 1), .inl mem)), ((ad 9), .inl (cI, (n + 1), .inl frs)), ((ad 10), .inr (0, [.ref (ad 11)])), ((ad 11), .inl (cL, (n / 64 + 1), .inr (.inl stw)))] H := hP
  have hD : va_D A [(h0, .inr (1, [.int (nI n), .int (nI B), .int (nI nb), .ref (ad 1), .ref (ad 2), .ref (ad 4), .ref (ad 5), .ref (ad 6), .ref (ad 10), .ref (ad 9), .ref (ad 9), .int (nI tp), .int (nI ob), .int (nI co), .int (nI rd)])), ((ad 1), .inl (cI, 8, .inl rts)), ((ad 2), .inr (0, [.ref (ad 3)])), ((ad 3), .inl (cL, (n / 64 + 1), .inr (.inl btw))), ((ad 4), .inl (cI, nb, .inl offs)), ((ad 5), .inl (cI, n, .inl fnd)), ((ad 6), .inr (0, [.ref (ad 7)])), ((ad 7), .inl (cL, (n / 64 + 1), .inr (.inl snw))), ((ad 8), .inl (cI, (n + 1), .inl mem)), ((ad 9), .inl (cI, (n + 1), .inl frs)), ((ad 10), .inr (0, [.ref (ad 11)])), ((ad 11), .inl (cL, (n / 64 + 1), .inr (.inl stw)))] := hD
  refine lv_aload_n hx hb dX1_swapSpaces_13 rfl (lv_at hl 1 rfl) ?_
  refine lv_aload_n hx hb dX1_swapSpaces_14 rfl (lv_at hl 0 rfl) ?_
  refine va_put (D := D) (ci := 1) (v := .ref (ad 8)) (ty := .array .int) (C := RX1) (T := TX1) (N := 15) hx hb hts in_X1_swapSpaces_X1 tyX1 tyX1_ok nmX1 hown hK hP hD hS 0 rfl rfl 10 (by decide) (hts (.fieldLink RX1 60 "OffsetHeap" "fresh" "[I") (by decide +kernel)) (fun _ h9 => h9) rfl (by decide +kernel) rfl rfl (Nat.le_of_ble_eq_true rfl) dX1_swapSpaces_15 (fun H locs hP hD hS => ?_)
  have hP : va_P D vwCl [(h0, .inr (1, [.int (nI n), .int (nI B), .int (nI nb), .ref (ad 1), .ref (ad 2), .ref (ad 4), .ref (ad 5), .ref (ad 6), .ref (ad 10), .ref (ad 9), .ref (ad 8), .int (nI tp), .int (nI ob), .int (nI co), .int (nI rd)])), ((ad 1), .inl (cI, 8, .inl rts)), ((ad 2), .inr (0, [.ref (ad 3)])), ((ad 3), .inl (cL, (n / 64 + 1), .inr (.inl btw))), ((ad 4), .inl (cI, nb, .inl offs)), ((ad 5), .inl (cI, n, .inl fnd)), ((ad 6), .inr (0, [.ref (ad 7)])), ((ad 7), .inl (cL, (n / 64 + 1), .inr (.inl snw))), ((ad 8), .inl (cI, (n + 1), .inl mem)), ((ad 9), .inl (cI, (n + 1), .inl frs)), ((ad 10), .inr (0, [.ref (ad 11)])), ((ad 11), .inl (cL, (n / 64 + 1), .inr (.inl stw)))] H := hP
  have hD : va_D A [(h0, .inr (1, [.int (nI n), .int (nI B), .int (nI nb), .ref (ad 1), .ref (ad 2), .ref (ad 4), .ref (ad 5), .ref (ad 6), .ref (ad 10), .ref (ad 9), .ref (ad 8), .int (nI tp), .int (nI ob), .int (nI co), .int (nI rd)])), ((ad 1), .inl (cI, 8, .inl rts)), ((ad 2), .inr (0, [.ref (ad 3)])), ((ad 3), .inl (cL, (n / 64 + 1), .inr (.inl btw))), ((ad 4), .inl (cI, nb, .inl offs)), ((ad 5), .inl (cI, n, .inl fnd)), ((ad 6), .inr (0, [.ref (ad 7)])), ((ad 7), .inl (cL, (n / 64 + 1), .inr (.inl snw))), ((ad 8), .inl (cI, (n + 1), .inl mem)), ((ad 9), .inl (cI, (n + 1), .inl frs)), ((ad 10), .inr (0, [.ref (ad 11)])), ((ad 11), .inl (cL, (n / 64 + 1), .inr (.inl stw)))] := hD
  exact W.vret hx hb hr (fun t ht hW => ⟨⟨(), rfl, trivial, by rw [ht]; exact hP.sub [0, 1, 2, 3, 4, 5, 6, 7, 9, 8, 10, 11] rfl, hD.sub [0, 1, 2, 3, 4, 5, 6, 7, 9, 8, 10, 11] (by decide) rfl⟩, hS.F ht⟩) hS.2.2 dX1_swapSpaces_18
set_option maxHeartbeats 4000000 in
set_option maxRecDepth 100000 in
/-- collect -/
theorem c_collect (l : Launch) (D : va_G) (cI cL : ClassId) (h0 : Nat) (ad : Nat → Nat) (n B nb tp ob co rd : Nat) (rts offs fnd mem frs : Nat → Int32) (btw snw stw : Nat → Int64) (sz : Nat) (hn : n ≤ 4000) (hok : okS n tp mem (bo stw) rts) (hB : okB B) (hnb : nb = n / B + 1) : Met l yX1_collect wsX1_collect ({ frames := 5, cells := 0, slots := 0, locals := 150 }) (va_Pc [.ref h0] (fun U => U.heap.size = sz ∧ va_P D vwCl (cW cI cL h0 ad n B nb tp ob co rd rts offs fnd mem frs btw snw stw) U.heap ∧ va_K D vwCl [(cI, .int), (cL, .long)] U ∧ va_D (fun _ => True) (cW cI cL h0 ad n B nb tp ob co rd rts offs fnd mem frs btw snw stw))) (va_Qi (fun (r9 : Int32) (u : (Nat → Int32) × (Nat → Int32) × (Nat → Int32) × (Nat → Int32) × (Nat → Int32) × (Nat → Int64) × (Nat → Int64) × (Nat → Int64) × Nat × Nat × Nat) => (r9 = nI (cn (bo u.2.2.2.2.2.1) (n + 1)) ∧ u.2.2.2.2.2.2.2.2.1 = 1 + cn (bo u.2.2.2.2.2.1) (n + 1) ∧ offOk B nb u.2.1 (bo u.2.2.2.2.2.1)) ∧ okL n mem rts (bo u.2.2.2.2.2.1) ∧ CP n tp mem (bo stw) (bo u.2.2.2.2.2.1) u.2.2.2.1 (bo u.2.2.2.2.2.2.2.1) u.2.2.2.2.2.2.2.2.2.2 u.2.2.2.2.2.2.2.2.2.1 tp ∧ ∀ j, j < 8 → u.1 j = nI (if tn (rts j) = 0 then 0 else 1 + cn (bo u.2.2.2.2.2.1) (tn (rts j)))) (fun (u : (Nat → Int32) × (Nat → Int32) × (Nat → Int32) × (Nat → Int32) × (Nat → Int32) × (Nat → Int64) × (Nat → Int64) × (Nat → Int64) × Nat × Nat × Nat) t => va_P D vwCl (cW cI cL h0 (swA ad) n B nb u.2.2.2.2.2.2.2.2.1 u.2.2.2.2.2.2.2.2.2.1 (co + 1) u.2.2.2.2.2.2.2.2.2.2 u.1 u.2.1 u.2.2.1 u.2.2.2.1 u.2.2.2.2.1 u.2.2.2.2.2.1 u.2.2.2.2.2.2.1 u.2.2.2.2.2.2.2.1) t.heap ∧ va_D (va_A (cW cI cL h0 ad n B nb tp ob co rd rts offs fnd mem frs btw snw stw) sz) (cW cI cL h0 (swA ad) n B nb u.2.2.2.2.2.2.2.2.1 u.2.2.2.2.2.2.2.2.2.1 (co + 1) u.2.2.2.2.2.2.2.2.2.2 u.1 u.2.1 u.2.2.1 u.2.2.2.1 u.2.2.2.2.1 u.2.2.2.2.2.1 u.2.2.2.2.2.2.1 u.2.2.2.2.2.2.2.1)) (va_A (cW cI cL h0 ad n B nb tp ob co rd rts offs fnd mem frs btw snw stw) sz)) 0 0 (va_A (cW cI cL h0 ad n B nb tp ob co rd rts offs fnd mem frs btw snw stw) sz) := by
  refine Met.ofW (cc := cX1_collect) (maxL := 2) (ret := (some .int)) (by decide) rfl ?_
  intro p e s m args below meth c s₁ B9 hml hv
  obtain ⟨rfl, hsz, hP, hK, hD0⟩ := hv
  have hx := B9.exec
  have hb := B9.bytes
  have hr := B9.returns
  have hts := atoms_spec (ws := wsX1_collect) B9.pre
  have hown : s.vm.findClass RX1 = some m.cls := findClass_of_methodNamed B9.named
  have hlocks := B9.notSynchronized
  subst hsz
  have hD := hD0.self (sz := s.heap.size)
  generalize hAe : va_A (cW cI cL h0 ad n B nb tp ob co rd rts offs fnd mem frs btw snw stw) s.heap.size = A at hD ⊢
  have hA : ∀ q : Nat, s.heap.size ≤ q → A q := fun q h => by rw [← hAe]; exact Or.inr h
  have hS : va_S A s.heap s.heap [] := va_S.rf
  have hl := lv_entry ([.ref h0]) (n := 2) (Nat.le_of_ble_eq_true rfl)
  rw [lg_entry_eq]
  generalize (lg_sl ([.ref h0]) ++ List.replicate (2 - (lg_sl ([.ref h0])).length) Slot.unset).toArray = ls at hl ⊢
  have hl : lv_has ls 2 [(0, .ref h0)] := hl
  refine lv_aload_n hx hb dX1_collect_0 rfl (lv_at hl 0 rfl) ?_
  refine xk_aftv (wr := []) (ws' := fun u => cW cI cL h0 ad n B nb tp ob co rd rts offs u.2.1 mem frs u.2.2 u.1 stw) (va_runV (As := []) (rest := []) ⟨hx, hb, hml, hown, hts⟩ (c_markLiving l D cI cL h0 ad n B nb tp ob co rd rts offs fnd mem frs btw snw stw s.heap.size hn hok) (cwV 0 hts gX1_collect_X1_markLiving rfl rfl rfl (by decide +kernel) ⟨Nat.le_of_ble_eq_true rfl, Nat.le_of_ble_eq_true rfl⟩) (xk_preV (va_recv hK hP (ci := 1) (q0 := 0) rfl rfl) rfl hP hK (hD.weaken (fun _ _ _ _ => trivial))) rfl rfl hl.1 rfl (lv_room (Nat.le_of_ble_eq_true rfl)) dX1_collect_1 ⟨Nat.zero_le _, Nat.zero_le _⟩) hP hD hS hA [0, 1, 2, 3, 4, 5, 6, 7, 8, 9, 10, 11] [] [0, 1, 2, 3, 4, 5, 6, 7, 8, 9, 10, 11] rfl rfl (by decide) (by decide) (fun _ => rfl) (by decide) (fun u H locs hpost hP hD hS => ?_)
  obtain ⟨snw1, fnd1, btw1⟩ := u
  have hL : okL n mem rts (bo btw1) := hpost
  have hP : va_P D vwCl (cW cI cL h0 ad n B nb tp ob co rd rts offs fnd1 mem frs btw1 snw1 stw) H := hP
  have hD : va_D A (cW cI cL h0 ad n B nb tp ob co rd rts offs fnd1 mem frs btw1 snw1 stw) := hD
  refine lv_aload_n hx hb dX1_collect_4 rfl (lv_at hl 0 rfl) ?_
  refine xk_afti (wr := []) (ws' := fun u => cW cI cL h0 ad n B nb tp ob co rd rts u fnd1 mem frs btw1 snw1 stw) (va_runV (As := []) (rest := []) ⟨hx, hb, hml, hown, hts⟩ (c_fillOffsets l D cI cL h0 ad n B nb tp ob co rd rts offs fnd1 mem frs btw1 snw1 stw H.size hn hB hnb) (cwV 0 hts gX1_collect_X1_fillOffsets rfl rfl rfl (by decide +kernel) ⟨Nat.le_of_ble_eq_true rfl, Nat.le_of_ble_eq_true rfl⟩) (xk_preV (va_recv hK hP (ci := 1) (q0 := 0) rfl rfl) rfl hP hK (hD.weaken (fun _ _ _ _ => trivial))) rfl rfl hl.1 rfl (lv_room (Nat.le_of_ble_eq_true rfl)) dX1_collect_5 ⟨Nat.zero_le _, Nat.zero_le _⟩) hP hD hS hA [0, 1, 2, 3, 4, 5, 6, 7, 8, 9, 10, 11] [] [0, 1, 2, 3, 4, 5, 6, 7, 8, 9, 10, 11] rfl rfl (by decide) (by decide) (fun _ => rfl) (by decide) (fun r9 u H locs hpost hP hD hS => ?_)
  obtain ⟨offs1, eo⟩ : ∃ z, z = u := ⟨_, rfl⟩
  rw [← eo] at hP hD hpost
  obtain ⟨rfl, hof⟩ := hpost
  have hP : va_P D vwCl (cW cI cL h0 ad n B nb tp ob co rd rts offs1 fnd1 mem frs btw1 snw1 stw) H := hP
  have hD : va_D A (cW cI cL h0 ad n B nb tp ob co rd rts offs1 fnd1 mem frs btw1 snw1 stw) := hD
  refine xk_top (y := nI (cn (bo btw1) (n + 1))) rfl ?_
  refine lv_istore_n (lv' := [(1, .int (nI (cn (bo btw1) (n + 1)))), (0, .ref h0)]) hx hb dX1_collect_8 rfl hl (by decide) rfl (fun ls hl => ?_)
  refine lv_aload_n hx hb dX1_collect_9 rfl (lv_at hl 1 rfl) ?_
  refine xk_aftv (wr := []) (ws' := fun u => cW cI cL h0 ad n B nb tp u.2.2.2 co u.2.2.1 rts offs1 fnd1 mem u.1 btw1 snw1 u.2.1) (va_runV (As := []) (rest := []) ⟨hx, hb, hml, hown, hts⟩ (c_copyLiving l D cI cL h0 ad n B nb tp ob co rd rts offs1 fnd1 mem frs btw1 snw1 stw H.size hn hok hB hnb hof hL) (cwV 0 hts gX1_collect_X1_copyLiving rfl rfl rfl (by decide +kernel) ⟨Nat.le_of_ble_eq_true rfl, Nat.le_of_ble_eq_true rfl⟩) (xk_preV (va_recv hK hP (ci := 1) (q0 := 0) rfl rfl) rfl hP hK (hD.weaken (fun _ _ _ _ => trivial))) rfl rfl hl.1 rfl (lv_room (Nat.le_of_ble_eq_true rfl)) dX1_collect_10 ⟨Nat.zero_le _, Nat.zero_le _⟩) hP hD hS hA [0, 1, 2, 3, 4, 5, 6, 7, 8, 9, 10, 11] [] [0, 1, 2, 3, 4, 5, 6, 7, 8, 9, 10, 11] rfl rfl (by decide) (by decide) (fun _ => rfl) (by decide) (fun u H locs hpost hP hD hS => ?_)
  obtain ⟨frs1, fsw1, rd1, ob1⟩ := u
  have hC : CP n tp mem (bo stw) (bo btw1) frs1 (bo fsw1) rd1 ob1 tp := hpost
  have hP : va_P D vwCl (cW cI cL h0 ad n B nb tp ob1 co rd1 rts offs1 fnd1 mem frs1 btw1 snw1 fsw1) H := hP
  have hD : va_D A (cW cI cL h0 ad n B nb tp ob1 co rd1 rts offs1 fnd1 mem frs1 btw1 snw1 fsw1) := hD
  refine lv_aload_n hx hb dX1_collect_13 rfl (lv_at hl 1 rfl) ?_
  refine xk_aftv (wr := []) (ws' := fun u => cW cI cL h0 ad n B nb tp ob1 co rd1 u offs1 fnd1 mem frs1 btw1 snw1 fsw1) (va_runV (As := []) (rest := []) ⟨hx, hb, hml, hown, hts⟩ (c_leadRootsAnew l D cI cL h0 ad n B nb tp ob1 co rd1 rts offs1 fnd1 mem frs1 btw1 snw1 fsw1 H.size hn (fun j hj => by have q := hok.rootN hj; have q2 := q.2; have q3 := hok.1.2.1; exact ⟨q.1, by omega⟩) hB hnb hof) (cwV 0 hts gX1_collect_X1_leadRootsAnew rfl rfl rfl (by decide +kernel) ⟨Nat.le_of_ble_eq_true rfl, Nat.le_of_ble_eq_true rfl⟩) (xk_preV (va_recv hK hP (ci := 1) (q0 := 0) rfl rfl) rfl hP hK (hD.weaken (fun _ _ _ _ => trivial))) rfl rfl hl.1 rfl (lv_room (Nat.le_of_ble_eq_true rfl)) dX1_collect_14 ⟨Nat.zero_le _, Nat.zero_le _⟩) hP hD hS hA [0, 1, 2, 3, 4, 5, 6, 7, 8, 9, 10, 11] [] [0, 1, 2, 3, 4, 5, 6, 7, 8, 9, 10, 11] rfl rfl (by decide) (by decide) (fun _ => rfl) (by decide) (fun u H locs hpost hP hD hS => ?_)
  obtain ⟨rt1, er⟩ : ∃ z, z = u := ⟨_, rfl⟩
  rw [← er] at hP hD hpost
  have hRt := hpost
  have hP : va_P D vwCl (cW cI cL h0 ad n B nb tp ob1 co rd1 rt1 offs1 fnd1 mem frs1 btw1 snw1 fsw1) H := hP
  have hD : va_D A (cW cI cL h0 ad n B nb tp ob1 co rd1 rt1 offs1 fnd1 mem frs1 btw1 snw1 fsw1) := hD
  refine lv_aload_n hx hb dX1_collect_17 rfl (lv_at hl 1 rfl) ?_
  refine xk_aftv (wr := []) (ws' := fun u => cW cI cL h0 (swA ad) n B nb tp ob1 co rd1 rt1 offs1 fnd1 frs1 mem btw1 snw1 fsw1) (va_runV (As := []) (rest := []) ⟨hx, hb, hml, hown, hts⟩ (c_swapSpaces l D cI cL h0 ad n B nb tp ob1 co rd1 rt1 offs1 fnd1 mem frs1 btw1 snw1 fsw1 H.size) (cwV 0 hts gX1_collect_X1_swapSpaces rfl rfl rfl (by decide +kernel) ⟨Nat.le_of_ble_eq_true rfl, Nat.le_of_ble_eq_true rfl⟩) (xk_preV (va_recv hK hP (ci := 1) (q0 := 0) rfl rfl) rfl hP hK (hD.weaken (fun _ _ _ _ => trivial))) rfl rfl hl.1 rfl (lv_room (Nat.le_of_ble_eq_true rfl)) dX1_collect_18 ⟨Nat.zero_le _, Nat.zero_le _⟩) hP hD hS hA [0, 1, 2, 3, 4, 5, 6, 7, 8, 9, 10, 11] [] [0, 1, 2, 3, 4, 5, 6, 7, 8, 9, 10, 11] rfl rfl (by decide) (by decide) (fun _ => rfl) (by decide) (fun u H locs hpost hP hD hS => ?_)
  have hP : va_P D vwCl (cW cI cL h0 (swA ad) n B nb tp ob1 co rd1 rt1 offs1 fnd1 frs1 mem btw1 snw1 fsw1) H := hP
  have hD : va_D A (cW cI cL h0 (swA ad) n B nb tp ob1 co rd1 rt1 offs1 fnd1 frs1 mem btw1 snw1 fsw1) := hD
  refine lv_aload_n hx hb dX1_collect_21 rfl (lv_at hl 1 rfl) ?_
  refine lv_iconst (v := nI 1) hx hb dX1_collect_22 (by decide +kernel) ?_
  refine lv_iload_n hx hb dX1_collect_23 rfl (lv_at hl 0 rfl) ?_
  refine lv_iadd hx hb dX1_collect_24 ?_
  refine xk_top (nI_add _ _) ?_
  refine va_put (D := D) (ci := 1) (v := .int (nI (1 + (cn (bo btw1) (n + 1))))) (ty := .int) (C := RX1) (T := TX1) (N := 15) hx hb hts in_X1_collect_X1 tyX1 tyX1_ok nmX1 hown hK hP hD hS 0 rfl rfl 11 (by decide) (hts (.fieldLink RX1 63 "OffsetHeap" "top" "I") (by decide +kernel)) (fun _ h9 => h9) rfl (by decide +kernel) rfl rfl (Nat.le_of_ble_eq_true rfl) dX1_collect_25 (fun H locs hP hD hS => ?_)
  have hP : va_P D vwCl (cW cI cL h0 (swA ad) n B nb (1 + (cn (bo btw1) (n + 1))) ob1 co rd1 rt1 offs1 fnd1 frs1 mem btw1 snw1 fsw1) H := hP
  have hD : va_D A (cW cI cL h0 (swA ad) n B nb (1 + (cn (bo btw1) (n + 1))) ob1 co rd1 rt1 offs1 fnd1 frs1 mem btw1 snw1 fsw1) := hD
  refine lv_aload_n hx hb dX1_collect_28 rfl (lv_at hl 1 rfl) ?_
  refine lv_dup hx hb dX1_collect_29 rfl ?_
  refine va_get (D := D) (ci := 1) (v := .int (nI co)) (C := RX1) (T := TX1) (N := 15) hx hb hts in_X1_collect_X1 hown hK hP 0 rfl rfl 13 (by decide) (hts (.fieldLink RX1 110 "OffsetHeap" "collectings" "I") (by decide +kernel)) (fun _ h9 => h9) rfl dX1_collect_30 ?_
  refine lv_iconst (v := nI 1) hx hb dX1_collect_33 (by decide +kernel) ?_
  refine lv_iadd hx hb dX1_collect_34 ?_
  refine xk_top (nI_add _ _) ?_
  refine va_put (D := D) (ci := 1) (v := .int (nI (co + 1))) (ty := .int) (C := RX1) (T := TX1) (N := 15) hx hb hts in_X1_collect_X1 tyX1 tyX1_ok nmX1 hown hK hP hD hS 0 rfl rfl 13 (by decide) (hts (.fieldLink RX1 110 "OffsetHeap" "collectings" "I") (by decide +kernel)) (fun _ h9 => h9) rfl (by decide +kernel) rfl rfl (Nat.le_of_ble_eq_true rfl) dX1_collect_35 (fun H locs hP hD hS => ?_)
  have hP : va_P D vwCl (cW cI cL h0 (swA ad) n B nb (1 + (cn (bo btw1) (n + 1))) ob1 (co + 1) rd1 rt1 offs1 fnd1 frs1 mem btw1 snw1 fsw1) H := hP
  have hD : va_D A (cW cI cL h0 (swA ad) n B nb (1 + (cn (bo btw1) (n + 1))) ob1 (co + 1) rd1 rt1 offs1 fnd1 frs1 mem btw1 snw1 fsw1) := hD
  refine lv_iload_n hx hb dX1_collect_38 rfl (lv_at hl 0 rfl) ?_
  exact W.iret hx hb hr (fun t ht hW => ⟨⟨_, (rt1, offs1, fnd1, frs1, mem, btw1, snw1, fsw1, 1 + cn (bo btw1) (n + 1), ob1, rd1), rfl, ⟨⟨rfl, rfl, hof⟩, hL, hC, hRt⟩, by rw [ht]; exact hP, hD⟩, hS.F ht⟩) hS.2.2 dX1_collect_39
