/-! the reference: sound, collect -/
theorem wv_eq {b : Nat → Bool} {t : Nat} (h0 : b 0 = false) (h : t ≠ 0 → b t = true) : (if b t then 1 + cn b t else 0) = if t = 0 then 0 else 1 + cn b t := by
  by_cases z : t = 0
  · rw [if_pos z, z, h0]; rfl
  · rw [if_neg z, h z]; rfl
theorem in_X2_collect_X2 : ∀ w ∈ wsX20, w ∈ wsX2_collect := by decide +kernel
set_option maxHeartbeats 4000000 in
set_option maxRecDepth 100000 in
/-- sound: always -/
theorem c_msound (l : Launch) (D : va_G) (cI cZ : ClassId) (h1 : Nat) (am : Nat → Nat) (th n B tp ob co lv : Nat) (wrd frs bgs fbs rts wnt far : Nat → Int32) (st : Nat → Bool) (hok : okS n tp wrd st rts) (hbg : ∀ a, a ≤ n → bgs a = bI (st a)) (hob : ob = cn st (n + 1)) : Met l yX2_sound wsX2_sound ({ frames := 3, cells := 0, slots := 0, locals := 90 }) (va_Pc [.ref h1] (fun U => va_P D vwCl (mW cI cZ h1 am th n B tp ob co lv wrd frs bgs fbs rts wnt far) U.heap ∧ va_K D vwCl [(cI, .int), (cZ, .boolean)] U)) (vp_Si (fun r9 => r9 = nI 1)) 0 0 (fun _ => False) := by
  refine Met.ofW (cc := cX2_sound) (maxL := 5) (ret := (some .boolean)) (by decide) rfl ?_
  intro p e s m args below meth c s₁ B9 hml hv
  obtain ⟨rfl, hP, hK⟩ := hv
  have hx := B9.exec
  have hb := B9.bytes
  have hr := B9.returns
  have hts := atoms_spec (ws := wsX2_sound) B9.pre
  have hown : s.vm.findClass RX2 = some m.cls := findClass_of_methodNamed B9.named
  have hlocks := B9.notSynchronized
  have hl := lv_entry ([.ref h1]) (n := 5) (Nat.le_of_ble_eq_true rfl)
  rw [lg_entry_eq]
  generalize (lg_sl ([.ref h1]) ++ List.replicate (5 - (lg_sl ([.ref h1])).length) Slot.unset).toArray = ls at hl ⊢
  have hl : lv_has ls 5 [(0, .ref h1)] := hl
  have htp := hok.1.2.1
  have hn := hok.1.2.2
  have htp1 := hok.1.1
  have hcl := cn_le st (n + 1)
  have hcl2 := cn_le st tp
  have keyR : ∀ (d : Nat) (i : Nat) (ls : Array Slot), 9 ≤ i + d → i ≤ 8 → lv_has ls 5 [(0, .ref h1), (1, .int (nI 1)), (2, .int (nI (cn st tp))), (3, .int (nI i))] → W p l e (headSpec wsX2_sound ({ frames := 3, cells := 0, slots := 0, locals := 90 })).room s m ([.ref h1] : List Value).toArray below meth c s.heap [] 0 0 (MQ below (vp_Si (fun r9 => r9 = nI 1)) ([.ref h1] : List Value).toArray s 0 0 (fun _ => False)) (F0 m 96 ls []) := by
    intro d
    induction d with
    | zero =>
      intro i ls hd hi hl
      exfalso; omega
    | succ d ih =>
      intro i ls hd hi hl
      refine lv_iload_n hx hb dX2_sound_96 rfl (lv_at hl 3 rfl) ?_
      refine lv_bipush (v := nI 8) hx hb dX2_sound_97 (by decide +kernel) ?_
      refine xk_icmp_ge (tgt := 131) hx hb (by omega) (by omega) dX2_sound_99 (by decide) (fun c99 => ?_) (fun c99 => ?_)
      · refine lv_iload_n hx hb dX2_sound_131 rfl (lv_at hl 1 rfl) ?_
        refine xk_if_eq (tgt := 147) hx hb (by omega) dX2_sound_132 (by decide) (fun c132 => by exfalso; omega) (fun c132 => ?_)
        refine lv_iload_n hx hb dX2_sound_135 rfl (lv_at hl 2 rfl) ?_
        refine lv_aload_n hx hb dX2_sound_136 rfl (lv_at hl 0 rfl) ?_
        refine va_get (D := D) (ci := 2) (v := .int (nI ob)) (C := RX2) (T := TX2) (N := 14) hx hb hts in_X2_sound_X2 hown hK hP 0 rfl rfl 4 (by decide) (hts (.fieldLink RX2 56 "OffsetHeapModel" "objects" "I") (by decide +kernel)) (fun _ h9 => h9) rfl dX2_sound_137 ?_
        refine xk_icmp_ne (tgt := 147) hx hb (by omega) (by omega) dX2_sound_140 (by decide) (fun c140 => absurd (by rw [hob]; exact (st_end hok).symm) c140) (fun c140 => ?_)
        refine lv_iconst (v := nI 1) hx hb dX2_sound_143 (by decide +kernel) ?_
        refine lv_goto (tgt := 148) hx hb dX2_sound_144 (by decide) ?_
        exact W.zret hx hb hr rfl (fun t ht hW => ⟨_, rfl, rfl, ht⟩) t_nil dX2_sound_148
      · refine lv_iload_n hx hb dX2_sound_102 rfl (lv_at hl 1 rfl) ?_
        refine xk_if_eq (tgt := 123) hx hb (by omega) dX2_sound_103 (by decide) (fun c103 => by exfalso; omega) (fun c103 => ?_)
        refine lv_aload_n hx hb dX2_sound_106 rfl (lv_at hl 0 rfl) ?_
        refine lv_aload_n hx hb dX2_sound_107 rfl (lv_at hl 0 rfl) ?_
        refine va_get (D := D) (ci := 2) (v := .ref (am 5)) (C := RX2) (T := TX2) (N := 14) hx hb hts in_X2_sound_X2 hown hK hP 0 rfl rfl 11 (by decide) (hts (.fieldLink RX2 27 "OffsetHeapModel" "roots" "[I") (by decide +kernel)) (fun _ h9 => h9) rfl dX2_sound_108 ?_
        refine lv_iload_n hx hb dX2_sound_111 rfl (lv_at hl 3 rfl) ?_
        refine xk_iald hx hb hK hP 5 0 rfl rfl (by omega) (by omega) dX2_sound_112 ?_
        refine xk_roV (As := [.int (rts i)]) (rest := []) ⟨hx, hb, hml, hown, hts⟩ (c_misLead l D cI cZ h1 am th n B tp ob co lv wrd frs bgs fbs rts wnt far st (rts i) hok hbg) (cwV 1 hts gX2_sound_X2_isLead rfl rfl rfl (by decide +kernel) ⟨Nat.le_of_ble_eq_true rfl, Nat.le_of_ble_eq_true rfl⟩) (va_recv hK hP (ci := 2) (q0 := 0) rfl rfl) hP hK rfl hl.1 rfl (Nat.le_of_ble_eq_true rfl) dX2_sound_113 ⟨Nat.zero_le _, Nat.zero_le _⟩ ?_
        refine xk_if_eqB (tgt := 123) hx hb dX2_sound_116 (by decide) (fun c116 => absurd (hok.2.2.2.2.2 i (by omega)) (by rw [c116]; decide)) (fun c116 => ?_)
        refine lv_iconst (v := nI 1) hx hb dX2_sound_119 (by decide +kernel) ?_
        refine lv_goto (tgt := 124) hx hb dX2_sound_120 (by decide) ?_
        refine lv_istore_n (lv' := [(1, .int (nI 1)), (0, .ref h1), (2, .int (nI (cn st tp))), (3, .int (nI i))]) hx hb dX2_sound_124 rfl hl (by decide) rfl (fun ls hl => ?_)
        refine lv_iinc (v := nI (i + 1)) (lv' := [(3, .int (nI (i + 1))), (1, .int (nI 1)), (0, .ref h1), (2, .int (nI (cn st tp)))]) hx hb dX2_sound_125 hl (k := 3) rfl (xk_inc i) (by decide) rfl (fun ls hl => ?_)
        refine lv_goto (tgt := 96) hx hb dX2_sound_128 (by decide) ?_
        exact ih (i + 1) ls (by omega) (by omega) (lv_sub hl [2, 1, 3, 0] rfl)
  have keyA : ∀ (eA : Nat) (a : Nat) (ls : Array Slot), tp + 1 ≤ a + eA → 1 ≤ a → a ≤ tp → (a < tp → st a = true) → lv_has ls 5 [(0, .ref h1), (1, .int (nI 1)), (2, .int (nI (cn st a))), (3, .int (nI a))] → W p l e (headSpec wsX2_sound ({ frames := 3, cells := 0, slots := 0, locals := 90 })).room s m ([.ref h1] : List Value).toArray below meth c s.heap [] 0 0 (MQ below (vp_Si (fun r9 => r9 = nI 1)) ([.ref h1] : List Value).toArray s 0 0 (fun _ => False)) (F0 m 6 ls []) := by
    intro eA
    induction eA with
    | zero =>
      intro a ls hd ha1 ha2 haS hl
      exfalso; omega
    | succ eA ihA =>
      intro a ls hd ha1 ha2 haS hl
      refine lv_iload_n hx hb dX2_sound_6 rfl (lv_at hl 3 rfl) ?_
      refine lv_aload_n hx hb dX2_sound_7 rfl (lv_at hl 0 rfl) ?_
      refine va_get (D := D) (ci := 2) (v := .int (nI tp)) (C := RX2) (T := TX2) (N := 14) hx hb hts in_X2_sound_X2 hown hK hP 0 rfl rfl 3 (by decide) (hts (.fieldLink RX2 7 "OffsetHeapModel" "top" "I") (by decide +kernel)) (fun _ h9 => h9) rfl dX2_sound_8 ?_
      refine xk_icmp_ge (tgt := 94) hx hb (by omega) (by omega) dX2_sound_11 (by decide) (fun c11 => ?_) (fun c11 => ?_)
      · refine lv_iconst (v := nI 0) hx hb dX2_sound_94 (by decide +kernel) ?_
        refine lv_istore_n (lv' := [(3, .int (nI 0)), (0, .ref h1), (1, .int (nI 1)), (2, .int (nI (cn st a)))]) hx hb dX2_sound_95 rfl hl (by decide) rfl (fun ls hl => ?_)
        rw [show a = tp by omega] at hl
        exact keyR 9 0 ls (by omega) (by omega) (lv_sub hl [1, 2, 3, 0] rfl)
      · have ha3 := haS c11
        have hh := hok.hdr ha1 c11 ha3
        have hs := hok.hsm ha1 c11 ha3
        have hf := hok.fit ha1 c11 ha3
        unfold siz at hf
        have hca := cn_le st a
        refine lv_iload_n hx hb dX2_sound_14 rfl (lv_at hl 1 rfl) ?_
        refine xk_if_eq (tgt := 31) hx hb (by omega) dX2_sound_15 (by decide) (fun c15 => by exfalso; omega) (fun c15 => ?_)
        refine lv_aload_n hx hb dX2_sound_18 rfl (lv_at hl 0 rfl) ?_
        refine va_get (D := D) (ci := 2) (v := .ref (am 3)) (C := RX2) (T := TX2) (N := 14) hx hb hts in_X2_sound_X2 hown hK hP 0 rfl rfl 9 (by decide) (hts (.fieldLink RX2 20 "OffsetHeapModel" "begins" "[Z") (by decide +kernel)) (fun _ h9 => h9) rfl dX2_sound_19 ?_
        refine lv_iload_n hx hb dX2_sound_22 rfl (lv_at hl 3 rfl) ?_
        refine xk_zald hx hb hK hP 3 1 rfl rfl (by omega) (by omega) dX2_sound_23 ?_
        refine xk_top (hbg a (by omega)) ?_
        refine xk_if_eqB (tgt := 31) hx hb dX2_sound_24 (by decide) (fun c24 => absurd ha3 (by rw [c24]; decide)) (fun c24 => ?_)
        refine lv_iconst (v := nI 1) hx hb dX2_sound_27 (by decide +kernel) ?_
        refine lv_goto (tgt := 32) hx hb dX2_sound_28 (by decide) ?_
        refine lv_istore_n (lv' := [(1, .int (nI 1)), (0, .ref h1), (2, .int (nI (cn st a))), (3, .int (nI a))]) hx hb dX2_sound_32 rfl hl (by decide) rfl (fun ls hl => ?_)
        refine lv_iinc (v := nI (cn st a + 1)) (lv' := [(2, .int (nI (cn st a + 1))), (1, .int (nI 1)), (0, .ref h1), (3, .int (nI a))]) hx hb dX2_sound_33 hl (k := 2) rfl (xk_inc (cn st a)) (by decide) rfl (fun ls hl => ?_)
        refine lv_iconst (v := nI 0) hx hb dX2_sound_36 (by decide +kernel) ?_
        refine lv_istore (lv' := [(4, .int (nI 0)), (2, .int (nI (cn st a + 1))), (1, .int (nI 1)), (0, .ref h1), (3, .int (nI a))]) hx hb dX2_sound_37 hl (by decide) rfl (fun ls hl => ?_)
        have keyK : ∀ (eK : Nat) (i : Nat) (ls : Array Slot), tn (wrd a) / 16 % 16 + 1 ≤ i + eK → i ≤ tn (wrd a) / 16 % 16 → lv_has ls 5 [(0, .ref h1), (1, .int (nI 1)), (2, .int (nI (cn st a + 1))), (3, .int (nI a)), (4, .int (nI i))] → W p l e (headSpec wsX2_sound ({ frames := 3, cells := 0, slots := 0, locals := 90 })).room s m ([.ref h1] : List Value).toArray below meth c s.heap [] 0 0 (MQ below (vp_Si (fun r9 => r9 = nI 1)) ([.ref h1] : List Value).toArray s 0 0 (fun _ => False)) (F0 m 39 ls []) := by
          intro eK
          induction eK with
          | zero =>
            intro i ls hd hi hl
            exfalso; omega
          | succ eK ihK =>
            intro i ls hd hi hl
            refine lv_iload hx hb dX2_sound_39 (lv_at hl 4 rfl) ?_
            refine lv_aload_n hx hb dX2_sound_41 rfl (lv_at hl 0 rfl) ?_
            refine lv_iload_n hx hb dX2_sound_42 rfl (lv_at hl 3 rfl) ?_
            refine xk_roV (As := [.int (nI a)]) (rest := [.int (nI i)]) ⟨hx, hb, hml, hown, hts⟩ (c_mreferences l D cI cZ h1 am th n B tp ob co lv wrd frs bgs fbs rts wnt far a (by omega) hh (by omega)) (cwV 1 hts gX2_sound_X2_references rfl rfl rfl (by decide +kernel) ⟨Nat.le_of_ble_eq_true rfl, Nat.le_of_ble_eq_true rfl⟩) (va_recv hK hP (ci := 2) (q0 := 0) rfl rfl) hP hK rfl hl.1 rfl (Nat.le_of_ble_eq_true rfl) dX2_sound_43 ⟨Nat.zero_le _, Nat.zero_le _⟩ ?_
            refine xk_icmp_ge (tgt := 83) hx hb (by omega) (by omega) dX2_sound_46 (by decide) (fun c46 => ?_) (fun c46 => ?_)
            · refine lv_iload_n hx hb dX2_sound_83 rfl (lv_at hl 3 rfl) ?_
              refine lv_aload_n hx hb dX2_sound_84 rfl (lv_at hl 0 rfl) ?_
              refine lv_iload_n hx hb dX2_sound_85 rfl (lv_at hl 3 rfl) ?_
              refine xk_roV (As := [.int (nI a)]) (rest := [.int (nI a)]) ⟨hx, hb, hml, hown, hts⟩ (c_mlength l D cI cZ h1 am th n B tp ob co lv wrd frs bgs fbs rts wnt far a (by omega) hh (by omega)) (cwV 1 hts gX2_sound_X2_length rfl rfl rfl (by decide +kernel) ⟨Nat.le_of_ble_eq_true rfl, Nat.le_of_ble_eq_true rfl⟩) (va_recv hK hP (ci := 2) (q0 := 0) rfl rfl) hP hK rfl hl.1 rfl (Nat.le_of_ble_eq_true rfl) dX2_sound_86 ⟨Nat.zero_le _, Nat.zero_le _⟩ ?_
              refine lv_iadd hx hb dX2_sound_89 ?_
              refine xk_top (nI_add _ _) ?_
              refine lv_istore_n (lv' := [(3, .int (nI (a + (1 + tn (wrd a) / 16 % 16 + tn (wrd a) / 256)))), (0, .ref h1), (1, .int (nI 1)), (2, .int (nI (cn st a + 1))), (4, .int (nI i))]) hx hb dX2_sound_90 rfl hl (by decide) rfl (fun ls hl => ?_)
              refine lv_goto (tgt := 6) hx hb dX2_sound_91 (by decide) ?_
              rw [← st_gap hok ha1 c11 ha3] at hl
              exact ihA (a + siz wrd a) ls (by have := siz_pos wrd a; omega) (by omega) (hok.fit ha1 c11 ha3) (hok.next ha1 c11 ha3) (lv_sub hl [1, 2, 3, 0] rfl)
            · refine lv_iload_n hx hb dX2_sound_49 rfl (lv_at hl 1 rfl) ?_
              refine xk_if_eq (tgt := 75) hx hb (by omega) dX2_sound_50 (by decide) (fun c50 => by exfalso; omega) (fun c50 => ?_)
              refine lv_aload_n hx hb dX2_sound_53 rfl (lv_at hl 0 rfl) ?_
              refine lv_aload_n hx hb dX2_sound_54 rfl (lv_at hl 0 rfl) ?_
              refine va_get (D := D) (ci := 2) (v := .ref (am 1)) (C := RX2) (T := TX2) (N := 14) hx hb hts in_X2_sound_X2 hown hK hP 0 rfl rfl 7 (by decide) (hts (.fieldLink RX2 13 "OffsetHeapModel" "words" "[I") (by decide +kernel)) (fun _ h9 => h9) rfl dX2_sound_55 ?_
              refine lv_iload_n hx hb dX2_sound_58 rfl (lv_at hl 3 rfl) ?_
              refine lv_iconst (v := nI 1) hx hb dX2_sound_59 (by decide +kernel) ?_
              refine lv_iadd hx hb dX2_sound_60 ?_
              refine xk_top (nI_add _ _) ?_
              refine lv_iload hx hb dX2_sound_61 (lv_at hl 4 rfl) ?_
              refine lv_iadd hx hb dX2_sound_63 ?_
              refine xk_top (nI_add _ _) ?_
              refine xk_iald hx hb hK hP 1 0 rfl rfl (by omega) (by omega) dX2_sound_64 ?_
              refine xk_roV (As := [.int (wrd ((a + 1) + i))]) (rest := []) ⟨hx, hb, hml, hown, hts⟩ (c_misLead l D cI cZ h1 am th n B tp ob co lv wrd frs bgs fbs rts wnt far st (wrd ((a + 1) + i)) hok hbg) (cwV 1 hts gX2_sound_X2_isLead rfl rfl rfl (by decide +kernel) ⟨Nat.le_of_ble_eq_true rfl, Nat.le_of_ble_eq_true rfl⟩) (va_recv hK hP (ci := 2) (q0 := 0) rfl rfl) hP hK rfl hl.1 rfl (Nat.le_of_ble_eq_true rfl) dX2_sound_65 ⟨Nat.zero_le _, Nat.zero_le _⟩ ?_
              refine xk_if_eqB (tgt := 75) hx hb dX2_sound_68 (by decide) (fun c68 => absurd (hok.ref ha1 c11 ha3 (k := i) (by unfold rfs; omega)) (by rw [c68]; decide)) (fun c68 => ?_)
              refine lv_iconst (v := nI 1) hx hb dX2_sound_71 (by decide +kernel) ?_
              refine lv_goto (tgt := 76) hx hb dX2_sound_72 (by decide) ?_
              refine lv_istore_n (lv' := [(1, .int (nI 1)), (0, .ref h1), (2, .int (nI (cn st a + 1))), (3, .int (nI a)), (4, .int (nI i))]) hx hb dX2_sound_76 rfl hl (by decide) rfl (fun ls hl => ?_)
              refine lv_iinc (v := nI (i + 1)) (lv' := [(4, .int (nI (i + 1))), (1, .int (nI 1)), (0, .ref h1), (2, .int (nI (cn st a + 1))), (3, .int (nI a))]) hx hb dX2_sound_77 hl (k := 4) rfl (xk_inc i) (by decide) rfl (fun ls hl => ?_)
              refine lv_goto (tgt := 39) hx hb dX2_sound_80 (by decide) ?_
              exact ihK (i + 1) ls (by omega) (by omega) (lv_sub hl [2, 1, 3, 4, 0] rfl)
        exact keyK 17 0 ls (by omega) (by omega) (lv_sub hl [3, 2, 1, 4, 0] rfl)
  refine lv_iconst (v := nI 1) hx hb dX2_sound_0 (by decide +kernel) ?_
  refine lv_istore_n (lv' := [(1, .int (nI 1)), (0, .ref h1)]) hx hb dX2_sound_1 rfl hl (by decide) rfl (fun ls hl => ?_)
  refine lv_iconst (v := nI 0) hx hb dX2_sound_2 (by decide +kernel) ?_
  refine lv_istore_n (lv' := [(2, .int (nI 0)), (1, .int (nI 1)), (0, .ref h1)]) hx hb dX2_sound_3 rfl hl (by decide) rfl (fun ls hl => ?_)
  refine lv_iconst (v := nI 1) hx hb dX2_sound_4 (by decide +kernel) ?_
  refine lv_istore_n (lv' := [(3, .int (nI 1)), (2, .int (nI 0)), (1, .int (nI 1)), (0, .ref h1)]) hx hb dX2_sound_5 rfl hl (by decide) rfl (fun ls hl => ?_)
  have h01 : cn st 1 = 0 := cn_0 (fun i hi => by rw [show i = 0 by omega]; exact hok.2.2.2.1.1)
  exact keyA tp 1 ls (by omega) (by omega) (by omega) hok.2.1 (by rw [h01]; exact lv_sub hl [3, 2, 1, 0] rfl)
set_option maxHeartbeats 4000000 in
set_option maxRecDepth 100000 in
/-- collect -/
theorem c_mcollect (l : Launch) (D : va_G) (cI cZ : ClassId) (h1 : Nat) (am : Nat → Nat) (th n B tp ob co lv : Nat) (wrd frs bgs fbs rts wnt far : Nat → Int32) (sz : Nat) (st : Nat → Bool) (hok : okS n tp wrd st rts) : Met l yX2_collect wsX2_collect ({ frames := 3, cells := 0, slots := 0, locals := 90 }) (va_Pc [.ref h1] (fun U => U.heap.size = sz ∧ va_P D vwCl (mW cI cZ h1 am th n B tp ob co lv wrd frs bgs fbs rts wnt far) U.heap ∧ va_K D vwCl [(cI, .int), (cZ, .boolean)] U ∧ va_D (fun _ => True) (mW cI cZ h1 am th n B tp ob co lv wrd frs bgs fbs rts wnt far))) (va_Qi (fun (r9 : Int32) (u : Nat × Nat × Nat × (Nat → Int32) × (Nat → Int32) × (Nat → Int32) × (Nat → Int32) × (Nat → Int32) × (Nat → Int32) × (Nat → Int32)) => ∃ b fst : Nat → Bool, (r9 = nI (cn b (n + 1)) ∧ u.1 = 1 + cn b (n + 1) ∧ u.2.2.1 = cn b (n + 1)) ∧ okL n wrd rts b ∧ (∀ a, a ≤ n → u.2.2.2.2.2.2.2.2.1 a = nI (if b a then 1 + cn b a else 0)) ∧ CP n tp wrd st b u.2.2.2.1 fst (cn b tp) u.2.1 tp ∧ (∀ j, j ≤ n → u.2.2.2.2.2.1 j = bI (fst j)) ∧ ∀ j, j < 8 → u.2.2.2.2.2.2.2.1 j = nI (if tn (rts j) = 0 then 0 else 1 + cn b (tn (rts j)))) (fun (u : Nat × Nat × Nat × (Nat → Int32) × (Nat → Int32) × (Nat → Int32) × (Nat → Int32) × (Nat → Int32) × (Nat → Int32) × (Nat → Int32)) t => va_P D vwCl (mW cI cZ h1 am th n B u.1 u.2.1 (co + 1) u.2.2.1 u.2.2.2.1 u.2.2.2.2.1 u.2.2.2.2.2.1 u.2.2.2.2.2.2.1 u.2.2.2.2.2.2.2.1 u.2.2.2.2.2.2.2.2.1 u.2.2.2.2.2.2.2.2.2) t.heap ∧ va_D (va_A (mW cI cZ h1 am th n B tp ob co lv wrd frs bgs fbs rts wnt far) sz) (mW cI cZ h1 am th n B u.1 u.2.1 (co + 1) u.2.2.1 u.2.2.2.1 u.2.2.2.2.1 u.2.2.2.2.2.1 u.2.2.2.2.2.2.1 u.2.2.2.2.2.2.2.1 u.2.2.2.2.2.2.2.2.1 u.2.2.2.2.2.2.2.2.2)) (va_A (mW cI cZ h1 am th n B tp ob co lv wrd frs bgs fbs rts wnt far) sz)) 0 0 (va_A (mW cI cZ h1 am th n B tp ob co lv wrd frs bgs fbs rts wnt far) sz) := by
  refine Met.ofW (cc := cX2_collect) (maxL := 5) (ret := (some .int)) (by decide) rfl ?_
  intro p e s m args below meth c s₁ B9 hml hv
  obtain ⟨rfl, hsz, hP, hK, hD0⟩ := hv
  have hx := B9.exec
  have hb := B9.bytes
  have hr := B9.returns
  have hts := atoms_spec (ws := wsX2_collect) B9.pre
  have hown : s.vm.findClass RX2 = some m.cls := findClass_of_methodNamed B9.named
  have hlocks := B9.notSynchronized
  subst hsz
  have hD := hD0.self (sz := s.heap.size)
  generalize hAe : va_A (mW cI cZ h1 am th n B tp ob co lv wrd frs bgs fbs rts wnt far) s.heap.size = A at hD ⊢
  have hA : ∀ q : Nat, s.heap.size ≤ q → A q := fun q h => by rw [← hAe]; exact Or.inr h
  have hS : va_S A s.heap s.heap [] := va_S.rf
  have hl := lv_entry ([.ref h1]) (n := 5) (Nat.le_of_ble_eq_true rfl)
  rw [lg_entry_eq]
  generalize (lg_sl ([.ref h1]) ++ List.replicate (5 - (lg_sl ([.ref h1])).length) Slot.unset).toArray = ls at hl ⊢
  have hl : lv_has ls 5 [(0, .ref h1)] := hl
  have htp := hok.1.2.1
  have hn := hok.1.2.2
  have htp1 := hok.1.1
  obtain ⟨b, hb0⟩ : ∃ b : Nat → Bool, ∀ y, b y = true ↔ LW n wrd rts y := ⟨fun y => @decide (LW n wrd rts y) (Classical.propDecidable _), fun y => by simp⟩
  have hL : okL n wrd rts b := fun i _ => hb0 i
  have hz0 := hL.zero hok
  have key6 : ∀ (ob5 : Nat) (wrd5 frs5 bgs5 fbs5 wnt2 far1 : Nat → Int32) (fst5 : Nat → Bool), (∀ a, a ≤ n → wnt2 a = nI (if b a then 1 + cn b a else 0)) → CP n tp wrd st b wrd5 fst5 (cn b tp) ob5 tp → (∀ j, j ≤ n → bgs5 j = bI (fst5 j)) → ∀ (d : Nat) (rt1 : Nat → Int32) (i : Nat) (H : Heap) (locs : List Loc) (ls : Array Slot), 9 ≤ i + d → i ≤ 8 → (∀ j, j < i → rt1 j = nI (if tn (rts j) = 0 then 0 else 1 + cn b (tn (rts j)))) → (∀ j, i ≤ j → rt1 j = rts j) → va_P D vwCl (mW cI cZ h1 am th n B tp ob5 co lv wrd5 frs5 bgs5 fbs5 rt1 wnt2 far1) H → va_D A (mW cI cZ h1 am th n B tp ob5 co lv wrd5 frs5 bgs5 fbs5 rt1 wnt2 far1) → va_S A s.heap H locs → lv_has ls 5 [(0, .ref h1), (1, .int (nI (1 + cn b (n + 1)))), (2, .int (nI i))] → W p l e (headSpec wsX2_collect ({ frames := 3, cells := 0, slots := 0, locals := 90 })).room s m ([.ref h1] : List Value).toArray below meth c H locs 0 0 (MQ below (va_Qi (fun (r9 : Int32) (u : Nat × Nat × Nat × (Nat → Int32) × (Nat → Int32) × (Nat → Int32) × (Nat → Int32) × (Nat → Int32) × (Nat → Int32) × (Nat → Int32)) => ∃ b fst : Nat → Bool, (r9 = nI (cn b (n + 1)) ∧ u.1 = 1 + cn b (n + 1) ∧ u.2.2.1 = cn b (n + 1)) ∧ okL n wrd rts b ∧ (∀ a, a ≤ n → u.2.2.2.2.2.2.2.2.1 a = nI (if b a then 1 + cn b a else 0)) ∧ CP n tp wrd st b u.2.2.2.1 fst (cn b tp) u.2.1 tp ∧ (∀ j, j ≤ n → u.2.2.2.2.2.1 j = bI (fst j)) ∧ ∀ j, j < 8 → u.2.2.2.2.2.2.2.1 j = nI (if tn (rts j) = 0 then 0 else 1 + cn b (tn (rts j)))) (fun (u : Nat × Nat × Nat × (Nat → Int32) × (Nat → Int32) × (Nat → Int32) × (Nat → Int32) × (Nat → Int32) × (Nat → Int32) × (Nat → Int32)) t => va_P D vwCl (mW cI cZ h1 am th n B u.1 u.2.1 (co + 1) u.2.2.1 u.2.2.2.1 u.2.2.2.2.1 u.2.2.2.2.2.1 u.2.2.2.2.2.2.1 u.2.2.2.2.2.2.2.1 u.2.2.2.2.2.2.2.2.1 u.2.2.2.2.2.2.2.2.2) t.heap ∧ va_D A (mW cI cZ h1 am th n B u.1 u.2.1 (co + 1) u.2.2.1 u.2.2.2.1 u.2.2.2.2.1 u.2.2.2.2.2.1 u.2.2.2.2.2.2.1 u.2.2.2.2.2.2.2.1 u.2.2.2.2.2.2.2.2.1 u.2.2.2.2.2.2.2.2.2)) A) ([.ref h1] : List Value).toArray s 0 0 A) (F0 m 298 ls []) := by
    intro ob5 wrd5 frs5 bgs5 fbs5 wnt2 far1 fst5 hwn hcp hbg5 d
    induction d with
    | zero =>
      intro rt1 i H locs ls hd hi g1 g2 hP hD hS hl
      exfalso; omega
    | succ d ih =>
      intro rt1 i H locs ls hd hi g1 g2 hP hD hS hl
      have hcb := cn_le b (n + 1)
      refine lv_iload_n hx hb dX2_collect_298 rfl (lv_at hl 2 rfl) ?_
      refine lv_bipush (v := nI 8) hx hb dX2_collect_299 (by decide +kernel) ?_
      refine xk_icmp_ge (tgt := 327) hx hb (by omega) (by omega) dX2_collect_301 (by decide) (fun c301 => ?_) (fun c301 => ?_)
      · refine lv_aload_n hx hb dX2_collect_327 rfl (lv_at hl 0 rfl) ?_
        refine lv_iload_n hx hb dX2_collect_328 rfl (lv_at hl 1 rfl) ?_
        refine va_put (D := D) (ci := 2) (v := .int (nI (1 + cn b (n + 1)))) (ty := .int) (C := RX2) (T := TX2) (N := 14) hx hb hts in_X2_collect_X2 tyX2 tyX2_ok nmX2 hown hK hP hD hS 0 rfl rfl 3 (by decide) (hts (.fieldLink RX2 7 "OffsetHeapModel" "top" "I") (by decide +kernel)) (fun _ h9 => h9) rfl (by decide +kernel) rfl rfl (Nat.le_of_ble_eq_true rfl) dX2_collect_329 (fun H locs hP hD hS => ?_)
        have hP : va_P D vwCl (mW cI cZ h1 am th n B (1 + cn b (n + 1)) ob5 co lv wrd5 frs5 bgs5 fbs5 rt1 wnt2 far1) H := hP
        have hD : va_D A (mW cI cZ h1 am th n B (1 + cn b (n + 1)) ob5 co lv wrd5 frs5 bgs5 fbs5 rt1 wnt2 far1) := hD
        refine lv_aload_n hx hb dX2_collect_332 rfl (lv_at hl 0 rfl) ?_
        refine lv_iload_n hx hb dX2_collect_333 rfl (lv_at hl 1 rfl) ?_
        refine lv_iconst (v := nI 1) hx hb dX2_collect_334 (by decide +kernel) ?_
        refine lv_isub hx hb dX2_collect_335 ?_
        refine xk_top (pk_sub (by omega)) ?_
        refine va_put (D := D) (ci := 2) (v := .int (nI ((1 + cn b (n + 1)) - 1))) (ty := .int) (C := RX2) (T := TX2) (N := 14) hx hb hts in_X2_collect_X2 tyX2 tyX2_ok nmX2 hown hK hP hD hS 0 rfl rfl 6 (by decide) (hts (.fieldLink RX2 73 "OffsetHeapModel" "lived" "I") (by decide +kernel)) (fun _ h9 => h9) rfl (by decide +kernel) rfl rfl (Nat.le_of_ble_eq_true rfl) dX2_collect_336 (fun H locs hP hD hS => ?_)
        have hP : va_P D vwCl (mW cI cZ h1 am th n B (1 + cn b (n + 1)) ob5 co ((1 + cn b (n + 1)) - 1) wrd5 frs5 bgs5 fbs5 rt1 wnt2 far1) H := hP
        have hD : va_D A (mW cI cZ h1 am th n B (1 + cn b (n + 1)) ob5 co ((1 + cn b (n + 1)) - 1) wrd5 frs5 bgs5 fbs5 rt1 wnt2 far1) := hD
        refine lv_aload_n hx hb dX2_collect_339 rfl (lv_at hl 0 rfl) ?_
        refine lv_dup hx hb dX2_collect_340 rfl ?_
        refine va_get (D := D) (ci := 2) (v := .int (nI co)) (C := RX2) (T := TX2) (N := 14) hx hb hts in_X2_collect_X2 hown hK hP 0 rfl rfl 5 (by decide) (hts (.fieldLink RX2 76 "OffsetHeapModel" "collected" "I") (by decide +kernel)) (fun _ h9 => h9) rfl dX2_collect_341 ?_
        refine lv_iconst (v := nI 1) hx hb dX2_collect_344 (by decide +kernel) ?_
        refine lv_iadd hx hb dX2_collect_345 ?_
        refine xk_top (nI_add _ _) ?_
        refine va_put (D := D) (ci := 2) (v := .int (nI (co + 1))) (ty := .int) (C := RX2) (T := TX2) (N := 14) hx hb hts in_X2_collect_X2 tyX2 tyX2_ok nmX2 hown hK hP hD hS 0 rfl rfl 5 (by decide) (hts (.fieldLink RX2 76 "OffsetHeapModel" "collected" "I") (by decide +kernel)) (fun _ h9 => h9) rfl (by decide +kernel) rfl rfl (Nat.le_of_ble_eq_true rfl) dX2_collect_346 (fun H locs hP hD hS => ?_)
        have hP : va_P D vwCl (mW cI cZ h1 am th n B (1 + cn b (n + 1)) ob5 (co + 1) ((1 + cn b (n + 1)) - 1) wrd5 frs5 bgs5 fbs5 rt1 wnt2 far1) H := hP
        have hD : va_D A (mW cI cZ h1 am th n B (1 + cn b (n + 1)) ob5 (co + 1) ((1 + cn b (n + 1)) - 1) wrd5 frs5 bgs5 fbs5 rt1 wnt2 far1) := hD
        refine lv_aload_n hx hb dX2_collect_349 rfl (lv_at hl 0 rfl) ?_
        refine va_get (D := D) (ci := 2) (v := .int (nI ((1 + cn b (n + 1)) - 1))) (C := RX2) (T := TX2) (N := 14) hx hb hts in_X2_collect_X2 hown hK hP 0 rfl rfl 6 (by decide) (hts (.fieldLink RX2 73 "OffsetHeapModel" "lived" "I") (by decide +kernel)) (fun _ h9 => h9) rfl dX2_collect_350 ?_
        exact W.iret hx hb hr (fun t ht hW => ⟨⟨_, (1 + cn b (n + 1), ob5, 1 + cn b (n + 1) - 1, wrd5, frs5, bgs5, fbs5, rt1, wnt2, far1), rfl, ⟨b, fst5, ⟨by congr 1; omega, rfl, by show 1 + cn b (n + 1) - 1 = _; omega⟩, hL, hwn, hcp, hbg5, fun j hj => g1 j (by omega)⟩, by rw [ht]; exact hP, hD⟩, hS.F ht⟩) hS.2.2 dX2_collect_353
      · have q := hok.rootN (k := i) (by omega)
        have q2 := q.2
        refine lv_aload_n hx hb dX2_collect_304 rfl (lv_at hl 0 rfl) ?_
        refine va_get (D := D) (ci := 2) (v := .ref (am 5)) (C := RX2) (T := TX2) (N := 14) hx hb hts in_X2_collect_X2 hown hK hP 0 rfl rfl 11 (by decide) (hts (.fieldLink RX2 27 "OffsetHeapModel" "roots" "[I") (by decide +kernel)) (fun _ h9 => h9) rfl dX2_collect_305 ?_
        refine lv_iload_n hx hb dX2_collect_308 rfl (lv_at hl 2 rfl) ?_
        refine lv_aload_n hx hb dX2_collect_309 rfl (lv_at hl 0 rfl) ?_
        refine va_get (D := D) (ci := 2) (v := .ref (am 6)) (C := RX2) (T := TX2) (N := 14) hx hb hts in_X2_collect_X2 hown hK hP 0 rfl rfl 12 (by decide) (hts (.fieldLink RX2 30 "OffsetHeapModel" "went" "[I") (by decide +kernel)) (fun _ h9 => h9) rfl dX2_collect_310 ?_
        refine lv_aload_n hx hb dX2_collect_313 rfl (lv_at hl 0 rfl) ?_
        refine va_get (D := D) (ci := 2) (v := .ref (am 5)) (C := RX2) (T := TX2) (N := 14) hx hb hts in_X2_collect_X2 hown hK hP 0 rfl rfl 11 (by decide) (hts (.fieldLink RX2 27 "OffsetHeapModel" "roots" "[I") (by decide +kernel)) (fun _ h9 => h9) rfl dX2_collect_314 ?_
        refine lv_iload_n hx hb dX2_collect_317 rfl (lv_at hl 2 rfl) ?_
        refine xk_iald hx hb hK hP 5 0 rfl rfl (by omega) (by omega) dX2_collect_318 ?_
        refine xk_top ((g2 i (Nat.le_refl i)).trans q.1) ?_
        refine xk_iald hx hb hK hP 6 0 rfl rfl (by omega) (by omega) dX2_collect_319 ?_
        refine xk_top ((hwn _ (by omega)).trans (congrArg nI (wv_eq hz0 (fun z => (hL.root hok (by omega) z).2.2.2)))) ?_
        refine xk_iast hx hb hK hP hD hS 5 0 rfl rfl (by omega) (by omega) dX2_collect_320 (fun H locs hP hD hS => ?_)
        have hP : va_P D vwCl (mW cI cZ h1 am th n B tp ob5 co lv wrd5 frs5 bgs5 fbs5 (upd rt1 i (nI (if tn (rts i) = 0 then 0 else 1 + cn b (tn (rts i))))) wnt2 far1) H := hP
        have hD : va_D A (mW cI cZ h1 am th n B tp ob5 co lv wrd5 frs5 bgs5 fbs5 (upd rt1 i (nI (if tn (rts i) = 0 then 0 else 1 + cn b (tn (rts i))))) wnt2 far1) := hD
        refine lv_iinc (v := nI (i + 1)) (lv' := [(2, .int (nI (i + 1))), (0, .ref h1), (1, .int (nI (1 + cn b (n + 1))))]) hx hb dX2_collect_321 hl (k := 2) rfl (xk_inc i) (by decide) rfl (fun ls hl => ?_)
        refine lv_goto (tgt := 298) hx hb dX2_collect_324 (by decide) ?_
        exact ih _ (i + 1) H locs ls (by omega) (by omega) (fl_s (v := fun j => nI (if tn (rts j) = 0 then 0 else 1 + cn b (tn (rts j)))) g1) (fun j hj => by rw [pk_un (by omega)]; exact g2 j (by omega)) hP hD hS (lv_sub hl [1, 2, 0] rfl)
  have key5 : ∀ (ob4 : Nat) (frs4 fbs4 wnt2 far1 : Nat → Int32) (fst4 : Nat → Bool), (∀ a, a ≤ n → wnt2 a = nI (if b a then 1 + cn b a else 0)) → CPf n tp wrd st b frs4 tp → CPs n st b fst4 ob4 tp → (∀ j, j ≤ n → fbs4 j = bI (fst4 j)) → ∀ (d : Nat) (wrd4 bgs4 : Nat → Int32) (i : Nat) (H : Heap) (locs : List Loc) (ls : Array Slot), n + 2 ≤ i + d → i ≤ n + 1 → (∀ j, j < i → wrd4 j = frs4 j) → (∀ j, j < i → bgs4 j = bI (fst4 j)) → va_P D vwCl (mW cI cZ h1 am th n B tp ob4 co lv wrd4 frs4 bgs4 fbs4 rts wnt2 far1) H → va_D A (mW cI cZ h1 am th n B tp ob4 co lv wrd4 frs4 bgs4 fbs4 rts wnt2 far1) → va_S A s.heap H locs → lv_has ls 5 [(0, .ref h1), (1, .int (nI (1 + cn b (n + 1)))), (2, .int (nI i))] → W p l e (headSpec wsX2_collect ({ frames := 3, cells := 0, slots := 0, locals := 90 })).room s m ([.ref h1] : List Value).toArray below meth c H locs 0 0 (MQ below (va_Qi (fun (r9 : Int32) (u : Nat × Nat × Nat × (Nat → Int32) × (Nat → Int32) × (Nat → Int32) × (Nat → Int32) × (Nat → Int32) × (Nat → Int32) × (Nat → Int32)) => ∃ b fst : Nat → Bool, (r9 = nI (cn b (n + 1)) ∧ u.1 = 1 + cn b (n + 1) ∧ u.2.2.1 = cn b (n + 1)) ∧ okL n wrd rts b ∧ (∀ a, a ≤ n → u.2.2.2.2.2.2.2.2.1 a = nI (if b a then 1 + cn b a else 0)) ∧ CP n tp wrd st b u.2.2.2.1 fst (cn b tp) u.2.1 tp ∧ (∀ j, j ≤ n → u.2.2.2.2.2.1 j = bI (fst j)) ∧ ∀ j, j < 8 → u.2.2.2.2.2.2.2.1 j = nI (if tn (rts j) = 0 then 0 else 1 + cn b (tn (rts j)))) (fun (u : Nat × Nat × Nat × (Nat → Int32) × (Nat → Int32) × (Nat → Int32) × (Nat → Int32) × (Nat → Int32) × (Nat → Int32) × (Nat → Int32)) t => va_P D vwCl (mW cI cZ h1 am th n B u.1 u.2.1 (co + 1) u.2.2.1 u.2.2.2.1 u.2.2.2.2.1 u.2.2.2.2.2.1 u.2.2.2.2.2.2.1 u.2.2.2.2.2.2.2.1 u.2.2.2.2.2.2.2.2.1 u.2.2.2.2.2.2.2.2.2) t.heap ∧ va_D A (mW cI cZ h1 am th n B u.1 u.2.1 (co + 1) u.2.2.1 u.2.2.2.1 u.2.2.2.2.1 u.2.2.2.2.2.1 u.2.2.2.2.2.2.1 u.2.2.2.2.2.2.2.1 u.2.2.2.2.2.2.2.2.1 u.2.2.2.2.2.2.2.2.2)) A) ([.ref h1] : List Value).toArray s 0 0 A) (F0 m 258 ls []) := by
    intro ob4 frs4 fbs4 wnt2 far1 fst4 hwn hcf hcs hfb d
    induction d with
    | zero =>
      intro wrd4 bgs4 i H locs ls hd hi g1 g2 hP hD hS hl
      exfalso; omega
    | succ d ih =>
      intro wrd4 bgs4 i H locs ls hd hi g1 g2 hP hD hS hl
      refine lv_iload_n hx hb dX2_collect_258 rfl (lv_at hl 2 rfl) ?_
      refine lv_aload_n hx hb dX2_collect_259 rfl (lv_at hl 0 rfl) ?_
      refine va_get (D := D) (ci := 2) (v := .int (nI n)) (C := RX2) (T := TX2) (N := 14) hx hb hts in_X2_collect_X2 hown hK hP 0 rfl rfl 1 (by decide) (hts (.fieldLink RX2 36 "OffsetHeapModel" "most" "I") (by decide +kernel)) (fun _ h9 => h9) rfl dX2_collect_260 ?_
      refine xk_icmp_gt (tgt := 296) hx hb (by omega) (by omega) dX2_collect_263 (by decide) (fun c263 => ?_) (fun c263 => ?_)
      · refine lv_iconst (v := nI 0) hx hb dX2_collect_296 (by decide +kernel) ?_
        refine lv_istore_n (lv' := [(2, .int (nI 0)), (0, .ref h1), (1, .int (nI (1 + cn b (n + 1))))]) hx hb dX2_collect_297 rfl hl (by decide) rfl (fun ls hl => ?_)
        exact key6 ob4 wrd4 frs4 bgs4 fbs4 wnt2 far1 fst4 hwn (cp_of (by omega) (Nat.le_refl tp) (cpf_congr hcf (fun j hj => g1 j (by omega)) (fun j hj hbj => by have w := hL.tp hok (by omega) hbj; have := hL.lt hok w.1; omega)) hcs) (fun j hj => g2 j (by omega)) 9 rts 0 H locs ls (by omega) (by omega) (fun j hj => absurd hj (Nat.not_lt_zero j)) (fun j _ => rfl) hP hD hS (lv_sub hl [1, 2, 0] rfl)
      · refine lv_aload_n hx hb dX2_collect_266 rfl (lv_at hl 0 rfl) ?_
        refine va_get (D := D) (ci := 2) (v := .ref (am 1)) (C := RX2) (T := TX2) (N := 14) hx hb hts in_X2_collect_X2 hown hK hP 0 rfl rfl 7 (by decide) (hts (.fieldLink RX2 13 "OffsetHeapModel" "words" "[I") (by decide +kernel)) (fun _ h9 => h9) rfl dX2_collect_267 ?_
        refine lv_iload_n hx hb dX2_collect_270 rfl (lv_at hl 2 rfl) ?_
        refine lv_aload_n hx hb dX2_collect_271 rfl (lv_at hl 0 rfl) ?_
        refine va_get (D := D) (ci := 2) (v := .ref (am 2)) (C := RX2) (T := TX2) (N := 14) hx hb hts in_X2_collect_X2 hown hK hP 0 rfl rfl 8 (by decide) (hts (.fieldLink RX2 17 "OffsetHeapModel" "fresh" "[I") (by decide +kernel)) (fun _ h9 => h9) rfl dX2_collect_272 ?_
        refine lv_iload_n hx hb dX2_collect_275 rfl (lv_at hl 2 rfl) ?_
        refine xk_iald hx hb hK hP 2 0 rfl rfl (by omega) (by omega) dX2_collect_276 ?_
        refine xk_iast hx hb hK hP hD hS 1 0 rfl rfl (by omega) (by omega) dX2_collect_277 (fun H locs hP hD hS => ?_)
        have hP : va_P D vwCl (mW cI cZ h1 am th n B tp ob4 co lv (upd wrd4 i (frs4 i)) frs4 bgs4 fbs4 rts wnt2 far1) H := hP
        have hD : va_D A (mW cI cZ h1 am th n B tp ob4 co lv (upd wrd4 i (frs4 i)) frs4 bgs4 fbs4 rts wnt2 far1) := hD
        refine lv_aload_n hx hb dX2_collect_278 rfl (lv_at hl 0 rfl) ?_
        refine va_get (D := D) (ci := 2) (v := .ref (am 3)) (C := RX2) (T := TX2) (N := 14) hx hb hts in_X2_collect_X2 hown hK hP 0 rfl rfl 9 (by decide) (hts (.fieldLink RX2 20 "OffsetHeapModel" "begins" "[Z") (by decide +kernel)) (fun _ h9 => h9) rfl dX2_collect_279 ?_
        refine lv_iload_n hx hb dX2_collect_282 rfl (lv_at hl 2 rfl) ?_
        refine lv_aload_n hx hb dX2_collect_283 rfl (lv_at hl 0 rfl) ?_
        refine va_get (D := D) (ci := 2) (v := .ref (am 4)) (C := RX2) (T := TX2) (N := 14) hx hb hts in_X2_collect_X2 hown hK hP 0 rfl rfl 10 (by decide) (hts (.fieldLink RX2 24 "OffsetHeapModel" "freshBegins" "[Z") (by decide +kernel)) (fun _ h9 => h9) rfl dX2_collect_284 ?_
        refine lv_iload_n hx hb dX2_collect_287 rfl (lv_at hl 2 rfl) ?_
        refine xk_zald hx hb hK hP 4 1 rfl rfl (by omega) (by omega) dX2_collect_288 ?_
        refine xk_top (hfb i (by omega)) ?_
        refine xk_zast (z := fst4 i) hx hb hK hP hD hS 3 1 rfl rfl (by omega) (by omega) dX2_collect_289 (fun H locs hP hD hS => ?_)
        have hP : va_P D vwCl (mW cI cZ h1 am th n B tp ob4 co lv (upd wrd4 i (frs4 i)) frs4 (upd bgs4 i (bI (fst4 i))) fbs4 rts wnt2 far1) H := hP
        have hD : va_D A (mW cI cZ h1 am th n B tp ob4 co lv (upd wrd4 i (frs4 i)) frs4 (upd bgs4 i (bI (fst4 i))) fbs4 rts wnt2 far1) := hD
        refine lv_iinc (v := nI (i + 1)) (lv' := [(2, .int (nI (i + 1))), (0, .ref h1), (1, .int (nI (1 + cn b (n + 1))))]) hx hb dX2_collect_290 hl (k := 2) rfl (xk_inc i) (by decide) rfl (fun ls hl => ?_)
        refine lv_goto (tgt := 258) hx hb dX2_collect_293 (by decide) ?_
        exact ih _ _ (i + 1) H locs ls (by omega) (by omega) (fl_s g1) (fl_s (v := fun j => bI (fst4 j)) g2) hP hD hS (lv_sub hl [1, 2, 0] rfl)
  have key4 : ∀ (wnt2 far1 : Nat → Int32), (∀ a, a ≤ n → wnt2 a = nI (if b a then 1 + cn b a else 0)) → ∀ (d : Nat) (ob3 : Nat) (frs3 fbs3 : Nat → Int32) (fst3 : Nat → Bool) (a : Nat) (H : Heap) (locs : List Loc) (ls : Array Slot), tp + 1 ≤ a + d → 1 ≤ a → a ≤ tp → (a < tp → st a = true) → CPf n tp wrd st b frs3 a → CPs n st b fst3 ob3 a → (∀ j, j ≤ n → fbs3 j = bI (fst3 j)) → va_P D vwCl (mW cI cZ h1 am th n B tp ob3 co lv wrd frs3 bgs fbs3 rts wnt2 far1) H → va_D A (mW cI cZ h1 am th n B tp ob3 co lv wrd frs3 bgs fbs3 rts wnt2 far1) → va_S A s.heap H locs → lv_has ls 5 [(0, .ref h1), (1, .int (nI (1 + cn b (n + 1)))), (2, .int (nI a))] → W p l e (headSpec wsX2_collect ({ frames := 3, cells := 0, slots := 0, locals := 90 })).room s m ([.ref h1] : List Value).toArray below meth c H locs 0 0 (MQ below (va_Qi (fun (r9 : Int32) (u : Nat × Nat × Nat × (Nat → Int32) × (Nat → Int32) × (Nat → Int32) × (Nat → Int32) × (Nat → Int32) × (Nat → Int32) × (Nat → Int32)) => ∃ b fst : Nat → Bool, (r9 = nI (cn b (n + 1)) ∧ u.1 = 1 + cn b (n + 1) ∧ u.2.2.1 = cn b (n + 1)) ∧ okL n wrd rts b ∧ (∀ a, a ≤ n → u.2.2.2.2.2.2.2.2.1 a = nI (if b a then 1 + cn b a else 0)) ∧ CP n tp wrd st b u.2.2.2.1 fst (cn b tp) u.2.1 tp ∧ (∀ j, j ≤ n → u.2.2.2.2.2.1 j = bI (fst j)) ∧ ∀ j, j < 8 → u.2.2.2.2.2.2.2.1 j = nI (if tn (rts j) = 0 then 0 else 1 + cn b (tn (rts j)))) (fun (u : Nat × Nat × Nat × (Nat → Int32) × (Nat → Int32) × (Nat → Int32) × (Nat → Int32) × (Nat → Int32) × (Nat → Int32) × (Nat → Int32)) t => va_P D vwCl (mW cI cZ h1 am th n B u.1 u.2.1 (co + 1) u.2.2.1 u.2.2.2.1 u.2.2.2.2.1 u.2.2.2.2.2.1 u.2.2.2.2.2.2.1 u.2.2.2.2.2.2.2.1 u.2.2.2.2.2.2.2.2.1 u.2.2.2.2.2.2.2.2.2) t.heap ∧ va_D A (mW cI cZ h1 am th n B u.1 u.2.1 (co + 1) u.2.2.1 u.2.2.2.1 u.2.2.2.2.1 u.2.2.2.2.2.1 u.2.2.2.2.2.2.1 u.2.2.2.2.2.2.2.1 u.2.2.2.2.2.2.2.2.1 u.2.2.2.2.2.2.2.2.2)) A) ([.ref h1] : List Value).toArray s 0 0 A) (F0 m 127 ls []) := by
    intro wnt2 far1 hwn d
    induction d with
    | zero =>
      intro ob3 frs3 fbs3 fst3 a H locs ls hd ha1 ha2 haS hcf hcs hfb hP hD hS hl
      exfalso; omega
    | succ d ihA =>
      intro ob3 frs3 fbs3 fst3 a H locs ls hd ha1 ha2 haS hcf hcs hfb hP hD hS hl
      refine lv_iload_n hx hb dX2_collect_127 rfl (lv_at hl 2 rfl) ?_
      refine lv_aload_n hx hb dX2_collect_128 rfl (lv_at hl 0 rfl) ?_
      refine va_get (D := D) (ci := 2) (v := .int (nI tp)) (C := RX2) (T := TX2) (N := 14) hx hb hts in_X2_collect_X2 hown hK hP 0 rfl rfl 3 (by decide) (hts (.fieldLink RX2 7 "OffsetHeapModel" "top" "I") (by decide +kernel)) (fun _ h9 => h9) rfl dX2_collect_129 ?_
      refine xk_icmp_ge (tgt := 256) hx hb (by omega) (by omega) dX2_collect_132 (by decide) (fun c132 => ?_) (fun c132 => ?_)
      · refine lv_iconst (v := nI 0) hx hb dX2_collect_256 (by decide +kernel) ?_
        refine lv_istore_n (lv' := [(2, .int (nI 0)), (0, .ref h1), (1, .int (nI (1 + cn b (n + 1))))]) hx hb dX2_collect_257 rfl hl (by decide) rfl (fun ls hl => ?_)
        have hae : a = tp := by omega
        rw [hae] at hcf hcs
        exact key5 ob3 frs3 fbs3 wnt2 far1 fst3 hwn hcf hcs hfb (n + 2) wrd bgs 0 H locs ls (by omega) (by omega) (fun j hj => absurd hj (Nat.not_lt_zero j)) (fun j hj => absurd hj (Nat.not_lt_zero j)) hP hD hS (lv_sub hl [1, 2, 0] rfl)
      · have ha3 := haS c132
        have hh := hok.hdr ha1 c132 ha3
        have hs := hok.hsm ha1 c132 ha3
        have hf := hok.fit ha1 c132 ha3
        unfold siz at hf
        have hcb := cn_le b a
        refine lv_aload_n hx hb dX2_collect_135 rfl (lv_at hl 0 rfl) ?_
        refine va_get (D := D) (ci := 2) (v := .ref (am 6)) (C := RX2) (T := TX2) (N := 14) hx hb hts in_X2_collect_X2 hown hK hP 0 rfl rfl 12 (by decide) (hts (.fieldLink RX2 30 "OffsetHeapModel" "went" "[I") (by decide +kernel)) (fun _ h9 => h9) rfl dX2_collect_136 ?_
        refine lv_iload_n hx hb dX2_collect_139 rfl (lv_at hl 2 rfl) ?_
        refine xk_iald hx hb hK hP 6 0 rfl rfl (by omega) (by omega) dX2_collect_140 ?_
        refine xk_top (hwn a (by omega)) ?_
        have hwb : (if b a then 1 + cn b a else 0) < 2 ^ 31 := by split <;> omega
        refine xk_if_le (tgt := 245) hx hb (by omega) dX2_collect_141 (by decide) (fun c141 => ?_) (fun c141 => ?_)
        · refine lv_iload_n hx hb dX2_collect_245 rfl (lv_at hl 2 rfl) ?_
          refine lv_aload_n hx hb dX2_collect_246 rfl (lv_at hl 0 rfl) ?_
          refine lv_iload_n hx hb dX2_collect_247 rfl (lv_at hl 2 rfl) ?_
          refine xk_roV (As := [.int (nI a)]) (rest := [.int (nI a)]) ⟨hx, hb, hml, hown, hts⟩ (c_mlength l D cI cZ h1 am th n B tp ob3 co lv wrd frs3 bgs fbs3 rts wnt2 far1 a (by omega) hh (by omega)) (cwV 1 hts gX2_collect_X2_length rfl rfl rfl (by decide +kernel) ⟨Nat.le_of_ble_eq_true rfl, Nat.le_of_ble_eq_true rfl⟩) (va_recv hK hP (ci := 2) (q0 := 0) rfl rfl) hP hK rfl hl.1 rfl (Nat.le_of_ble_eq_true rfl) dX2_collect_248 ⟨Nat.zero_le _, Nat.zero_le _⟩ ?_
          refine lv_iadd hx hb dX2_collect_251 ?_
          refine xk_top (nI_add _ _) ?_
          refine lv_istore_n (lv' := [(2, .int (nI (a + (1 + tn (wrd a) / 16 % 16 + tn (wrd a) / 256)))), (0, .ref h1), (1, .int (nI (1 + cn b (n + 1))))]) hx hb dX2_collect_252 rfl hl (by decide) rfl (fun ls hl => ?_)
          refine lv_goto (tgt := 127) hx hb dX2_collect_253 (by decide) ?_
          have hba : b a = false := by cases z : b a <;> simp [z] at c141 <;> rfl
          have hdd := lv_dead hL hok ha1 c132 ha3 hba
          exact ihA ob3 frs3 fbs3 fst3 (a + siz wrd a) H locs ls (by have := siz_pos wrd a; omega) (by omega) (hok.fit ha1 c132 ha3) (hok.next ha1 c132 ha3) (cpf_gap hcf hdd) (cps_gap hcs (fun j j1 j2 => by rw [hdd j j1 j2, Bool.false_and])) hfb hP hD hS (lv_sub hl [1, 2, 0] rfl)
        · have hba : b a = true := by cases z : b a <;> simp [z] at c141 <;> rfl
          have hlt := hL.lt hok (i := a) (by omega)
          have hwa : wnt2 a = nI (1 + cn b a) := by rw [hwn a (by omega), hba]; rfl
          refine lv_aload_n hx hb dX2_collect_144 rfl (lv_at hl 0 rfl) ?_
          refine va_get (D := D) (ci := 2) (v := .ref (am 4)) (C := RX2) (T := TX2) (N := 14) hx hb hts in_X2_collect_X2 hown hK hP 0 rfl rfl 10 (by decide) (hts (.fieldLink RX2 24 "OffsetHeapModel" "freshBegins" "[Z") (by decide +kernel)) (fun _ h9 => h9) rfl dX2_collect_145 ?_
          refine lv_aload_n hx hb dX2_collect_148 rfl (lv_at hl 0 rfl) ?_
          refine va_get (D := D) (ci := 2) (v := .ref (am 6)) (C := RX2) (T := TX2) (N := 14) hx hb hts in_X2_collect_X2 hown hK hP 0 rfl rfl 12 (by decide) (hts (.fieldLink RX2 30 "OffsetHeapModel" "went" "[I") (by decide +kernel)) (fun _ h9 => h9) rfl dX2_collect_149 ?_
          refine lv_iload_n hx hb dX2_collect_152 rfl (lv_at hl 2 rfl) ?_
          refine xk_iald hx hb hK hP 6 0 rfl rfl (by omega) (by omega) dX2_collect_153 ?_
          refine xk_top hwa ?_
          refine lv_iconst (v := nI 1) hx hb dX2_collect_154 (by decide +kernel) ?_
          refine xk_zast (z := true) hx hb hK hP hD hS 4 1 rfl rfl (by omega) (by omega) dX2_collect_155 (fun H locs hP hD hS => ?_)
          have hP : va_P D vwCl (mW cI cZ h1 am th n B tp ob3 co lv wrd frs3 bgs (upd fbs3 (1 + cn b a) (bI true)) rts wnt2 far1) H := hP
          have hD : va_D A (mW cI cZ h1 am th n B tp ob3 co lv wrd frs3 bgs (upd fbs3 (1 + cn b a) (bI true)) rts wnt2 far1) := hD
          refine lv_aload_n hx hb dX2_collect_156 rfl (lv_at hl 0 rfl) ?_
          refine lv_dup hx hb dX2_collect_157 rfl ?_
          refine va_get (D := D) (ci := 2) (v := .int (nI ob3)) (C := RX2) (T := TX2) (N := 14) hx hb hts in_X2_collect_X2 hown hK hP 0 rfl rfl 4 (by decide) (hts (.fieldLink RX2 56 "OffsetHeapModel" "objects" "I") (by decide +kernel)) (fun _ h9 => h9) rfl dX2_collect_158 ?_
          refine lv_iconst (v := nI 1) hx hb dX2_collect_161 (by decide +kernel) ?_
          refine lv_iadd hx hb dX2_collect_162 ?_
          refine xk_top (nI_add _ _) ?_
          refine va_put (D := D) (ci := 2) (v := .int (nI (ob3 + 1))) (ty := .int) (C := RX2) (T := TX2) (N := 14) hx hb hts in_X2_collect_X2 tyX2 tyX2_ok nmX2 hown hK hP hD hS 0 rfl rfl 4 (by decide) (hts (.fieldLink RX2 56 "OffsetHeapModel" "objects" "I") (by decide +kernel)) (fun _ h9 => h9) rfl (by decide +kernel) rfl rfl (Nat.le_of_ble_eq_true rfl) dX2_collect_163 (fun H locs hP hD hS => ?_)
          have hP : va_P D vwCl (mW cI cZ h1 am th n B tp (ob3 + 1) co lv wrd frs3 bgs (upd fbs3 (1 + cn b a) (bI true)) rts wnt2 far1) H := hP
          have hD : va_D A (mW cI cZ h1 am th n B tp (ob3 + 1) co lv wrd frs3 bgs (upd fbs3 (1 + cn b a) (bI true)) rts wnt2 far1) := hD
          refine lv_iconst (v := nI 0) hx hb dX2_collect_166 (by decide +kernel) ?_
          refine lv_istore_n (lv' := [(3, .int (nI 0)), (0, .ref h1), (1, .int (nI (1 + cn b (n + 1)))), (2, .int (nI a))]) hx hb dX2_collect_167 rfl hl (by decide) rfl (fun ls hl => ?_)
          have keyK : ∀ (eK : Nat) (frs4 : Nat → Int32) (i : Nat) (H : Heap) (locs : List Loc) (ls : Array Slot), 1 + tn (wrd a) / 16 % 16 + tn (wrd a) / 256 + 1 ≤ i + eK → i ≤ 1 + tn (wrd a) / 16 % 16 + tn (wrd a) / 256 → CPf n tp wrd st b frs4 (a + i) → va_P D vwCl (mW cI cZ h1 am th n B tp (ob3 + 1) co lv wrd frs4 bgs (upd fbs3 (1 + cn b a) (bI true)) rts wnt2 far1) H → va_D A (mW cI cZ h1 am th n B tp (ob3 + 1) co lv wrd frs4 bgs (upd fbs3 (1 + cn b a) (bI true)) rts wnt2 far1) → va_S A s.heap H locs → lv_has ls 5 [(0, .ref h1), (1, .int (nI (1 + cn b (n + 1)))), (2, .int (nI a)), (3, .int (nI i))] → W p l e (headSpec wsX2_collect ({ frames := 3, cells := 0, slots := 0, locals := 90 })).room s m ([.ref h1] : List Value).toArray below meth c H locs 0 0 (MQ below (va_Qi (fun (r9 : Int32) (u : Nat × Nat × Nat × (Nat → Int32) × (Nat → Int32) × (Nat → Int32) × (Nat → Int32) × (Nat → Int32) × (Nat → Int32) × (Nat → Int32)) => ∃ b fst : Nat → Bool, (r9 = nI (cn b (n + 1)) ∧ u.1 = 1 + cn b (n + 1) ∧ u.2.2.1 = cn b (n + 1)) ∧ okL n wrd rts b ∧ (∀ a, a ≤ n → u.2.2.2.2.2.2.2.2.1 a = nI (if b a then 1 + cn b a else 0)) ∧ CP n tp wrd st b u.2.2.2.1 fst (cn b tp) u.2.1 tp ∧ (∀ j, j ≤ n → u.2.2.2.2.2.1 j = bI (fst j)) ∧ ∀ j, j < 8 → u.2.2.2.2.2.2.2.1 j = nI (if tn (rts j) = 0 then 0 else 1 + cn b (tn (rts j)))) (fun (u : Nat × Nat × Nat × (Nat → Int32) × (Nat → Int32) × (Nat → Int32) × (Nat → Int32) × (Nat → Int32) × (Nat → Int32) × (Nat → Int32)) t => va_P D vwCl (mW cI cZ h1 am th n B u.1 u.2.1 (co + 1) u.2.2.1 u.2.2.2.1 u.2.2.2.2.1 u.2.2.2.2.2.1 u.2.2.2.2.2.2.1 u.2.2.2.2.2.2.2.1 u.2.2.2.2.2.2.2.2.1 u.2.2.2.2.2.2.2.2.2) t.heap ∧ va_D A (mW cI cZ h1 am th n B u.1 u.2.1 (co + 1) u.2.2.1 u.2.2.2.1 u.2.2.2.2.1 u.2.2.2.2.2.1 u.2.2.2.2.2.2.1 u.2.2.2.2.2.2.2.1 u.2.2.2.2.2.2.2.2.1 u.2.2.2.2.2.2.2.2.2)) A) ([.ref h1] : List Value).toArray s 0 0 A) (F0 m 168 ls []) := by
            intro eK
            induction eK with
            | zero =>
              intro frs4 i H locs ls he hi hcf4 hP hD hS hl
              exfalso; omega
            | succ eK ihK =>
              intro frs4 i H locs ls he hi hcf4 hP hD hS hl
              refine lv_iload_n hx hb dX2_collect_168 rfl (lv_at hl 3 rfl) ?_
              refine lv_aload_n hx hb dX2_collect_169 rfl (lv_at hl 0 rfl) ?_
              refine lv_iload_n hx hb dX2_collect_170 rfl (lv_at hl 2 rfl) ?_
              refine xk_roV (As := [.int (nI a)]) (rest := [.int (nI i)]) ⟨hx, hb, hml, hown, hts⟩ (c_mlength l D cI cZ h1 am th n B tp (ob3 + 1) co lv wrd frs4 bgs (upd fbs3 (1 + cn b a) (bI true)) rts wnt2 far1 a (by omega) hh (by omega)) (cwV 1 hts gX2_collect_X2_length rfl rfl rfl (by decide +kernel) ⟨Nat.le_of_ble_eq_true rfl, Nat.le_of_ble_eq_true rfl⟩) (va_recv hK hP (ci := 2) (q0 := 0) rfl rfl) hP hK rfl hl.1 rfl (Nat.le_of_ble_eq_true rfl) dX2_collect_171 ⟨Nat.zero_le _, Nat.zero_le _⟩ ?_
              refine xk_icmp_ge (tgt := 245) hx hb (by omega) (by omega) dX2_collect_174 (by decide) (fun c174 => ?_) (fun c174 => ?_)
              · refine lv_iload_n hx hb dX2_collect_245 rfl (lv_at hl 2 rfl) ?_
                refine lv_aload_n hx hb dX2_collect_246 rfl (lv_at hl 0 rfl) ?_
                refine lv_iload_n hx hb dX2_collect_247 rfl (lv_at hl 2 rfl) ?_
                refine xk_roV (As := [.int (nI a)]) (rest := [.int (nI a)]) ⟨hx, hb, hml, hown, hts⟩ (c_mlength l D cI cZ h1 am th n B tp (ob3 + 1) co lv wrd frs4 bgs (upd fbs3 (1 + cn b a) (bI true)) rts wnt2 far1 a (by omega) hh (by omega)) (cwV 1 hts gX2_collect_X2_length rfl rfl rfl (by decide +kernel) ⟨Nat.le_of_ble_eq_true rfl, Nat.le_of_ble_eq_true rfl⟩) (va_recv hK hP (ci := 2) (q0 := 0) rfl rfl) hP hK rfl hl.1 rfl (Nat.le_of_ble_eq_true rfl) dX2_collect_248 ⟨Nat.zero_le _, Nat.zero_le _⟩ ?_
                refine lv_iadd hx hb dX2_collect_251 ?_
                refine xk_top (nI_add _ _) ?_
                refine lv_istore_n (lv' := [(2, .int (nI (a + (1 + tn (wrd a) / 16 % 16 + tn (wrd a) / 256)))), (0, .ref h1), (1, .int (nI (1 + cn b (n + 1)))), (3, .int (nI i))]) hx hb dX2_collect_252 rfl hl (by decide) rfl (fun ls hl => ?_)
                refine lv_goto (tgt := 127) hx hb dX2_collect_253 (by decide) ?_
                have hie : a + i = a + siz wrd a := by unfold siz; omega
                rw [hie] at hcf4
                have hcs4 := cps_gap (d := siz wrd a - 1) (cps_head hcs hba ha3) (fun j j1 j2 => by rw [hok.gap ha1 c132 ha3 (j := j) (by omega) (by omega), Bool.and_false])
                rw [show a + 1 + (siz wrd a - 1) = a + siz wrd a by have := siz_pos wrd a; omega] at hcs4
                exact ihA (ob3 + 1) frs4 _ _ (a + siz wrd a) H locs ls (by have := siz_pos wrd a; omega) (by omega) (hok.fit ha1 c132 ha3) (hok.next ha1 c132 ha3) hcf4 hcs4 (fb_u hfb) hP hD hS (lv_sub hl [1, 2, 0] rfl)
              · have hbi : b (a + i) = true := lv_live hL hok ha1 c132 ha3 hba (a + i) (by omega) (by unfold siz; omega)
                have hlt2 := hL.lt hok (i := a + i) (by omega)
                have hrun : cn b (a + i) = cn b a + i := cn_run (fun j j1 j2 => lv_live hL hok ha1 c132 ha3 hba j j1 (by unfold siz; omega))
                have hRW := RW_in hok ha1 c132 ha3 (j := a + i) (by omega) (by unfold siz; omega)
                refine lv_iload_n hx hb dX2_collect_177 rfl (lv_at hl 3 rfl) ?_
                refine xk_if_le (tgt := 194) hx hb (by omega) dX2_collect_178 (by decide) (fun c178 => ?_) (fun c178 => ?_)
                · refine lv_iconst (v := nI 0) hx hb dX2_collect_194 (by decide +kernel) ?_
                  refine lv_istore (lv' := [(4, .int (nI 0)), (0, .ref h1), (1, .int (nI (1 + cn b (n + 1)))), (2, .int (nI a)), (3, .int (nI i))]) hx hb dX2_collect_195 hl (by decide) rfl (fun ls hl => ?_)
                  refine lv_aload_n hx hb dX2_collect_197 rfl (lv_at hl 1 rfl) ?_
                  refine va_get (D := D) (ci := 2) (v := .ref (am 2)) (C := RX2) (T := TX2) (N := 14) hx hb hts in_X2_collect_X2 hown hK hP 0 rfl rfl 8 (by decide) (hts (.fieldLink RX2 17 "OffsetHeapModel" "fresh" "[I") (by decide +kernel)) (fun _ h9 => h9) rfl dX2_collect_198 ?_
                  refine lv_aload_n hx hb dX2_collect_201 rfl (lv_at hl 1 rfl) ?_
                  refine va_get (D := D) (ci := 2) (v := .ref (am 6)) (C := RX2) (T := TX2) (N := 14) hx hb hts in_X2_collect_X2 hown hK hP 0 rfl rfl 12 (by decide) (hts (.fieldLink RX2 30 "OffsetHeapModel" "went" "[I") (by decide +kernel)) (fun _ h9 => h9) rfl dX2_collect_202 ?_
                  refine lv_iload_n hx hb dX2_collect_205 rfl (lv_at hl 3 rfl) ?_
                  refine xk_iald hx hb hK hP 6 0 rfl rfl (by omega) (by omega) dX2_collect_206 ?_
                  refine xk_top hwa ?_
                  refine lv_iload_n hx hb dX2_collect_207 rfl (lv_at hl 4 rfl) ?_
                  refine lv_iadd hx hb dX2_collect_208 ?_
                  refine xk_top (show nI (1 + cn b a) + nI i = nI (1 + cn b (a + i)) by rw [nI_add]; congr 1; omega) ?_
                  refine lv_iload hx hb dX2_collect_209 (lv_at hl 0 rfl) ?_
                  refine xk_if_eq (tgt := 230) hx hb (by omega) dX2_collect_211 (by decide) (fun c211 => ?_) (fun c211 => by exfalso; omega)
                  refine lv_aload_n hx hb dX2_collect_230 rfl (lv_at hl 1 rfl) ?_
                  refine va_get (D := D) (ci := 2) (v := .ref (am 1)) (C := RX2) (T := TX2) (N := 14) hx hb hts in_X2_collect_X2 hown hK hP 0 rfl rfl 7 (by decide) (hts (.fieldLink RX2 13 "OffsetHeapModel" "words" "[I") (by decide +kernel)) (fun _ h9 => h9) rfl dX2_collect_231 ?_
                  refine lv_iload_n hx hb dX2_collect_234 rfl (lv_at hl 3 rfl) ?_
                  refine lv_iload_n hx hb dX2_collect_235 rfl (lv_at hl 4 rfl) ?_
                  refine lv_iadd hx hb dX2_collect_236 ?_
                  refine xk_top (nI_add _ _) ?_
                  refine xk_iald hx hb hK hP 1 0 rfl rfl (by omega) (by omega) dX2_collect_237 ?_
                  refine xk_iast hx hb hK hP hD hS 2 0 rfl rfl (by omega) (by omega) dX2_collect_238 (fun H locs hP hD hS => ?_)
                  have hP : va_P D vwCl (mW cI cZ h1 am th n B tp (ob3 + 1) co lv wrd (upd frs4 (1 + cn b (a + i)) (wrd (a + i))) bgs (upd fbs3 (1 + cn b a) (bI true)) rts wnt2 far1) H := hP
                  have hD : va_D A (mW cI cZ h1 am th n B tp (ob3 + 1) co lv wrd (upd frs4 (1 + cn b (a + i)) (wrd (a + i))) bgs (upd fbs3 (1 + cn b a) (bI true)) rts wnt2 far1) := hD
                  refine lv_iinc (v := nI (i + 1)) (lv' := [(3, .int (nI (i + 1))), (4, .int (nI 0)), (0, .ref h1), (1, .int (nI (1 + cn b (n + 1)))), (2, .int (nI a))]) hx hb dX2_collect_239 hl (k := 4) rfl (xk_inc i) (by decide) rfl (fun ls hl => ?_)
                  refine lv_goto (tgt := 168) hx hb dX2_collect_242 (by decide) ?_
                  exact ihK _ (i + 1) H locs ls (by omega) (by omega) (cpf_store hcf4 hbi ⟨fun z => absurd (hRW.mp z) (by unfold rfs; omega), fun _ => rfl⟩) hP hD hS (lv_sub hl [2, 3, 4, 0] rfl)
                · refine lv_iload_n hx hb dX2_collect_181 rfl (lv_at hl 3 rfl) ?_
                  refine lv_aload_n hx hb dX2_collect_182 rfl (lv_at hl 0 rfl) ?_
                  refine lv_iload_n hx hb dX2_collect_183 rfl (lv_at hl 2 rfl) ?_
                  refine xk_roV (As := [.int (nI a)]) (rest := [.int (nI i)]) ⟨hx, hb, hml, hown, hts⟩ (c_mreferences l D cI cZ h1 am th n B tp (ob3 + 1) co lv wrd frs4 bgs (upd fbs3 (1 + cn b a) (bI true)) rts wnt2 far1 a (by omega) hh (by omega)) (cwV 1 hts gX2_collect_X2_references rfl rfl rfl (by decide +kernel) ⟨Nat.le_of_ble_eq_true rfl, Nat.le_of_ble_eq_true rfl⟩) (va_recv hK hP (ci := 2) (q0 := 0) rfl rfl) hP hK rfl hl.1 rfl (Nat.le_of_ble_eq_true rfl) dX2_collect_184 ⟨Nat.zero_le _, Nat.zero_le _⟩ ?_
                  refine xk_icmp_gt (tgt := 194) hx hb (by omega) (by omega) dX2_collect_187 (by decide) (fun c187 => ?_) (fun c187 => ?_)
                  · refine lv_iconst (v := nI 0) hx hb dX2_collect_194 (by decide +kernel) ?_
                    refine lv_istore (lv' := [(4, .int (nI 0)), (0, .ref h1), (1, .int (nI (1 + cn b (n + 1)))), (2, .int (nI a)), (3, .int (nI i))]) hx hb dX2_collect_195 hl (by decide) rfl (fun ls hl => ?_)
                    refine lv_aload_n hx hb dX2_collect_197 rfl (lv_at hl 1 rfl) ?_
                    refine va_get (D := D) (ci := 2) (v := .ref (am 2)) (C := RX2) (T := TX2) (N := 14) hx hb hts in_X2_collect_X2 hown hK hP 0 rfl rfl 8 (by decide) (hts (.fieldLink RX2 17 "OffsetHeapModel" "fresh" "[I") (by decide +kernel)) (fun _ h9 => h9) rfl dX2_collect_198 ?_
                    refine lv_aload_n hx hb dX2_collect_201 rfl (lv_at hl 1 rfl) ?_
                    refine va_get (D := D) (ci := 2) (v := .ref (am 6)) (C := RX2) (T := TX2) (N := 14) hx hb hts in_X2_collect_X2 hown hK hP 0 rfl rfl 12 (by decide) (hts (.fieldLink RX2 30 "OffsetHeapModel" "went" "[I") (by decide +kernel)) (fun _ h9 => h9) rfl dX2_collect_202 ?_
                    refine lv_iload_n hx hb dX2_collect_205 rfl (lv_at hl 3 rfl) ?_
                    refine xk_iald hx hb hK hP 6 0 rfl rfl (by omega) (by omega) dX2_collect_206 ?_
                    refine xk_top hwa ?_
                    refine lv_iload_n hx hb dX2_collect_207 rfl (lv_at hl 4 rfl) ?_
                    refine lv_iadd hx hb dX2_collect_208 ?_
                    refine xk_top (show nI (1 + cn b a) + nI i = nI (1 + cn b (a + i)) by rw [nI_add]; congr 1; omega) ?_
                    refine lv_iload hx hb dX2_collect_209 (lv_at hl 0 rfl) ?_
                    refine xk_if_eq (tgt := 230) hx hb (by omega) dX2_collect_211 (by decide) (fun c211 => ?_) (fun c211 => by exfalso; omega)
                    refine lv_aload_n hx hb dX2_collect_230 rfl (lv_at hl 1 rfl) ?_
                    refine va_get (D := D) (ci := 2) (v := .ref (am 1)) (C := RX2) (T := TX2) (N := 14) hx hb hts in_X2_collect_X2 hown hK hP 0 rfl rfl 7 (by decide) (hts (.fieldLink RX2 13 "OffsetHeapModel" "words" "[I") (by decide +kernel)) (fun _ h9 => h9) rfl dX2_collect_231 ?_
                    refine lv_iload_n hx hb dX2_collect_234 rfl (lv_at hl 3 rfl) ?_
                    refine lv_iload_n hx hb dX2_collect_235 rfl (lv_at hl 4 rfl) ?_
                    refine lv_iadd hx hb dX2_collect_236 ?_
                    refine xk_top (nI_add _ _) ?_
                    refine xk_iald hx hb hK hP 1 0 rfl rfl (by omega) (by omega) dX2_collect_237 ?_
                    refine xk_iast hx hb hK hP hD hS 2 0 rfl rfl (by omega) (by omega) dX2_collect_238 (fun H locs hP hD hS => ?_)
                    have hP : va_P D vwCl (mW cI cZ h1 am th n B tp (ob3 + 1) co lv wrd (upd frs4 (1 + cn b (a + i)) (wrd (a + i))) bgs (upd fbs3 (1 + cn b a) (bI true)) rts wnt2 far1) H := hP
                    have hD : va_D A (mW cI cZ h1 am th n B tp (ob3 + 1) co lv wrd (upd frs4 (1 + cn b (a + i)) (wrd (a + i))) bgs (upd fbs3 (1 + cn b a) (bI true)) rts wnt2 far1) := hD
                    refine lv_iinc (v := nI (i + 1)) (lv' := [(3, .int (nI (i + 1))), (4, .int (nI 0)), (0, .ref h1), (1, .int (nI (1 + cn b (n + 1)))), (2, .int (nI a))]) hx hb dX2_collect_239 hl (k := 4) rfl (xk_inc i) (by decide) rfl (fun ls hl => ?_)
                    refine lv_goto (tgt := 168) hx hb dX2_collect_242 (by decide) ?_
                    exact ihK _ (i + 1) H locs ls (by omega) (by omega) (cpf_store hcf4 hbi ⟨fun z => absurd (hRW.mp z) (by unfold rfs; omega), fun _ => rfl⟩) hP hD hS (lv_sub hl [2, 3, 4, 0] rfl)
                  · refine lv_iconst (v := nI 1) hx hb dX2_collect_190 (by decide +kernel) ?_
                    refine lv_goto (tgt := 195) hx hb dX2_collect_191 (by decide) ?_
                    refine lv_istore (lv' := [(4, .int (nI 1)), (0, .ref h1), (1, .int (nI (1 + cn b (n + 1)))), (2, .int (nI a)), (3, .int (nI i))]) hx hb dX2_collect_195 hl (by decide) rfl (fun ls hl => ?_)
                    refine lv_aload_n hx hb dX2_collect_197 rfl (lv_at hl 1 rfl) ?_
                    refine va_get (D := D) (ci := 2) (v := .ref (am 2)) (C := RX2) (T := TX2) (N := 14) hx hb hts in_X2_collect_X2 hown hK hP 0 rfl rfl 8 (by decide) (hts (.fieldLink RX2 17 "OffsetHeapModel" "fresh" "[I") (by decide +kernel)) (fun _ h9 => h9) rfl dX2_collect_198 ?_
                    refine lv_aload_n hx hb dX2_collect_201 rfl (lv_at hl 1 rfl) ?_
                    refine va_get (D := D) (ci := 2) (v := .ref (am 6)) (C := RX2) (T := TX2) (N := 14) hx hb hts in_X2_collect_X2 hown hK hP 0 rfl rfl 12 (by decide) (hts (.fieldLink RX2 30 "OffsetHeapModel" "went" "[I") (by decide +kernel)) (fun _ h9 => h9) rfl dX2_collect_202 ?_
                    refine lv_iload_n hx hb dX2_collect_205 rfl (lv_at hl 3 rfl) ?_
                    refine xk_iald hx hb hK hP 6 0 rfl rfl (by omega) (by omega) dX2_collect_206 ?_
                    refine xk_top hwa ?_
                    refine lv_iload_n hx hb dX2_collect_207 rfl (lv_at hl 4 rfl) ?_
                    refine lv_iadd hx hb dX2_collect_208 ?_
                    refine xk_top (show nI (1 + cn b a) + nI i = nI (1 + cn b (a + i)) by rw [nI_add]; congr 1; omega) ?_
                    refine lv_iload hx hb dX2_collect_209 (lv_at hl 0 rfl) ?_
                    refine xk_if_eq (tgt := 230) hx hb (by omega) dX2_collect_211 (by decide) (fun c211 => by exfalso; omega) (fun c211 => ?_)
                    have q := hok.refN ha1 c132 ha3 (k := i - 1) (by unfold rfs; omega)
                    rw [show a + 1 + (i - 1) = a + i by omega] at q
                    have q2 := q.2
                    have q3 := hL.ref hok ha1 c132 ha3 hba (k := i - 1) (by unfold rfs; omega)
                    rw [show a + 1 + (i - 1) = a + i by omega] at q3
                    refine lv_aload_n hx hb dX2_collect_214 rfl (lv_at hl 1 rfl) ?_
                    refine va_get (D := D) (ci := 2) (v := .ref (am 6)) (C := RX2) (T := TX2) (N := 14) hx hb hts in_X2_collect_X2 hown hK hP 0 rfl rfl 12 (by decide) (hts (.fieldLink RX2 30 "OffsetHeapModel" "went" "[I") (by decide +kernel)) (fun _ h9 => h9) rfl dX2_collect_215 ?_
                    refine lv_aload_n hx hb dX2_collect_218 rfl (lv_at hl 1 rfl) ?_
                    refine va_get (D := D) (ci := 2) (v := .ref (am 1)) (C := RX2) (T := TX2) (N := 14) hx hb hts in_X2_collect_X2 hown hK hP 0 rfl rfl 7 (by decide) (hts (.fieldLink RX2 13 "OffsetHeapModel" "words" "[I") (by decide +kernel)) (fun _ h9 => h9) rfl dX2_collect_219 ?_
                    refine lv_iload_n hx hb dX2_collect_222 rfl (lv_at hl 3 rfl) ?_
                    refine lv_iload_n hx hb dX2_collect_223 rfl (lv_at hl 4 rfl) ?_
                    refine lv_iadd hx hb dX2_collect_224 ?_
                    refine xk_top (nI_add _ _) ?_
                    refine xk_iald hx hb hK hP 1 0 rfl rfl (by omega) (by omega) dX2_collect_225 ?_
                    refine xk_top q.1 ?_
                    refine xk_iald hx hb hK hP 6 0 rfl rfl (by omega) (by omega) dX2_collect_226 ?_
                    refine xk_top ((hwn _ (by omega)).trans (congrArg nI (wv_eq hz0 (fun z => (q3 z).2.2.2)))) ?_
                    refine lv_goto (tgt := 238) hx hb dX2_collect_227 (by decide) ?_
                    refine xk_iast hx hb hK hP hD hS 2 0 rfl rfl (by omega) (by omega) dX2_collect_238 (fun H locs hP hD hS => ?_)
                    have hP : va_P D vwCl (mW cI cZ h1 am th n B tp (ob3 + 1) co lv wrd (upd frs4 (1 + cn b (a + i)) (nI (if tn (wrd (a + i)) = 0 then 0 else 1 + cn b (tn (wrd (a + i)))))) bgs (upd fbs3 (1 + cn b a) (bI true)) rts wnt2 far1) H := hP
                    have hD : va_D A (mW cI cZ h1 am th n B tp (ob3 + 1) co lv wrd (upd frs4 (1 + cn b (a + i)) (nI (if tn (wrd (a + i)) = 0 then 0 else 1 + cn b (tn (wrd (a + i)))))) bgs (upd fbs3 (1 + cn b a) (bI true)) rts wnt2 far1) := hD
                    refine lv_iinc (v := nI (i + 1)) (lv' := [(3, .int (nI (i + 1))), (4, .int (nI 1)), (0, .ref h1), (1, .int (nI (1 + cn b (n + 1)))), (2, .int (nI a))]) hx hb dX2_collect_239 hl (k := 4) rfl (xk_inc i) (by decide) rfl (fun ls hl => ?_)
                    refine lv_goto (tgt := 168) hx hb dX2_collect_242 (by decide) ?_
                    exact ihK _ (i + 1) H locs ls (by omega) (by omega) (cpf_store hcf4 hbi ⟨fun _ => rfl, fun z => absurd (hRW.mpr ⟨by omega, by unfold rfs; omega⟩) z⟩) hP hD hS (lv_sub hl [2, 3, 4, 0] rfl)
          exact keyK 300 frs3 0 H locs ls (by omega) (by omega) hcf hP hD hS (lv_sub hl [1, 2, 3, 0] rfl)
  have key3 : ∀ (wnt2 far1 fbs1 : Nat → Int32), (∀ a, a ≤ n → wnt2 a = nI (if b a then 1 + cn b a else 0)) → (∀ j, j ≤ n → fbs1 j = bI false) → ∀ (d : Nat) (frs3 : Nat → Int32) (i : Nat) (H : Heap) (locs : List Loc) (ls : Array Slot), n + 2 ≤ i + d → i ≤ n + 1 → (∀ j, j < i → frs3 j = nI 0) → va_P D vwCl (mW cI cZ h1 am th n B tp ob co lv wrd frs3 bgs fbs1 rts wnt2 far1) H → va_D A (mW cI cZ h1 am th n B tp ob co lv wrd frs3 bgs fbs1 rts wnt2 far1) → va_S A s.heap H locs → lv_has ls 5 [(0, .ref h1), (1, .int (nI (1 + cn b (n + 1)))), (2, .int (nI i))] → W p l e (headSpec wsX2_collect ({ frames := 3, cells := 0, slots := 0, locals := 90 })).room s m ([.ref h1] : List Value).toArray below meth c H locs 0 0 (MQ below (va_Qi (fun (r9 : Int32) (u : Nat × Nat × Nat × (Nat → Int32) × (Nat → Int32) × (Nat → Int32) × (Nat → Int32) × (Nat → Int32) × (Nat → Int32) × (Nat → Int32)) => ∃ b fst : Nat → Bool, (r9 = nI (cn b (n + 1)) ∧ u.1 = 1 + cn b (n + 1) ∧ u.2.2.1 = cn b (n + 1)) ∧ okL n wrd rts b ∧ (∀ a, a ≤ n → u.2.2.2.2.2.2.2.2.1 a = nI (if b a then 1 + cn b a else 0)) ∧ CP n tp wrd st b u.2.2.2.1 fst (cn b tp) u.2.1 tp ∧ (∀ j, j ≤ n → u.2.2.2.2.2.1 j = bI (fst j)) ∧ ∀ j, j < 8 → u.2.2.2.2.2.2.2.1 j = nI (if tn (rts j) = 0 then 0 else 1 + cn b (tn (rts j)))) (fun (u : Nat × Nat × Nat × (Nat → Int32) × (Nat → Int32) × (Nat → Int32) × (Nat → Int32) × (Nat → Int32) × (Nat → Int32) × (Nat → Int32)) t => va_P D vwCl (mW cI cZ h1 am th n B u.1 u.2.1 (co + 1) u.2.2.1 u.2.2.2.1 u.2.2.2.2.1 u.2.2.2.2.2.1 u.2.2.2.2.2.2.1 u.2.2.2.2.2.2.2.1 u.2.2.2.2.2.2.2.2.1 u.2.2.2.2.2.2.2.2.2) t.heap ∧ va_D A (mW cI cZ h1 am th n B u.1 u.2.1 (co + 1) u.2.2.1 u.2.2.2.1 u.2.2.2.2.1 u.2.2.2.2.2.1 u.2.2.2.2.2.2.1 u.2.2.2.2.2.2.2.1 u.2.2.2.2.2.2.2.2.1 u.2.2.2.2.2.2.2.2.2)) A) ([.ref h1] : List Value).toArray s 0 0 A) (F0 m 99 ls []) := by
    intro wnt2 far1 fbs1 hwn hfb d
    induction d with
    | zero =>
      intro frs3 i H locs ls hd hi g1 hP hD hS hl
      exfalso; omega
    | succ d ih =>
      intro frs3 i H locs ls hd hi g1 hP hD hS hl
      refine lv_iload_n hx hb dX2_collect_99 rfl (lv_at hl 2 rfl) ?_
      refine lv_aload_n hx hb dX2_collect_100 rfl (lv_at hl 0 rfl) ?_
      refine va_get (D := D) (ci := 2) (v := .int (nI n)) (C := RX2) (T := TX2) (N := 14) hx hb hts in_X2_collect_X2 hown hK hP 0 rfl rfl 1 (by decide) (hts (.fieldLink RX2 36 "OffsetHeapModel" "most" "I") (by decide +kernel)) (fun _ h9 => h9) rfl dX2_collect_101 ?_
      refine xk_icmp_gt (tgt := 120) hx hb (by omega) (by omega) dX2_collect_104 (by decide) (fun c104 => ?_) (fun c104 => ?_)
      · refine lv_aload_n hx hb dX2_collect_120 rfl (lv_at hl 0 rfl) ?_
        refine lv_iconst (v := nI 0) hx hb dX2_collect_121 (by decide +kernel) ?_
        refine va_put (D := D) (ci := 2) (v := .int (nI 0)) (ty := .int) (C := RX2) (T := TX2) (N := 14) hx hb hts in_X2_collect_X2 tyX2 tyX2_ok nmX2 hown hK hP hD hS 0 rfl rfl 4 (by decide) (hts (.fieldLink RX2 56 "OffsetHeapModel" "objects" "I") (by decide +kernel)) (fun _ h9 => h9) rfl (by decide +kernel) rfl rfl (Nat.le_of_ble_eq_true rfl) dX2_collect_122 (fun H locs hP hD hS => ?_)
        have hP : va_P D vwCl (mW cI cZ h1 am th n B tp 0 co lv wrd frs3 bgs fbs1 rts wnt2 far1) H := hP
        have hD : va_D A (mW cI cZ h1 am th n B tp 0 co lv wrd frs3 bgs fbs1 rts wnt2 far1) := hD
        refine lv_iconst (v := nI 1) hx hb dX2_collect_125 (by decide +kernel) ?_
        refine lv_istore_n (lv' := [(2, .int (nI 1)), (0, .ref h1), (1, .int (nI (1 + cn b (n + 1))))]) hx hb dX2_collect_126 rfl hl (by decide) rfl (fun ls hl => ?_)
        exact key4 wnt2 far1 hwn tp 0 frs3 fbs1 (fun _ => false) 1 H locs ls (by omega) (by omega) (by omega) hok.2.1 ⟨fun j hj hbj => (by rw [show j = 0 by omega, hz0] at hbj; cases hbj), fun j hj _ => g1 j (by omega)⟩ ⟨(cn_0 (fun i hi => by rw [show i = 0 by omega, hz0]; rfl)).symm, fun j hj => ⟨fun z => absurd (show false = true from z) (by decide), fun ⟨t, t1, t2, _⟩ => (by rw [show t = 0 by omega, hz0] at t2; cases t2)⟩⟩ hfb hP hD hS (lv_sub hl [1, 2, 0] rfl)
      · refine lv_aload_n hx hb dX2_collect_107 rfl (lv_at hl 0 rfl) ?_
        refine va_get (D := D) (ci := 2) (v := .ref (am 2)) (C := RX2) (T := TX2) (N := 14) hx hb hts in_X2_collect_X2 hown hK hP 0 rfl rfl 8 (by decide) (hts (.fieldLink RX2 17 "OffsetHeapModel" "fresh" "[I") (by decide +kernel)) (fun _ h9 => h9) rfl dX2_collect_108 ?_
        refine lv_iload_n hx hb dX2_collect_111 rfl (lv_at hl 2 rfl) ?_
        refine lv_iconst (v := nI 0) hx hb dX2_collect_112 (by decide +kernel) ?_
        refine xk_iast hx hb hK hP hD hS 2 0 rfl rfl (by omega) (by omega) dX2_collect_113 (fun H locs hP hD hS => ?_)
        have hP : va_P D vwCl (mW cI cZ h1 am th n B tp ob co lv wrd (upd frs3 i (nI 0)) bgs fbs1 rts wnt2 far1) H := hP
        have hD : va_D A (mW cI cZ h1 am th n B tp ob co lv wrd (upd frs3 i (nI 0)) bgs fbs1 rts wnt2 far1) := hD
        refine lv_iinc (v := nI (i + 1)) (lv' := [(2, .int (nI (i + 1))), (0, .ref h1), (1, .int (nI (1 + cn b (n + 1))))]) hx hb dX2_collect_114 hl (k := 2) rfl (xk_inc i) (by decide) rfl (fun ls hl => ?_)
        refine lv_goto (tgt := 99) hx hb dX2_collect_117 (by decide) ?_
        exact ih _ (i + 1) H locs ls (by omega) (by omega) (fl_s (v := fun _ => nI 0) g1) hP hD hS (lv_sub hl [1, 2, 0] rfl)
  have key2 : ∀ (far1 fbs1 : Nat → Int32) (F : Nat → Nat), (∀ a, a ≤ n → far1 a = nI (F a) ∧ F a ≤ 1000000) → (∀ o, o ≤ n → ∀ s, s < 1000000 → (F o ≤ s ↔ NR wrd rts s o)) → (∀ j, j ≤ n → fbs1 j = bI false) → ∀ (d : Nat) (wnt1 : Nat → Int32) (nx a : Nat) (H : Heap) (locs : List Loc) (ls : Array Slot), tp + 1 ≤ a + d → 1 ≤ a → a ≤ tp → (a < tp → st a = true) → WN n b wnt1 a nx → va_P D vwCl (mW cI cZ h1 am th n B tp ob co lv wrd frs bgs fbs1 rts wnt1 far1) H → va_D A (mW cI cZ h1 am th n B tp ob co lv wrd frs bgs fbs1 rts wnt1 far1) → va_S A s.heap H locs → lv_has ls 5 [(0, .ref h1), (1, .int (nI nx)), (2, .int (nI a))] → W p l e (headSpec wsX2_collect ({ frames := 3, cells := 0, slots := 0, locals := 90 })).room s m ([.ref h1] : List Value).toArray below meth c H locs 0 0 (MQ below (va_Qi (fun (r9 : Int32) (u : Nat × Nat × Nat × (Nat → Int32) × (Nat → Int32) × (Nat → Int32) × (Nat → Int32) × (Nat → Int32) × (Nat → Int32) × (Nat → Int32)) => ∃ b fst : Nat → Bool, (r9 = nI (cn b (n + 1)) ∧ u.1 = 1 + cn b (n + 1) ∧ u.2.2.1 = cn b (n + 1)) ∧ okL n wrd rts b ∧ (∀ a, a ≤ n → u.2.2.2.2.2.2.2.2.1 a = nI (if b a then 1 + cn b a else 0)) ∧ CP n tp wrd st b u.2.2.2.1 fst (cn b tp) u.2.1 tp ∧ (∀ j, j ≤ n → u.2.2.2.2.2.1 j = bI (fst j)) ∧ ∀ j, j < 8 → u.2.2.2.2.2.2.2.1 j = nI (if tn (rts j) = 0 then 0 else 1 + cn b (tn (rts j)))) (fun (u : Nat × Nat × Nat × (Nat → Int32) × (Nat → Int32) × (Nat → Int32) × (Nat → Int32) × (Nat → Int32) × (Nat → Int32) × (Nat → Int32)) t => va_P D vwCl (mW cI cZ h1 am th n B u.1 u.2.1 (co + 1) u.2.2.1 u.2.2.2.1 u.2.2.2.2.1 u.2.2.2.2.2.1 u.2.2.2.2.2.2.1 u.2.2.2.2.2.2.2.1 u.2.2.2.2.2.2.2.2.1 u.2.2.2.2.2.2.2.2.2) t.heap ∧ va_D A (mW cI cZ h1 am th n B u.1 u.2.1 (co + 1) u.2.2.1 u.2.2.2.1 u.2.2.2.2.1 u.2.2.2.2.2.1 u.2.2.2.2.2.2.1 u.2.2.2.2.2.2.2.1 u.2.2.2.2.2.2.2.2.1 u.2.2.2.2.2.2.2.2.2)) A) ([.ref h1] : List Value).toArray s 0 0 A) (F0 m 38 ls []) := by
    intro far1 fbs1 F hF1 hF2 hfb d
    induction d with
    | zero =>
      intro wnt1 nx a H locs ls hd ha1 ha2 haS hw1 hP hD hS hl
      exfalso; omega
    | succ d ihA =>
      intro wnt1 nx a H locs ls hd ha1 ha2 haS hw1 hP hD hS hl
      refine lv_iload_n hx hb dX2_collect_38 rfl (lv_at hl 2 rfl) ?_
      refine lv_aload_n hx hb dX2_collect_39 rfl (lv_at hl 0 rfl) ?_
      refine va_get (D := D) (ci := 2) (v := .int (nI tp)) (C := RX2) (T := TX2) (N := 14) hx hb hts in_X2_collect_X2 hown hK hP 0 rfl rfl 3 (by decide) (hts (.fieldLink RX2 7 "OffsetHeapModel" "top" "I") (by decide +kernel)) (fun _ h9 => h9) rfl dX2_collect_40 ?_
      refine xk_icmp_ge (tgt := 97) hx hb (by omega) (by omega) dX2_collect_43 (by decide) (fun c43 => ?_) (fun c43 => ?_)
      · refine lv_iconst (v := nI 0) hx hb dX2_collect_97 (by decide +kernel) ?_
        refine lv_istore_n (lv' := [(2, .int (nI 0)), (0, .ref h1), (1, .int (nI nx))]) hx hb dX2_collect_98 rfl hl (by decide) rfl (fun ls hl => ?_)
        have hae : a = tp := by omega
        rw [hae] at hw1
        obtain ⟨hwn, enx⟩ := wn_end hw1 (fun j hj hbj => hL.tp hok hj hbj) htp
        rw [enx] at hl
        exact key3 wnt1 far1 fbs1 hwn hfb (n + 2) frs 0 H locs ls (by omega) (by omega) (fun j hj => absurd hj (Nat.not_lt_zero j)) hP hD hS (lv_sub hl [1, 2, 0] rfl)
      · have ha3 := haS c43
        have hh := hok.hdr ha1 c43 ha3
        have hs := hok.hsm ha1 c43 ha3
        have hf := hok.fit ha1 c43 ha3
        unfold siz at hf
        have hcb := cn_le b a
        have f1 := (hF1 a (by omega)).2
        have hlv := mf_live hok (F := F) (o := a) (hF2 a (by omega))
        have hlb := hL.obj hok ha1 c43 ha3 (Nat.le_refl a) (by have := siz_pos wrd a; omega)
        refine lv_iconst (v := nI 0) hx hb dX2_collect_46 (by decide +kernel) ?_
        refine lv_istore_n (lv' := [(3, .int (nI 0)), (0, .ref h1), (1, .int (nI nx)), (2, .int (nI a))]) hx hb dX2_collect_47 rfl hl (by decide) rfl (fun ls hl => ?_)
        by_cases hq : F a < 1000000
        · have hba : b a = true := hlb.mpr (hlv.mp hq)
          have keyK : ∀ (eK : Nat) (wnt3 : Nat → Int32) (ny i : Nat) (H : Heap) (locs : List Loc) (ls : Array Slot), 1 + tn (wrd a) / 16 % 16 + tn (wrd a) / 256 + 1 ≤ i + eK → i ≤ 1 + tn (wrd a) / 16 % 16 + tn (wrd a) / 256 → WN n b wnt3 (a + i) ny → va_P D vwCl (mW cI cZ h1 am th n B tp ob co lv wrd frs bgs fbs1 rts wnt3 far1) H → va_D A (mW cI cZ h1 am th n B tp ob co lv wrd frs bgs fbs1 rts wnt3 far1) → va_S A s.heap H locs → lv_has ls 5 [(0, .ref h1), (1, .int (nI ny)), (2, .int (nI a)), (3, .int (nI i))] → W p l e (headSpec wsX2_collect ({ frames := 3, cells := 0, slots := 0, locals := 90 })).room s m ([.ref h1] : List Value).toArray below meth c H locs 0 0 (MQ below (va_Qi (fun (r9 : Int32) (u : Nat × Nat × Nat × (Nat → Int32) × (Nat → Int32) × (Nat → Int32) × (Nat → Int32) × (Nat → Int32) × (Nat → Int32) × (Nat → Int32)) => ∃ b fst : Nat → Bool, (r9 = nI (cn b (n + 1)) ∧ u.1 = 1 + cn b (n + 1) ∧ u.2.2.1 = cn b (n + 1)) ∧ okL n wrd rts b ∧ (∀ a, a ≤ n → u.2.2.2.2.2.2.2.2.1 a = nI (if b a then 1 + cn b a else 0)) ∧ CP n tp wrd st b u.2.2.2.1 fst (cn b tp) u.2.1 tp ∧ (∀ j, j ≤ n → u.2.2.2.2.2.1 j = bI (fst j)) ∧ ∀ j, j < 8 → u.2.2.2.2.2.2.2.1 j = nI (if tn (rts j) = 0 then 0 else 1 + cn b (tn (rts j)))) (fun (u : Nat × Nat × Nat × (Nat → Int32) × (Nat → Int32) × (Nat → Int32) × (Nat → Int32) × (Nat → Int32) × (Nat → Int32) × (Nat → Int32)) t => va_P D vwCl (mW cI cZ h1 am th n B u.1 u.2.1 (co + 1) u.2.2.1 u.2.2.2.1 u.2.2.2.2.1 u.2.2.2.2.2.1 u.2.2.2.2.2.2.1 u.2.2.2.2.2.2.2.1 u.2.2.2.2.2.2.2.2.1 u.2.2.2.2.2.2.2.2.2) t.heap ∧ va_D A (mW cI cZ h1 am th n B u.1 u.2.1 (co + 1) u.2.2.1 u.2.2.2.1 u.2.2.2.2.1 u.2.2.2.2.2.1 u.2.2.2.2.2.2.1 u.2.2.2.2.2.2.2.1 u.2.2.2.2.2.2.2.2.1 u.2.2.2.2.2.2.2.2.2)) A) ([.ref h1] : List Value).toArray s 0 0 A) (F0 m 48 ls []) := by
            intro eK
            induction eK with
            | zero =>
              intro wnt3 ny i H locs ls he hi hw3 hP hD hS hl
              exfalso; omega
            | succ eK ihK =>
              intro wnt3 ny i H locs ls he hi hw3 hP hD hS hl
              refine lv_iload_n hx hb dX2_collect_48 rfl (lv_at hl 3 rfl) ?_
              refine lv_aload_n hx hb dX2_collect_49 rfl (lv_at hl 0 rfl) ?_
              refine lv_iload_n hx hb dX2_collect_50 rfl (lv_at hl 2 rfl) ?_
              refine xk_roV (As := [.int (nI a)]) (rest := [.int (nI i)]) ⟨hx, hb, hml, hown, hts⟩ (c_mlength l D cI cZ h1 am th n B tp ob co lv wrd frs bgs fbs1 rts wnt3 far1 a (by omega) hh (by omega)) (cwV 1 hts gX2_collect_X2_length rfl rfl rfl (by decide +kernel) ⟨Nat.le_of_ble_eq_true rfl, Nat.le_of_ble_eq_true rfl⟩) (va_recv hK hP (ci := 2) (q0 := 0) rfl rfl) hP hK rfl hl.1 rfl (Nat.le_of_ble_eq_true rfl) dX2_collect_51 ⟨Nat.zero_le _, Nat.zero_le _⟩ ?_
              refine xk_icmp_ge (tgt := 86) hx hb (by omega) (by omega) dX2_collect_54 (by decide) (fun c54 => ?_) (fun c54 => ?_)
              · refine lv_iload_n hx hb dX2_collect_86 rfl (lv_at hl 2 rfl) ?_
                refine lv_aload_n hx hb dX2_collect_87 rfl (lv_at hl 0 rfl) ?_
                refine lv_iload_n hx hb dX2_collect_88 rfl (lv_at hl 2 rfl) ?_
                refine xk_roV (As := [.int (nI a)]) (rest := [.int (nI a)]) ⟨hx, hb, hml, hown, hts⟩ (c_mlength l D cI cZ h1 am th n B tp ob co lv wrd frs bgs fbs1 rts wnt3 far1 a (by omega) hh (by omega)) (cwV 1 hts gX2_collect_X2_length rfl rfl rfl (by decide +kernel) ⟨Nat.le_of_ble_eq_true rfl, Nat.le_of_ble_eq_true rfl⟩) (va_recv hK hP (ci := 2) (q0 := 0) rfl rfl) hP hK rfl hl.1 rfl (Nat.le_of_ble_eq_true rfl) dX2_collect_89 ⟨Nat.zero_le _, Nat.zero_le _⟩ ?_
                refine lv_iadd hx hb dX2_collect_92 ?_
                refine xk_top (nI_add _ _) ?_
                refine lv_istore_n (lv' := [(2, .int (nI (a + (1 + tn (wrd a) / 16 % 16 + tn (wrd a) / 256)))), (0, .ref h1), (1, .int (nI ny)), (3, .int (nI i))]) hx hb dX2_collect_93 rfl hl (by decide) rfl (fun ls hl => ?_)
                refine lv_goto (tgt := 38) hx hb dX2_collect_94 (by decide) ?_
                have hie : a + i = a + siz wrd a := by unfold siz; omega
                rw [hie] at hw3
                exact ihA wnt3 ny (a + siz wrd a) H locs ls (by have := siz_pos wrd a; omega) (by omega) (hok.fit ha1 c43 ha3) (hok.next ha1 c43 ha3) hw3 hP hD hS (lv_sub hl [1, 2, 0] rfl)
              · have hbi : b (a + i) = true := lv_live hL hok ha1 c43 ha3 hba (a + i) (by omega) (by unfold siz; omega)
                refine lv_aload_n hx hb dX2_collect_57 rfl (lv_at hl 0 rfl) ?_
                refine va_get (D := D) (ci := 2) (v := .ref (am 7)) (C := RX2) (T := TX2) (N := 14) hx hb hts in_X2_collect_X2 hown hK hP 0 rfl rfl 13 (by decide) (hts (.fieldLink RX2 33 "OffsetHeapModel" "far" "[I") (by decide +kernel)) (fun _ h9 => h9) rfl dX2_collect_58 ?_
                refine lv_iload_n hx hb dX2_collect_61 rfl (lv_at hl 2 rfl) ?_
                refine xk_iald hx hb hK hP 7 0 rfl rfl (by omega) (by omega) dX2_collect_62 ?_
                refine xk_top ((hF1 a (by omega)).1) ?_
                refine lv_ldc (v := nI 1000000) hx hb hown (hts (.constant RX2 66 (1000000)) (by decide +kernel)) dX2_collect_63 ?_
                refine xk_icmp_ge (tgt := 86) hx hb (by omega) (by omega) dX2_collect_65 (by decide) (fun c65 => by exfalso; omega) (fun c65 => ?_)
                refine lv_aload_n hx hb dX2_collect_68 rfl (lv_at hl 0 rfl) ?_
                refine va_get (D := D) (ci := 2) (v := .ref (am 6)) (C := RX2) (T := TX2) (N := 14) hx hb hts in_X2_collect_X2 hown hK hP 0 rfl rfl 12 (by decide) (hts (.fieldLink RX2 30 "OffsetHeapModel" "went" "[I") (by decide +kernel)) (fun _ h9 => h9) rfl dX2_collect_69 ?_
                refine lv_iload_n hx hb dX2_collect_72 rfl (lv_at hl 2 rfl) ?_
                refine lv_iload_n hx hb dX2_collect_73 rfl (lv_at hl 3 rfl) ?_
                refine lv_iadd hx hb dX2_collect_74 ?_
                refine xk_top (nI_add _ _) ?_
                refine lv_iload_n hx hb dX2_collect_75 rfl (lv_at hl 1 rfl) ?_
                refine xk_iast hx hb hK hP hD hS 6 0 rfl rfl (by omega) (by omega) dX2_collect_76 (fun H locs hP hD hS => ?_)
                have hP : va_P D vwCl (mW cI cZ h1 am th n B tp ob co lv wrd frs bgs fbs1 rts (upd wnt3 (a + i) (nI ny)) far1) H := hP
                have hD : va_D A (mW cI cZ h1 am th n B tp ob co lv wrd frs bgs fbs1 rts (upd wnt3 (a + i) (nI ny)) far1) := hD
                refine lv_iinc (v := nI (ny + 1)) (lv' := [(1, .int (nI (ny + 1))), (0, .ref h1), (2, .int (nI a)), (3, .int (nI i))]) hx hb dX2_collect_77 hl (k := 1) rfl (xk_inc ny) (by decide) rfl (fun ls hl => ?_)
                refine lv_iinc (v := nI (i + 1)) (lv' := [(3, .int (nI (i + 1))), (1, .int (nI (ny + 1))), (0, .ref h1), (2, .int (nI a))]) hx hb dX2_collect_80 hl (k := 3) rfl (xk_inc i) (by decide) rfl (fun ls hl => ?_)
                refine lv_goto (tgt := 48) hx hb dX2_collect_83 (by decide) ?_
                exact ihK _ _ (i + 1) H locs ls (by omega) (by omega) (wn_live hw3 hbi) hP hD hS (lv_sub hl [2, 1, 3, 0] rfl)
          exact keyK 300 wnt1 nx 0 H locs ls (by omega) (by omega) hw1 hP hD hS (lv_sub hl [1, 2, 3, 0] rfl)
        · have hba : b a = false := by cases z : b a with
            | false => rfl
            | true => exact absurd (hlv.mpr (hlb.mp z)) hq
          refine lv_iload_n hx hb dX2_collect_48 rfl (lv_at hl 0 rfl) ?_
          refine lv_aload_n hx hb dX2_collect_49 rfl (lv_at hl 1 rfl) ?_
          refine lv_iload_n hx hb dX2_collect_50 rfl (lv_at hl 3 rfl) ?_
          refine xk_roV (As := [.int (nI a)]) (rest := [.int (nI 0)]) ⟨hx, hb, hml, hown, hts⟩ (c_mlength l D cI cZ h1 am th n B tp ob co lv wrd frs bgs fbs1 rts wnt1 far1 a (by omega) hh (by omega)) (cwV 1 hts gX2_collect_X2_length rfl rfl rfl (by decide +kernel) ⟨Nat.le_of_ble_eq_true rfl, Nat.le_of_ble_eq_true rfl⟩) (va_recv hK hP (ci := 2) (q0 := 0) rfl rfl) hP hK rfl hl.1 rfl (Nat.le_of_ble_eq_true rfl) dX2_collect_51 ⟨Nat.zero_le _, Nat.zero_le _⟩ ?_
          refine xk_icmp_ge (tgt := 86) hx hb (by omega) (by omega) dX2_collect_54 (by decide) (fun c54 => by exfalso; omega) (fun c54 => ?_)
          refine lv_aload_n hx hb dX2_collect_57 rfl (lv_at hl 1 rfl) ?_
          refine va_get (D := D) (ci := 2) (v := .ref (am 7)) (C := RX2) (T := TX2) (N := 14) hx hb hts in_X2_collect_X2 hown hK hP 0 rfl rfl 13 (by decide) (hts (.fieldLink RX2 33 "OffsetHeapModel" "far" "[I") (by decide +kernel)) (fun _ h9 => h9) rfl dX2_collect_58 ?_
          refine lv_iload_n hx hb dX2_collect_61 rfl (lv_at hl 3 rfl) ?_
          refine xk_iald hx hb hK hP 7 0 rfl rfl (by omega) (by omega) dX2_collect_62 ?_
          refine xk_top ((hF1 a (by omega)).1) ?_
          refine lv_ldc (v := nI 1000000) hx hb hown (hts (.constant RX2 66 (1000000)) (by decide +kernel)) dX2_collect_63 ?_
          refine xk_icmp_ge (tgt := 86) hx hb (by omega) (by omega) dX2_collect_65 (by decide) (fun c65 => ?_) (fun c65 => by exfalso; omega)
          refine lv_iload_n hx hb dX2_collect_86 rfl (lv_at hl 3 rfl) ?_
          refine lv_aload_n hx hb dX2_collect_87 rfl (lv_at hl 1 rfl) ?_
          refine lv_iload_n hx hb dX2_collect_88 rfl (lv_at hl 3 rfl) ?_
          refine xk_roV (As := [.int (nI a)]) (rest := [.int (nI a)]) ⟨hx, hb, hml, hown, hts⟩ (c_mlength l D cI cZ h1 am th n B tp ob co lv wrd frs bgs fbs1 rts wnt1 far1 a (by omega) hh (by omega)) (cwV 1 hts gX2_collect_X2_length rfl rfl rfl (by decide +kernel) ⟨Nat.le_of_ble_eq_true rfl, Nat.le_of_ble_eq_true rfl⟩) (va_recv hK hP (ci := 2) (q0 := 0) rfl rfl) hP hK rfl hl.1 rfl (Nat.le_of_ble_eq_true rfl) dX2_collect_89 ⟨Nat.zero_le _, Nat.zero_le _⟩ ?_
          refine lv_iadd hx hb dX2_collect_92 ?_
          refine xk_top (nI_add _ _) ?_
          refine lv_istore_n (lv' := [(2, .int (nI (a + (1 + tn (wrd a) / 16 % 16 + tn (wrd a) / 256)))), (3, .int (nI 0)), (0, .ref h1), (1, .int (nI nx))]) hx hb dX2_collect_93 rfl hl (by decide) rfl (fun ls hl => ?_)
          refine lv_goto (tgt := 38) hx hb dX2_collect_94 (by decide) ?_
          exact ihA wnt1 nx (a + siz wrd a) H locs ls (by have := siz_pos wrd a; omega) (by omega) (hok.fit ha1 c43 ha3) (hok.next ha1 c43 ha3) (wn_gap hw1 (lv_dead hL hok ha1 c43 ha3 hba)) hP hD hS (lv_sub hl [2, 3, 0] rfl)
  refine lv_aload_n hx hb dX2_collect_0 rfl (lv_at hl 0 rfl) ?_
  refine xk_aftv (wr := []) (ws' := fun u => mW cI cZ h1 am th n B tp ob co lv wrd frs bgs fbs rts wnt u) (va_runV (As := []) (rest := []) ⟨hx, hb, hml, hown, hts⟩ (c_mmeasure l D cI cZ h1 am th n B tp ob co lv wrd frs bgs fbs rts wnt far s.heap.size st hok) (cwV 0 hts gX2_collect_X2_measure rfl rfl rfl (by decide +kernel) ⟨Nat.le_of_ble_eq_true rfl, Nat.le_of_ble_eq_true rfl⟩) (xk_preV (va_recv hK hP (ci := 2) (q0 := 0) rfl rfl) rfl hP hK (hD.weaken (fun _ _ _ _ => trivial))) rfl rfl hl.1 rfl (lv_room (Nat.le_of_ble_eq_true rfl)) dX2_collect_1 ⟨Nat.zero_le _, Nat.zero_le _⟩) hP hD hS hA [0, 1, 2, 3, 4, 5, 6, 7] [] [0, 1, 2, 3, 4, 5, 6, 7] rfl rfl (by decide) (by decide) (fun _ => rfl) (by decide) (fun u H locs hpost hP hD hS => ?_)
  obtain ⟨far1, efar1⟩ : ∃ z, z = u := ⟨_, rfl⟩
  rw [← efar1] at hP hD hpost
  obtain ⟨F, hF1, hF2⟩ := hpost
  have hP : va_P D vwCl (mW cI cZ h1 am th n B tp ob co lv wrd frs bgs fbs rts wnt far1) H := hP
  have hD : va_D A (mW cI cZ h1 am th n B tp ob co lv wrd frs bgs fbs rts wnt far1) := hD
  refine lv_iconst (v := nI 1) hx hb dX2_collect_4 (by decide +kernel) ?_
  refine lv_istore_n (lv' := [(1, .int (nI 1)), (0, .ref h1)]) hx hb dX2_collect_5 rfl hl (by decide) rfl (fun ls hl => ?_)
  have key1 : ∀ (d : Nat) (wnt1 fbs1 : Nat → Int32) (i : Nat) (H : Heap) (locs : List Loc) (ls : Array Slot), n + 2 ≤ i + d → i ≤ n + 1 → (∀ j, j < i → wnt1 j = nI 0) → (∀ j, j < i → fbs1 j = bI false) → va_P D vwCl (mW cI cZ h1 am th n B tp ob co lv wrd frs bgs fbs1 rts wnt1 far1) H → va_D A (mW cI cZ h1 am th n B tp ob co lv wrd frs bgs fbs1 rts wnt1 far1) → va_S A s.heap H locs → lv_has ls 5 [(0, .ref h1), (1, .int (nI 1)), (2, .int (nI i))] → W p l e (headSpec wsX2_collect ({ frames := 3, cells := 0, slots := 0, locals := 90 })).room s m ([.ref h1] : List Value).toArray below meth c H locs 0 0 (MQ below (va_Qi (fun (r9 : Int32) (u : Nat × Nat × Nat × (Nat → Int32) × (Nat → Int32) × (Nat → Int32) × (Nat → Int32) × (Nat → Int32) × (Nat → Int32) × (Nat → Int32)) => ∃ b fst : Nat → Bool, (r9 = nI (cn b (n + 1)) ∧ u.1 = 1 + cn b (n + 1) ∧ u.2.2.1 = cn b (n + 1)) ∧ okL n wrd rts b ∧ (∀ a, a ≤ n → u.2.2.2.2.2.2.2.2.1 a = nI (if b a then 1 + cn b a else 0)) ∧ CP n tp wrd st b u.2.2.2.1 fst (cn b tp) u.2.1 tp ∧ (∀ j, j ≤ n → u.2.2.2.2.2.1 j = bI (fst j)) ∧ ∀ j, j < 8 → u.2.2.2.2.2.2.2.1 j = nI (if tn (rts j) = 0 then 0 else 1 + cn b (tn (rts j)))) (fun (u : Nat × Nat × Nat × (Nat → Int32) × (Nat → Int32) × (Nat → Int32) × (Nat → Int32) × (Nat → Int32) × (Nat → Int32) × (Nat → Int32)) t => va_P D vwCl (mW cI cZ h1 am th n B u.1 u.2.1 (co + 1) u.2.2.1 u.2.2.2.1 u.2.2.2.2.1 u.2.2.2.2.2.1 u.2.2.2.2.2.2.1 u.2.2.2.2.2.2.2.1 u.2.2.2.2.2.2.2.2.1 u.2.2.2.2.2.2.2.2.2) t.heap ∧ va_D A (mW cI cZ h1 am th n B u.1 u.2.1 (co + 1) u.2.2.1 u.2.2.2.1 u.2.2.2.2.1 u.2.2.2.2.2.1 u.2.2.2.2.2.2.1 u.2.2.2.2.2.2.2.1 u.2.2.2.2.2.2.2.2.1 u.2.2.2.2.2.2.2.2.2)) A) ([.ref h1] : List Value).toArray s 0 0 A) (F0 m 8 ls []) := by
    intro d
    induction d with
    | zero =>
      intro wnt1 fbs1 i H locs ls hd hi g1 g2 hP hD hS hl
      exfalso; omega
    | succ d ih =>
      intro wnt1 fbs1 i H locs ls hd hi g1 g2 hP hD hS hl
      refine lv_iload_n hx hb dX2_collect_8 rfl (lv_at hl 2 rfl) ?_
      refine lv_aload_n hx hb dX2_collect_9 rfl (lv_at hl 0 rfl) ?_
      refine va_get (D := D) (ci := 2) (v := .int (nI n)) (C := RX2) (T := TX2) (N := 14) hx hb hts in_X2_collect_X2 hown hK hP 0 rfl rfl 1 (by decide) (hts (.fieldLink RX2 36 "OffsetHeapModel" "most" "I") (by decide +kernel)) (fun _ h9 => h9) rfl dX2_collect_10 ?_
      refine xk_icmp_gt (tgt := 36) hx hb (by omega) (by omega) dX2_collect_13 (by decide) (fun c13 => ?_) (fun c13 => ?_)
      · refine lv_iconst (v := nI 1) hx hb dX2_collect_36 (by decide +kernel) ?_
        refine lv_istore_n (lv' := [(2, .int (nI 1)), (0, .ref h1), (1, .int (nI 1))]) hx hb dX2_collect_37 rfl hl (by decide) rfl (fun ls hl => ?_)
        exact key2 far1 fbs1 F hF1 hF2 (fun j hj => g2 j (by omega)) tp wnt1 1 1 H locs ls (by omega) (by omega) (by omega) hok.2.1 ⟨fun j hj hjn => by rw [show j = 0 by omega, hz0]; exact g1 0 (by omega), fun j _ hjn => g1 j (by omega), by rw [cn_f hz0]; rfl⟩ hP hD hS (lv_sub hl [1, 2, 0] rfl)
      · refine lv_aload_n hx hb dX2_collect_16 rfl (lv_at hl 0 rfl) ?_
        refine va_get (D := D) (ci := 2) (v := .ref (am 6)) (C := RX2) (T := TX2) (N := 14) hx hb hts in_X2_collect_X2 hown hK hP 0 rfl rfl 12 (by decide) (hts (.fieldLink RX2 30 "OffsetHeapModel" "went" "[I") (by decide +kernel)) (fun _ h9 => h9) rfl dX2_collect_17 ?_
        refine lv_iload_n hx hb dX2_collect_20 rfl (lv_at hl 2 rfl) ?_
        refine lv_iconst (v := nI 0) hx hb dX2_collect_21 (by decide +kernel) ?_
        refine xk_iast hx hb hK hP hD hS 6 0 rfl rfl (by omega) (by omega) dX2_collect_22 (fun H locs hP hD hS => ?_)
        have hP : va_P D vwCl (mW cI cZ h1 am th n B tp ob co lv wrd frs bgs fbs1 rts (upd wnt1 i (nI 0)) far1) H := hP
        have hD : va_D A (mW cI cZ h1 am th n B tp ob co lv wrd frs bgs fbs1 rts (upd wnt1 i (nI 0)) far1) := hD
        refine lv_aload_n hx hb dX2_collect_23 rfl (lv_at hl 0 rfl) ?_
        refine va_get (D := D) (ci := 2) (v := .ref (am 4)) (C := RX2) (T := TX2) (N := 14) hx hb hts in_X2_collect_X2 hown hK hP 0 rfl rfl 10 (by decide) (hts (.fieldLink RX2 24 "OffsetHeapModel" "freshBegins" "[Z") (by decide +kernel)) (fun _ h9 => h9) rfl dX2_collect_24 ?_
        refine lv_iload_n hx hb dX2_collect_27 rfl (lv_at hl 2 rfl) ?_
        refine lv_iconst (v := nI 0) hx hb dX2_collect_28 (by decide +kernel) ?_
        refine xk_zast (z := false) hx hb hK hP hD hS 4 1 rfl rfl (by omega) (by omega) dX2_collect_29 (fun H locs hP hD hS => ?_)
        have hP : va_P D vwCl (mW cI cZ h1 am th n B tp ob co lv wrd frs bgs (upd fbs1 i (bI false)) rts (upd wnt1 i (nI 0)) far1) H := hP
        have hD : va_D A (mW cI cZ h1 am th n B tp ob co lv wrd frs bgs (upd fbs1 i (bI false)) rts (upd wnt1 i (nI 0)) far1) := hD
        refine lv_iinc (v := nI (i + 1)) (lv' := [(2, .int (nI (i + 1))), (0, .ref h1), (1, .int (nI 1))]) hx hb dX2_collect_30 hl (k := 2) rfl (xk_inc i) (by decide) rfl (fun ls hl => ?_)
        refine lv_goto (tgt := 8) hx hb dX2_collect_33 (by decide) ?_
        exact ih _ _ (i + 1) H locs ls (by omega) (by omega) (fl_s (v := fun _ => nI 0) g1) (fl_s (v := fun _ => bI false) g2) hP hD hS (lv_sub hl [1, 2, 0] rfl)
  refine lv_iconst (v := nI 0) hx hb dX2_collect_6 (by decide +kernel) ?_
  refine lv_istore_n (lv' := [(2, .int (nI 0)), (1, .int (nI 1)), (0, .ref h1)]) hx hb dX2_collect_7 rfl hl (by decide) rfl (fun ls hl => ?_)
  exact key1 (n + 2) wnt fbs 0 H locs ls (by omega) (by omega) (fun j hj => absurd hj (Nat.not_lt_zero j)) (fun j hj => absurd hj (Nat.not_lt_zero j)) hP hD hS (lv_sub hl [2, 1, 0] rfl)
