/-! the reference: measure, near, sound -/
theorem pi_sm {n : Nat} {mem : Nat → Int32} {st : Nat → Bool} {F0 F : Nat → Nat} {M : Bool} {a k d : Nat} (h : PI n mem st F0 F M a k) (hd : sm F0 (n + 1) + 2 ≤ d + 1) : sm F (n + 1) + M.toNat + 1 ≤ d := by
  rcases h with ⟨m0, e, _⟩ | ⟨m1, h⟩
  · rw [m0, e]; show sm F0 (n + 1) + 0 + 1 ≤ d; omega
  · rw [m1]; show sm F (n + 1) + 1 + 1 ≤ d; omega
theorem pi_sb {n : Nat} {mem : Nat → Int32} {st : Nat → Bool} {F0 F : Nat → Nat} {M : Bool} {a k : Nat} (h : PI n mem st F0 F M a k) : M = false → SB mem st F a := by
  intro z
  rcases h with w | w
  · exact w.2.2.1
  · rw [w.1] at z; cases z
theorem FR_0 {n i : Nat} {far : Nat → Int32} (h : ∀ a, a < i → far a = nI 1000000) : ∀ a, a < i + 1 → upd far i (nI 1000000) a = nI 1000000 := by
  intro a ha
  by_cases q : a = i
  · rw [q]; exact pk_us
  · rw [pk_un q]; exact h a (by omega)
theorem nr_gap {n tp : Nat} {mem : Nat → Int32} {st : Nat → Bool} {rt : Nat → Int32} (hok : okS n tp mem st rt) {b : Nat → Bool} (hb : ∀ y, b y = true → 1 ≤ y ∧ y < tp ∧ st y = true) {a : Nat} (h1 : 1 ≤ a) (h2 : a < tp) (h3 : st a = true) : cn b (a + siz mem a) = cn b (a + 1) := by
  have e : a + siz mem a = (a + 1) + (siz mem a - 1) := by have := siz_pos mem a; omega
  rw [e]
  refine cn_gap0 (fun j j1 j2 => ?_)
  cases z : b j with
  | false => rfl
  | true =>
    have q := hok.gap h1 h2 h3 (j := j) (by omega) (by omega)
    rw [(hb j z).2.2] at q; cases q
theorem nr_end {n tp : Nat} {mem : Nat → Int32} {st : Nat → Bool} {rt : Nat → Int32} (hok : okS n tp mem st rt) {b : Nat → Bool} (hb : ∀ y, b y = true → 1 ≤ y ∧ y < tp ∧ st y = true) : cn b (n + 1) = cn b tp := by
  have htp := hok.1.2.1
  have e : n + 1 = tp + (n + 1 - tp) := by omega
  rw [e]
  refine cn_gap0 (fun j j1 j2 => ?_)
  cases z : b j with
  | false => rfl
  | true => have := hb j z; omega
theorem in_X2_measure_X2 : ∀ w ∈ wsX20, w ∈ wsX2_measure := by decide +kernel
theorem in_X2_near_X2 : ∀ w ∈ wsX20, w ∈ wsX2_near := by decide +kernel
theorem in_X2_sound_X2 : ∀ w ∈ wsX20, w ∈ wsX2_sound := by decide +kernel
set_option maxHeartbeats 4000000 in
set_option maxRecDepth 100000 in
/-- measure -/
theorem c_mmeasure (l : Launch) (D : va_G) (cI cZ : ClassId) (h1 : Nat) (am : Nat → Nat) (th n B tp ob co lv : Nat) (wrd frs bgs fbs rts wnt far : Nat → Int32) (sz : Nat) (st : Nat → Bool) (hok : okS n tp wrd st rts) : Met l yX2_measure wsX2_measure ({ frames := 2, cells := 0, slots := 0, locals := 60 }) (va_Pc [.ref h1] (fun U => U.heap.size = sz ∧ va_P D vwCl (mW cI cZ h1 am th n B tp ob co lv wrd frs bgs fbs rts wnt far) U.heap ∧ va_K D vwCl [(cI, .int), (cZ, .boolean)] U ∧ va_D (fun _ => True) (mW cI cZ h1 am th n B tp ob co lv wrd frs bgs fbs rts wnt far))) (va_Qv (fun (u : Nat → Int32) => MF n tp wrd st rts u) (fun (u : Nat → Int32) t => va_P D vwCl (mW cI cZ h1 am th n B tp ob co lv wrd frs bgs fbs rts wnt u) t.heap ∧ va_D (va_A (mW cI cZ h1 am th n B tp ob co lv wrd frs bgs fbs rts wnt far) sz) (mW cI cZ h1 am th n B tp ob co lv wrd frs bgs fbs rts wnt u)) (va_A (mW cI cZ h1 am th n B tp ob co lv wrd frs bgs fbs rts wnt far) sz)) 0 0 (va_A (mW cI cZ h1 am th n B tp ob co lv wrd frs bgs fbs rts wnt far) sz) := by
  refine Met.ofW (cc := cX2_measure) (maxL := 5) (ret := none) (by decide) rfl ?_
  intro p e s m args below meth c s₁ B9 hml hv
  obtain ⟨rfl, hsz, hP, hK, hD0⟩ := hv
  have hx := B9.exec
  have hb := B9.bytes
  have hr := B9.returns
  have hts := atoms_spec (ws := wsX2_measure) B9.pre
  have hown : s.vm.findClass RX2 = some m.cls := findClass_of_methodNamed B9.named
  have hlocks := B9.notSynchronized
  subst hsz
  have hD := hD0.self (sz := s.heap.size)
  generalize hAe : va_A (mW cI cZ h1 am th n B tp ob co lv wrd frs bgs fbs rts wnt far) s.heap.size = A at hD ⊢
  have hA : ∀ q : Nat, s.heap.size ≤ q → A q := fun q h => by rw [← hAe]; exact Or.inr h
  have hS : va_S A s.heap s.heap [] := va_S.rf
  have hl := lv_entry ([.ref h1]) (n := 5) (Nat.le_of_ble_eq_true rfl)
  rw [lg_entry_eq]
  generalize (lg_sl ([.ref h1]) ++ List.replicate (5 - (lg_sl ([.ref h1])).length) Slot.unset).toArray = ls at hl ⊢
  have hl : lv_has ls 5 [(0, .ref h1)] := hl
  have htp := hok.1.2.1
  have hn := hok.1.2.2
  have htp1 := hok.1.1
  have keyW : ∀ (d : Nat) (far1 : Nat → Int32) (F : Nat → Nat) (M : Bool) (H : Heap) (locs : List Loc) (ls : Array Slot), sm F (n + 1) + M.toNat + 1 ≤ d → FR n far1 F → FS n wrd rts F → (M = false → SB wrd st F tp) → va_P D vwCl (mW cI cZ h1 am th n B tp ob co lv wrd frs bgs fbs rts wnt far1) H → va_D A (mW cI cZ h1 am th n B tp ob co lv wrd frs bgs fbs rts wnt far1) → va_S A s.heap H locs → lv_has ls 5 [(0, .ref h1), (1, .int (bI M))] → W p l e (headSpec wsX2_measure ({ frames := 2, cells := 0, slots := 0, locals := 60 })).room s m ([.ref h1] : List Value).toArray below meth c H locs 0 0 (MQ below (va_Qv (fun (u : Nat → Int32) => MF n tp wrd st rts u) (fun (u : Nat → Int32) t => va_P D vwCl (mW cI cZ h1 am th n B tp ob co lv wrd frs bgs fbs rts wnt u) t.heap ∧ va_D A (mW cI cZ h1 am th n B tp ob co lv wrd frs bgs fbs rts wnt u)) A) ([.ref h1] : List Value).toArray s 0 0 A) (F0 m 61 ls []) := by
    intro d
    induction d with
    | zero =>
      intro far1 F M H locs ls hd hFR hFS hSB hP hD hS hl
      exfalso; omega
    | succ d ihW =>
      intro far1 F M H locs ls hd hFR hFS hSB hP hD hS hl
      refine lv_iload_n hx hb dX2_measure_61 rfl (lv_at hl 1 rfl) ?_
      refine xk_if_eqB (tgt := 160) hx hb dX2_measure_62 (by decide) (fun c62 => ?_) (fun c62 => ?_)
      · exact W.vret hx hb hr (fun t ht hW => ⟨⟨far1, rfl, mf_end hok hFR hFS (hSB c62), by rw [ht]; exact hP, hD⟩, hS.F ht⟩) hS.2.2 dX2_measure_160
      · have hdW : sm F (n + 1) + 2 ≤ d + 1 := by rw [c62] at hd; exact hd
        refine lv_iconst (v := nI 0) hx hb dX2_measure_65 (by decide +kernel) ?_
        refine lv_istore_n (lv' := [(1, .int (nI 0)), (0, .ref h1)]) hx hb dX2_measure_66 rfl hl (by decide) rfl (fun ls hl => ?_)
        refine lv_iconst (v := nI 1) hx hb dX2_measure_67 (by decide +kernel) ?_
        refine lv_istore_n (lv' := [(2, .int (nI 1)), (1, .int (nI 0)), (0, .ref h1)]) hx hb dX2_measure_68 rfl hl (by decide) rfl (fun ls hl => ?_)
        have keyA : ∀ (eA : Nat) (far2 : Nat → Int32) (F2 : Nat → Nat) (M2 : Bool) (a : Nat) (H : Heap) (locs : List Loc) (ls : Array Slot), tp + 1 ≤ a + eA → 1 ≤ a → a ≤ tp → (a < tp → st a = true) → FR n far2 F2 → FS n wrd rts F2 → PI n wrd st F F2 M2 a 0 → va_P D vwCl (mW cI cZ h1 am th n B tp ob co lv wrd frs bgs fbs rts wnt far2) H → va_D A (mW cI cZ h1 am th n B tp ob co lv wrd frs bgs fbs rts wnt far2) → va_S A s.heap H locs → lv_has ls 5 [(0, .ref h1), (1, .int (bI M2)), (2, .int (nI a))] → W p l e (headSpec wsX2_measure ({ frames := 2, cells := 0, slots := 0, locals := 60 })).room s m ([.ref h1] : List Value).toArray below meth c H locs 0 0 (MQ below (va_Qv (fun (u : Nat → Int32) => MF n tp wrd st rts u) (fun (u : Nat → Int32) t => va_P D vwCl (mW cI cZ h1 am th n B tp ob co lv wrd frs bgs fbs rts wnt u) t.heap ∧ va_D A (mW cI cZ h1 am th n B tp ob co lv wrd frs bgs fbs rts wnt u)) A) ([.ref h1] : List Value).toArray s 0 0 A) (F0 m 69 ls []) := by
          intro eA
          induction eA with
          | zero =>
            intro far2 F2 M2 a H locs ls he ha1 ha2 haS hFR2 hFS2 hPI2 hP hD hS hl
            exfalso; omega
          | succ eA ihA =>
            intro far2 F2 M2 a H locs ls he ha1 ha2 haS hFR2 hFS2 hPI2 hP hD hS hl
            refine lv_iload_n hx hb dX2_measure_69 rfl (lv_at hl 2 rfl) ?_
            refine lv_aload_n hx hb dX2_measure_70 rfl (lv_at hl 0 rfl) ?_
            refine va_get (D := D) (ci := 2) (v := .int (nI tp)) (C := RX2) (T := TX2) (N := 14) hx hb hts in_X2_measure_X2 hown hK hP 0 rfl rfl 3 (by decide) (hts (.fieldLink RX2 7 "OffsetHeapModel" "top" "I") (by decide +kernel)) (fun _ h9 => h9) rfl dX2_measure_71 ?_
            refine xk_icmp_ge (tgt := 157) hx hb (by omega) (by omega) dX2_measure_74 (by decide) (fun c74 => ?_) (fun c74 => ?_)
            · refine lv_goto (tgt := 61) hx hb dX2_measure_157 (by decide) ?_
              have hae : a = tp := by omega
              rw [hae] at hPI2
              exact ihW far2 F2 M2 H locs ls (pi_sm hPI2 hdW) hFR2 hFS2 (pi_sb hPI2) hP hD hS (lv_sub hl [0, 1] rfl)
            · have ha3 := haS c74
              have hh := hok.hdr ha1 c74 ha3
              have hs := hok.hsm ha1 c74 ha3
              have hf := hok.fit ha1 c74 ha3
              unfold siz at hf
              refine lv_iconst (v := nI 0) hx hb dX2_measure_77 (by decide +kernel) ?_
              refine lv_istore_n (lv' := [(3, .int (nI 0)), (0, .ref h1), (1, .int (bI M2)), (2, .int (nI a))]) hx hb dX2_measure_78 rfl hl (by decide) rfl (fun ls hl => ?_)
              have keyK : ∀ (eK : Nat) (far3 : Nat → Int32) (F3 : Nat → Nat) (M3 : Bool) (i : Nat) (H : Heap) (locs : List Loc) (ls : Array Slot), tn (wrd a) / 16 % 16 + 1 ≤ i + eK → i ≤ tn (wrd a) / 16 % 16 → FR n far3 F3 → FS n wrd rts F3 → PI n wrd st F F3 M3 a i → va_P D vwCl (mW cI cZ h1 am th n B tp ob co lv wrd frs bgs fbs rts wnt far3) H → va_D A (mW cI cZ h1 am th n B tp ob co lv wrd frs bgs fbs rts wnt far3) → va_S A s.heap H locs → lv_has ls 5 [(0, .ref h1), (1, .int (bI M3)), (2, .int (nI a)), (3, .int (nI i))] → W p l e (headSpec wsX2_measure ({ frames := 2, cells := 0, slots := 0, locals := 60 })).room s m ([.ref h1] : List Value).toArray below meth c H locs 0 0 (MQ below (va_Qv (fun (u : Nat → Int32) => MF n tp wrd st rts u) (fun (u : Nat → Int32) t => va_P D vwCl (mW cI cZ h1 am th n B tp ob co lv wrd frs bgs fbs rts wnt u) t.heap ∧ va_D A (mW cI cZ h1 am th n B tp ob co lv wrd frs bgs fbs rts wnt u)) A) ([.ref h1] : List Value).toArray s 0 0 A) (F0 m 79 ls []) := by
                intro eK
                induction eK with
                | zero =>
                  intro far3 F3 M3 i H locs ls he hi hFR3 hFS3 hPI3 hP hD hS hl
                  exfalso; omega
                | succ eK ihK =>
                  intro far3 F3 M3 i H locs ls he hi hFR3 hFS3 hPI3 hP hD hS hl
                  refine lv_iload_n hx hb dX2_measure_79 rfl (lv_at hl 3 rfl) ?_
                  refine lv_aload_n hx hb dX2_measure_80 rfl (lv_at hl 0 rfl) ?_
                  refine lv_iload_n hx hb dX2_measure_81 rfl (lv_at hl 2 rfl) ?_
                  refine xk_roV (As := [.int (nI a)]) (rest := [.int (nI i)]) ⟨hx, hb, hml, hown, hts⟩ (c_mreferences l D cI cZ h1 am th n B tp ob co lv wrd frs bgs fbs rts wnt far3 a (by omega) hh (by omega)) (cwV 1 hts gX2_measure_X2_references rfl rfl rfl (by decide +kernel) ⟨Nat.le_of_ble_eq_true rfl, Nat.le_of_ble_eq_true rfl⟩) (va_recv hK hP (ci := 2) (q0 := 0) rfl rfl) hP hK rfl hl.1 rfl (Nat.le_of_ble_eq_true rfl) dX2_measure_82 ⟨Nat.zero_le _, Nat.zero_le _⟩ ?_
                  refine xk_icmp_ge (tgt := 146) hx hb (by omega) (by omega) dX2_measure_85 (by decide) (fun c85 => ?_) (fun c85 => ?_)
                  · refine lv_iload_n hx hb dX2_measure_146 rfl (lv_at hl 2 rfl) ?_
                    refine lv_aload_n hx hb dX2_measure_147 rfl (lv_at hl 0 rfl) ?_
                    refine lv_iload_n hx hb dX2_measure_148 rfl (lv_at hl 2 rfl) ?_
                    refine xk_roV (As := [.int (nI a)]) (rest := [.int (nI a)]) ⟨hx, hb, hml, hown, hts⟩ (c_mlength l D cI cZ h1 am th n B tp ob co lv wrd frs bgs fbs rts wnt far3 a (by omega) hh (by omega)) (cwV 1 hts gX2_measure_X2_length rfl rfl rfl (by decide +kernel) ⟨Nat.le_of_ble_eq_true rfl, Nat.le_of_ble_eq_true rfl⟩) (va_recv hK hP (ci := 2) (q0 := 0) rfl rfl) hP hK rfl hl.1 rfl (Nat.le_of_ble_eq_true rfl) dX2_measure_149 ⟨Nat.zero_le _, Nat.zero_le _⟩ ?_
                    refine lv_iadd hx hb dX2_measure_152 ?_
                    refine xk_top (nI_add _ _) ?_
                    refine lv_istore_n (lv' := [(2, .int (nI (a + (1 + tn (wrd a) / 16 % 16 + tn (wrd a) / 256)))), (0, .ref h1), (1, .int (bI M3)), (3, .int (nI i))]) hx hb dX2_measure_153 rfl hl (by decide) rfl (fun ls hl => ?_)
                    refine lv_goto (tgt := 69) hx hb dX2_measure_154 (by decide) ?_
                    have hie : i = rfs wrd a := by unfold rfs; omega
                    rw [hie] at hPI3
                    exact ihA far3 F3 M3 (a + siz wrd a) H locs ls (by have := siz_pos wrd a; omega) (by omega) (hok.fit ha1 c74 ha3) (hok.next ha1 c74 ha3) hFR3 hFS3 (pi_next hok ha1 c74 ha3 hPI3) hP hD hS (lv_sub hl [1, 2, 0] rfl)
                  · have q := hok.refN ha1 c74 ha3 (k := i) (by unfold rfs; omega)
                    have q2 := q.2
                    refine lv_aload_n hx hb dX2_measure_88 rfl (lv_at hl 0 rfl) ?_
                    refine va_get (D := D) (ci := 2) (v := .ref (am 1)) (C := RX2) (T := TX2) (N := 14) hx hb hts in_X2_measure_X2 hown hK hP 0 rfl rfl 7 (by decide) (hts (.fieldLink RX2 13 "OffsetHeapModel" "words" "[I") (by decide +kernel)) (fun _ h9 => h9) rfl dX2_measure_89 ?_
                    refine lv_iload_n hx hb dX2_measure_92 rfl (lv_at hl 2 rfl) ?_
                    refine lv_iconst (v := nI 1) hx hb dX2_measure_93 (by decide +kernel) ?_
                    refine lv_iadd hx hb dX2_measure_94 ?_
                    refine xk_top (nI_add _ _) ?_
                    refine lv_iload_n hx hb dX2_measure_95 rfl (lv_at hl 3 rfl) ?_
                    refine lv_iadd hx hb dX2_measure_96 ?_
                    refine xk_top (nI_add _ _) ?_
                    refine xk_iald hx hb hK hP 1 0 rfl rfl (by omega) (by omega) dX2_measure_97 ?_
                    refine xk_top q.1 ?_
                    refine lv_istore (lv' := [(4, .int (nI (tn (wrd (a + 1 + i))))), (0, .ref h1), (1, .int (bI M3)), (2, .int (nI a)), (3, .int (nI i))]) hx hb dX2_measure_98 hl (by decide) rfl (fun ls hl => ?_)
                    refine lv_iload hx hb dX2_measure_100 (lv_at hl 0 rfl) ?_
                    refine xk_if_le (tgt := 140) hx hb (by omega) dX2_measure_102 (by decide) (fun c102 => ?_) (fun c102 => ?_)
                    · refine lv_iinc (v := nI (i + 1)) (lv' := [(3, .int (nI (i + 1))), (4, .int (nI (tn (wrd (a + 1 + i))))), (0, .ref h1), (1, .int (bI M3)), (2, .int (nI a))]) hx hb dX2_measure_140 hl (k := 4) rfl (xk_inc i) (by decide) rfl (fun ls hl => ?_)
                      refine lv_goto (tgt := 79) hx hb dX2_measure_143 (by decide) ?_
                      exact ihK far3 F3 M3 (i + 1) H locs ls (by omega) (by omega) hFR3 hFS3 (pi_skip hPI3 (Or.inl c102)) hP hD hS (lv_sub hl [2, 3, 4, 0] rfl)
                    · have f1 := (hFS3.1 a (by omega)).1
                      have f2 := (hFS3.1 (tn (wrd (a + 1 + i))) (by omega)).1
                      refine lv_aload_n hx hb dX2_measure_105 rfl (lv_at hl 1 rfl) ?_
                      refine va_get (D := D) (ci := 2) (v := .ref (am 7)) (C := RX2) (T := TX2) (N := 14) hx hb hts in_X2_measure_X2 hown hK hP 0 rfl rfl 13 (by decide) (hts (.fieldLink RX2 33 "OffsetHeapModel" "far" "[I") (by decide +kernel)) (fun _ h9 => h9) rfl dX2_measure_106 ?_
                      refine lv_iload_n hx hb dX2_measure_109 rfl (lv_at hl 3 rfl) ?_
                      refine xk_iald hx hb hK hP 7 0 rfl rfl (by omega) (by omega) dX2_measure_110 ?_
                      refine xk_top (hFR3 a (by omega)) ?_
                      refine lv_iconst (v := nI 1) hx hb dX2_measure_111 (by decide +kernel) ?_
                      refine lv_iadd hx hb dX2_measure_112 ?_
                      refine xk_top (nI_add _ _) ?_
                      refine lv_aload_n hx hb dX2_measure_113 rfl (lv_at hl 1 rfl) ?_
                      refine va_get (D := D) (ci := 2) (v := .ref (am 7)) (C := RX2) (T := TX2) (N := 14) hx hb hts in_X2_measure_X2 hown hK hP 0 rfl rfl 13 (by decide) (hts (.fieldLink RX2 33 "OffsetHeapModel" "far" "[I") (by decide +kernel)) (fun _ h9 => h9) rfl dX2_measure_114 ?_
                      refine lv_iload hx hb dX2_measure_117 (lv_at hl 0 rfl) ?_
                      refine xk_iald hx hb hK hP 7 0 rfl rfl (by omega) (by omega) dX2_measure_119 ?_
                      refine xk_top (hFR3 _ (by omega)) ?_
                      refine xk_icmp_ge (tgt := 140) hx hb (by omega) (by omega) dX2_measure_120 (by decide) (fun c120 => ?_) (fun c120 => ?_)
                      · refine lv_iinc (v := nI (i + 1)) (lv' := [(3, .int (nI (i + 1))), (4, .int (nI (tn (wrd (a + 1 + i))))), (0, .ref h1), (1, .int (bI M3)), (2, .int (nI a))]) hx hb dX2_measure_140 hl (k := 4) rfl (xk_inc i) (by decide) rfl (fun ls hl => ?_)
                        refine lv_goto (tgt := 79) hx hb dX2_measure_143 (by decide) ?_
                        exact ihK far3 F3 M3 (i + 1) H locs ls (by omega) (by omega) hFR3 hFS3 (pi_skip hPI3 (Or.inr c120)) hP hD hS (lv_sub hl [2, 3, 4, 0] rfl)
                      · refine lv_aload_n hx hb dX2_measure_123 rfl (lv_at hl 1 rfl) ?_
                        refine va_get (D := D) (ci := 2) (v := .ref (am 7)) (C := RX2) (T := TX2) (N := 14) hx hb hts in_X2_measure_X2 hown hK hP 0 rfl rfl 13 (by decide) (hts (.fieldLink RX2 33 "OffsetHeapModel" "far" "[I") (by decide +kernel)) (fun _ h9 => h9) rfl dX2_measure_124 ?_
                        refine lv_iload hx hb dX2_measure_127 (lv_at hl 0 rfl) ?_
                        refine lv_aload_n hx hb dX2_measure_129 rfl (lv_at hl 1 rfl) ?_
                        refine va_get (D := D) (ci := 2) (v := .ref (am 7)) (C := RX2) (T := TX2) (N := 14) hx hb hts in_X2_measure_X2 hown hK hP 0 rfl rfl 13 (by decide) (hts (.fieldLink RX2 33 "OffsetHeapModel" "far" "[I") (by decide +kernel)) (fun _ h9 => h9) rfl dX2_measure_130 ?_
                        refine lv_iload_n hx hb dX2_measure_133 rfl (lv_at hl 3 rfl) ?_
                        refine xk_iald hx hb hK hP 7 0 rfl rfl (by omega) (by omega) dX2_measure_134 ?_
                        refine xk_top (hFR3 a (by omega)) ?_
                        refine lv_iconst (v := nI 1) hx hb dX2_measure_135 (by decide +kernel) ?_
                        refine lv_iadd hx hb dX2_measure_136 ?_
                        refine xk_top (nI_add _ _) ?_
                        refine xk_iast hx hb hK hP hD hS 7 0 rfl rfl (by omega) (by omega) dX2_measure_137 (fun H locs hP hD hS => ?_)
                        have hP : va_P D vwCl (mW cI cZ h1 am th n B tp ob co lv wrd frs bgs fbs rts wnt (upd far3 (tn (wrd (a + 1 + i))) (nI ((F3 a) + 1)))) H := hP
                        have hD : va_D A (mW cI cZ h1 am th n B tp ob co lv wrd frs bgs fbs rts wnt (upd far3 (tn (wrd (a + 1 + i))) (nI ((F3 a) + 1)))) := hD
                        refine lv_iconst (v := nI 1) hx hb dX2_measure_138 (by decide +kernel) ?_
                        refine lv_istore_n (lv' := [(1, .int (nI 1)), (4, .int (nI (tn (wrd (a + 1 + i))))), (0, .ref h1), (2, .int (nI a)), (3, .int (nI i))]) hx hb dX2_measure_139 rfl hl (by decide) rfl (fun ls hl => ?_)
                        refine lv_iinc (v := nI (i + 1)) (lv' := [(3, .int (nI (i + 1))), (1, .int (nI 1)), (4, .int (nI (tn (wrd (a + 1 + i))))), (0, .ref h1), (2, .int (nI a))]) hx hb dX2_measure_140 hl (k := 4) rfl (xk_inc i) (by decide) rfl (fun ls hl => ?_)
                        refine lv_goto (tgt := 79) hx hb dX2_measure_143 (by decide) ?_
                        exact ihK _ _ true (i + 1) H locs ls (by omega) (by omega) (FR_u hFR3) (fs_relax hok hFS3 ha1 c74 ha3 (by unfold rfs; omega) c102 c120) (pi_store hPI3 (by omega) c120 a (i + 1)) hP hD hS (lv_sub hl [3, 1, 4, 0] rfl)
              exact keyK 17 far2 F2 M2 0 H locs ls (by omega) (by omega) hFR2 hFS2 hPI2 hP hD hS (lv_sub hl [1, 2, 3, 0] rfl)
        exact keyA tp far1 F false 1 H locs ls (by omega) (by omega) (by omega) hok.2.1 hFR hFS (Or.inl ⟨rfl, rfl, fun o o1 o2 => by omega, fun j hj => by omega⟩) hP hD hS (lv_sub hl [2, 1, 0] rfl)
  have keyR : ∀ (d : Nat) (far1 : Nat → Int32) (F : Nat → Nat) (i : Nat) (H : Heap) (locs : List Loc) (ls : Array Slot), 9 ≤ i + d → i ≤ 8 → FR n far1 F → R0 n wrd rts F i → va_P D vwCl (mW cI cZ h1 am th n B tp ob co lv wrd frs bgs fbs rts wnt far1) H → va_D A (mW cI cZ h1 am th n B tp ob co lv wrd frs bgs fbs rts wnt far1) → va_S A s.heap H locs → lv_has ls 5 [(0, .ref h1), (1, .int (nI i))] → W p l e (headSpec wsX2_measure ({ frames := 2, cells := 0, slots := 0, locals := 60 })).room s m ([.ref h1] : List Value).toArray below meth c H locs 0 0 (MQ below (va_Qv (fun (u : Nat → Int32) => MF n tp wrd st rts u) (fun (u : Nat → Int32) t => va_P D vwCl (mW cI cZ h1 am th n B tp ob co lv wrd frs bgs fbs rts wnt u) t.heap ∧ va_D A (mW cI cZ h1 am th n B tp ob co lv wrd frs bgs fbs rts wnt u)) A) ([.ref h1] : List Value).toArray s 0 0 A) (F0 m 26 ls []) := by
    intro d
    induction d with
    | zero =>
      intro far1 F i H locs ls hd hi hFR hR0 hP hD hS hl
      exfalso; omega
    | succ d ih =>
      intro far1 F i H locs ls hd hi hFR hR0 hP hD hS hl
      refine lv_iload_n hx hb dX2_measure_26 rfl (lv_at hl 1 rfl) ?_
      refine lv_bipush (v := nI 8) hx hb dX2_measure_27 (by decide +kernel) ?_
      refine xk_icmp_ge (tgt := 59) hx hb (by omega) (by omega) dX2_measure_29 (by decide) (fun c29 => ?_) (fun c29 => ?_)
      · refine lv_iconst (v := nI 1) hx hb dX2_measure_59 (by decide +kernel) ?_
        refine lv_istore_n (lv' := [(1, .int (nI 1)), (0, .ref h1)]) hx hb dX2_measure_60 rfl hl (by decide) rfl (fun ls hl => ?_)
        have hi8 : i = 8 := by omega
        rw [hi8] at hR0
        exact keyW (sm F (n + 1) + 2) far1 F true H locs ls (by show sm F (n + 1) + 1 + 1 ≤ _; omega) hFR hR0 (fun z => by cases z) hP hD hS (lv_sub hl [1, 0] rfl)
      · have w := hok.rootN (k := i) (by omega)
        have w2 := w.2
        refine lv_aload_n hx hb dX2_measure_32 rfl (lv_at hl 0 rfl) ?_
        refine va_get (D := D) (ci := 2) (v := .ref (am 5)) (C := RX2) (T := TX2) (N := 14) hx hb hts in_X2_measure_X2 hown hK hP 0 rfl rfl 11 (by decide) (hts (.fieldLink RX2 27 "OffsetHeapModel" "roots" "[I") (by decide +kernel)) (fun _ h9 => h9) rfl dX2_measure_33 ?_
        refine lv_iload_n hx hb dX2_measure_36 rfl (lv_at hl 1 rfl) ?_
        refine xk_iald hx hb hK hP 5 0 rfl rfl (by omega) (by omega) dX2_measure_37 ?_
        refine xk_top w.1 ?_
        refine xk_if_le (tgt := 53) hx hb (by omega) dX2_measure_38 (by decide) (fun c38 => ?_) (fun c38 => ?_)
        · refine lv_iinc (v := nI (i + 1)) (lv' := [(1, .int (nI (i + 1))), (0, .ref h1)]) hx hb dX2_measure_53 hl (k := 1) rfl (xk_inc i) (by decide) rfl (fun ls hl => ?_)
          refine lv_goto (tgt := 26) hx hb dX2_measure_56 (by decide) ?_
          exact ih far1 F (i + 1) H locs ls (by omega) (by omega) hFR (r0_n hR0 c38) hP hD hS (lv_sub hl [1, 0] rfl)
        · refine lv_aload_n hx hb dX2_measure_41 rfl (lv_at hl 0 rfl) ?_
          refine va_get (D := D) (ci := 2) (v := .ref (am 7)) (C := RX2) (T := TX2) (N := 14) hx hb hts in_X2_measure_X2 hown hK hP 0 rfl rfl 13 (by decide) (hts (.fieldLink RX2 33 "OffsetHeapModel" "far" "[I") (by decide +kernel)) (fun _ h9 => h9) rfl dX2_measure_42 ?_
          refine lv_aload_n hx hb dX2_measure_45 rfl (lv_at hl 0 rfl) ?_
          refine va_get (D := D) (ci := 2) (v := .ref (am 5)) (C := RX2) (T := TX2) (N := 14) hx hb hts in_X2_measure_X2 hown hK hP 0 rfl rfl 11 (by decide) (hts (.fieldLink RX2 27 "OffsetHeapModel" "roots" "[I") (by decide +kernel)) (fun _ h9 => h9) rfl dX2_measure_46 ?_
          refine lv_iload_n hx hb dX2_measure_49 rfl (lv_at hl 1 rfl) ?_
          refine xk_iald hx hb hK hP 5 0 rfl rfl (by omega) (by omega) dX2_measure_50 ?_
          refine xk_top w.1 ?_
          refine lv_iconst (v := nI 0) hx hb dX2_measure_51 (by decide +kernel) ?_
          refine xk_iast hx hb hK hP hD hS 7 0 rfl rfl (by omega) (by omega) dX2_measure_52 (fun H locs hP hD hS => ?_)
          have hP : va_P D vwCl (mW cI cZ h1 am th n B tp ob co lv wrd frs bgs fbs rts wnt (upd far1 (tn (rts i)) (nI 0))) H := hP
          have hD : va_D A (mW cI cZ h1 am th n B tp ob co lv wrd frs bgs fbs rts wnt (upd far1 (tn (rts i)) (nI 0))) := hD
          refine lv_iinc (v := nI (i + 1)) (lv' := [(1, .int (nI (i + 1))), (0, .ref h1)]) hx hb dX2_measure_53 hl (k := 1) rfl (xk_inc i) (by decide) rfl (fun ls hl => ?_)
          refine lv_goto (tgt := 26) hx hb dX2_measure_56 (by decide) ?_
          exact ih _ _ (i + 1) H locs ls (by omega) (by omega) (FR_u hFR) (r0_s hR0 (by omega) c38) hP hD hS (lv_sub hl [1, 0] rfl)
  have keyI : ∀ (d : Nat) (far1 : Nat → Int32) (i : Nat) (H : Heap) (locs : List Loc) (ls : Array Slot), n + 2 ≤ i + d → i ≤ n + 1 → (∀ a, a < i → far1 a = nI 1000000) → va_P D vwCl (mW cI cZ h1 am th n B tp ob co lv wrd frs bgs fbs rts wnt far1) H → va_D A (mW cI cZ h1 am th n B tp ob co lv wrd frs bgs fbs rts wnt far1) → va_S A s.heap H locs → lv_has ls 5 [(0, .ref h1), (1, .int (nI i))] → W p l e (headSpec wsX2_measure ({ frames := 2, cells := 0, slots := 0, locals := 60 })).room s m ([.ref h1] : List Value).toArray below meth c H locs 0 0 (MQ below (va_Qv (fun (u : Nat → Int32) => MF n tp wrd st rts u) (fun (u : Nat → Int32) t => va_P D vwCl (mW cI cZ h1 am th n B tp ob co lv wrd frs bgs fbs rts wnt u) t.heap ∧ va_D A (mW cI cZ h1 am th n B tp ob co lv wrd frs bgs fbs rts wnt u)) A) ([.ref h1] : List Value).toArray s 0 0 A) (F0 m 2 ls []) := by
    intro d
    induction d with
    | zero =>
      intro far1 i H locs ls hd hi h0 hP hD hS hl
      exfalso; omega
    | succ d ih =>
      intro far1 i H locs ls hd hi h0 hP hD hS hl
      refine lv_iload_n hx hb dX2_measure_2 rfl (lv_at hl 1 rfl) ?_
      refine lv_aload_n hx hb dX2_measure_3 rfl (lv_at hl 0 rfl) ?_
      refine va_get (D := D) (ci := 2) (v := .int (nI n)) (C := RX2) (T := TX2) (N := 14) hx hb hts in_X2_measure_X2 hown hK hP 0 rfl rfl 1 (by decide) (hts (.fieldLink RX2 36 "OffsetHeapModel" "most" "I") (by decide +kernel)) (fun _ h9 => h9) rfl dX2_measure_4 ?_
      refine xk_icmp_gt (tgt := 24) hx hb (by omega) (by omega) dX2_measure_7 (by decide) (fun c7 => ?_) (fun c7 => ?_)
      · refine lv_iconst (v := nI 0) hx hb dX2_measure_24 (by decide +kernel) ?_
        refine lv_istore_n (lv' := [(1, .int (nI 0)), (0, .ref h1)]) hx hb dX2_measure_25 rfl hl (by decide) rfl (fun ls hl => ?_)
        exact keyR 9 far1 (fun _ => 1000000) 0 H locs ls (by omega) (by omega) (fun a ha => h0 a (by omega)) ⟨fun a ha => ⟨Nat.le_refl _, fun z => absurd z (Nat.lt_irrefl _)⟩, fun j hj => absurd hj (Nat.not_lt_zero j)⟩ hP hD hS (lv_sub hl [1, 0] rfl)
      · refine lv_aload_n hx hb dX2_measure_10 rfl (lv_at hl 0 rfl) ?_
        refine va_get (D := D) (ci := 2) (v := .ref (am 7)) (C := RX2) (T := TX2) (N := 14) hx hb hts in_X2_measure_X2 hown hK hP 0 rfl rfl 13 (by decide) (hts (.fieldLink RX2 33 "OffsetHeapModel" "far" "[I") (by decide +kernel)) (fun _ h9 => h9) rfl dX2_measure_11 ?_
        refine lv_iload_n hx hb dX2_measure_14 rfl (lv_at hl 1 rfl) ?_
        refine lv_ldc (v := nI 1000000) hx hb hown (hts (.constant RX2 66 (1000000)) (by decide +kernel)) dX2_measure_15 ?_
        refine xk_iast hx hb hK hP hD hS 7 0 rfl rfl (by omega) (by omega) dX2_measure_17 (fun H locs hP hD hS => ?_)
        have hP : va_P D vwCl (mW cI cZ h1 am th n B tp ob co lv wrd frs bgs fbs rts wnt (upd far1 i (nI 1000000))) H := hP
        have hD : va_D A (mW cI cZ h1 am th n B tp ob co lv wrd frs bgs fbs rts wnt (upd far1 i (nI 1000000))) := hD
        refine lv_iinc (v := nI (i + 1)) (lv' := [(1, .int (nI (i + 1))), (0, .ref h1)]) hx hb dX2_measure_18 hl (k := 1) rfl (xk_inc i) (by decide) rfl (fun ls hl => ?_)
        refine lv_goto (tgt := 2) hx hb dX2_measure_21 (by decide) ?_
        exact ih _ (i + 1) H locs ls (by omega) (by omega) (FR_0 (n := n) h0) hP hD hS (lv_sub hl [1, 0] rfl)
  refine lv_iconst (v := nI 0) hx hb dX2_measure_0 (by decide +kernel) ?_
  refine lv_istore_n (lv' := [(1, .int (nI 0)), (0, .ref h1)]) hx hb dX2_measure_1 rfl hl (by decide) rfl (fun ls hl => ?_)
  exact keyI (n + 2) far 0 s.heap [] ls (by omega) (by omega) (fun a ha => absurd ha (Nat.not_lt_zero a)) hP hD hS (lv_sub hl [1, 0] rfl)
set_option maxHeartbeats 4000000 in
set_option maxRecDepth 100000 in
/-- near -/
theorem c_mnear (l : Launch) (D : va_G) (cI cZ : ClassId) (h1 : Nat) (am : Nat → Nat) (th n B tp ob co lv : Nat) (wrd frs bgs fbs rts wnt far : Nat → Int32) (sz : Nat) (st : Nat → Bool) (x : Int32) (hok : okS n tp wrd st rts) : Met l yX2_near wsX2_near ({ frames := 3, cells := 0, slots := 0, locals := 90 }) (va_Pc [.ref h1, .int x] (fun U => U.heap.size = sz ∧ va_P D vwCl (mW cI cZ h1 am th n B tp ob co lv wrd frs bgs fbs rts wnt far) U.heap ∧ va_K D vwCl [(cI, .int), (cZ, .boolean)] U ∧ va_D (fun _ => True) (mW cI cZ h1 am th n B tp ob co lv wrd frs bgs fbs rts wnt far))) (va_Qi (fun (r9 : Int32) (u : Nat → Int32) => (inR 101 x = false ∧ r9 = -1) ∨ ∃ q b, q ≤ 100 ∧ x = nI q ∧ (∀ y, y ≤ n → (b y = true ↔ NR wrd rts q y)) ∧ r9 = nI (cn b (n + 1))) (fun (u : Nat → Int32) t => va_P D vwCl (mW cI cZ h1 am th n B tp ob co lv wrd frs bgs fbs rts wnt u) t.heap ∧ va_D (va_A (mW cI cZ h1 am th n B tp ob co lv wrd frs bgs fbs rts wnt far) sz) (mW cI cZ h1 am th n B tp ob co lv wrd frs bgs fbs rts wnt u)) (va_A (mW cI cZ h1 am th n B tp ob co lv wrd frs bgs fbs rts wnt far) sz)) 0 0 (va_A (mW cI cZ h1 am th n B tp ob co lv wrd frs bgs fbs rts wnt far) sz) := by
  refine Met.ofW (cc := cX2_near) (maxL := 4) (ret := (some .int)) (by decide) rfl ?_
  intro p e s m args below meth c s₁ B9 hml hv
  obtain ⟨rfl, hsz, hP, hK, hD0⟩ := hv
  have hx := B9.exec
  have hb := B9.bytes
  have hr := B9.returns
  have hts := atoms_spec (ws := wsX2_near) B9.pre
  have hown : s.vm.findClass RX2 = some m.cls := findClass_of_methodNamed B9.named
  have hlocks := B9.notSynchronized
  subst hsz
  have hD := hD0.self (sz := s.heap.size)
  generalize hAe : va_A (mW cI cZ h1 am th n B tp ob co lv wrd frs bgs fbs rts wnt far) s.heap.size = A at hD ⊢
  have hA : ∀ q : Nat, s.heap.size ≤ q → A q := fun q h => by rw [← hAe]; exact Or.inr h
  have hS : va_S A s.heap s.heap [] := va_S.rf
  have hl := lv_entry ([.ref h1, .int x]) (n := 4) (Nat.le_of_ble_eq_true rfl)
  rw [lg_entry_eq]
  generalize (lg_sl ([.ref h1, .int x]) ++ List.replicate (4 - (lg_sl ([.ref h1, .int x])).length) Slot.unset).toArray = ls at hl ⊢
  have hl : lv_has ls 4 [(0, .ref h1), (1, .int x)] := hl
  have htp := hok.1.2.1
  have hn := hok.1.2.2
  have htp1 := hok.1.1
  refine lv_iload_n hx hb dX2_near_0 rfl (lv_at hl 1 rfl) ?_
  refine lv_iconst (v := nI 0) hx hb dX2_near_1 (by decide +kernel) ?_
  refine lv_bipush (v := nI 100) hx hb dX2_near_2 (by decide +kernel) ?_
  refine xk_roS (As := [.int x, .int (nI 0), .int (nI 100)]) (rest := []) ⟨hx, hb, hml, hown, hts⟩ (c_isIn l x 0 (101) (nI 100) (by omega) (by omega) (by decide)) (va_cwS 3 hts gX2_near_X2_isIn rfl rfl rfl (by decide +kernel) ⟨Nat.le_of_ble_eq_true rfl, Nat.le_of_ble_eq_true rfl⟩) rfl hl.1 rfl (Nat.le_of_ble_eq_true rfl) dX2_near_4 ⟨Nat.zero_le _, Nat.zero_le _⟩ ?_
  refine xk_if_neB (tgt := 12) hx hb dX2_near_7 (by decide) (fun c7 => ?_) (fun c7 => ?_)
  · rw [inL_0] at c7
    obtain ⟨q, hq0, eq, hq⟩ := inR_t c7
    refine lv_aload_n hx hb dX2_near_12 rfl (lv_at hl 0 rfl) ?_
    refine xk_aftv (wr := []) (ws' := fun u => mW cI cZ h1 am th n B tp ob co lv wrd frs bgs fbs rts wnt u) (va_runV (As := []) (rest := []) ⟨hx, hb, hml, hown, hts⟩ (c_mmeasure l D cI cZ h1 am th n B tp ob co lv wrd frs bgs fbs rts wnt far s.heap.size st hok) (cwV 0 hts gX2_near_X2_measure rfl rfl rfl (by decide +kernel) ⟨Nat.le_of_ble_eq_true rfl, Nat.le_of_ble_eq_true rfl⟩) (xk_preV (va_recv hK hP (ci := 2) (q0 := 0) rfl rfl) rfl hP hK (hD.weaken (fun _ _ _ _ => trivial))) rfl rfl hl.1 rfl (lv_room (Nat.le_of_ble_eq_true rfl)) dX2_near_13 ⟨Nat.zero_le _, Nat.zero_le _⟩) hP hD hS hA [0, 1, 2, 3, 4, 5, 6, 7] [] [0, 1, 2, 3, 4, 5, 6, 7] rfl rfl (by decide) (by decide) (fun _ => rfl) (by decide) (fun u H locs hpost hP hD hS => ?_)
    obtain ⟨far1, efar1⟩ : ∃ z, z = u := ⟨_, rfl⟩
    rw [← efar1] at hP hD hpost
    obtain ⟨F, hF1, hF2⟩ := hpost
    have hP : va_P D vwCl (mW cI cZ h1 am th n B tp ob co lv wrd frs bgs fbs rts wnt far1) H := hP
    have hD : va_D A (mW cI cZ h1 am th n B tp ob co lv wrd frs bgs fbs rts wnt far1) := hD
    obtain ⟨b, hbN⟩ : ∃ b : Nat → Bool, ∀ y, b y = true ↔ NR wrd rts q y := ⟨fun y => @decide (NR wrd rts q y) (Classical.propDecidable _), fun y => by simp⟩
    have hbS : ∀ y, b y = true → 1 ≤ y ∧ y < tp ∧ st y = true := fun y hy => NR_obj hok _ y ((hbN y).mp hy)
    have key : ∀ (d : Nat) (a : Nat) (H : Heap) (locs : List Loc) (ls : Array Slot), tp + 1 ≤ a + d → 1 ≤ a → a ≤ tp → (a < tp → st a = true) → va_P D vwCl (mW cI cZ h1 am th n B tp ob co lv wrd frs bgs fbs rts wnt far1) H → va_D A (mW cI cZ h1 am th n B tp ob co lv wrd frs bgs fbs rts wnt far1) → va_S A s.heap H locs → lv_has ls 4 [(0, .ref h1), (1, .int x), (2, .int (nI (cn b a))), (3, .int (nI a))] → W p l e (headSpec wsX2_near ({ frames := 3, cells := 0, slots := 0, locals := 90 })).room s m ([.ref h1, .int x] : List Value).toArray below meth c H locs 0 0 (MQ below (va_Qi (fun (r9 : Int32) (u : Nat → Int32) => (inR 101 x = false ∧ r9 = -1) ∨ ∃ q b, q ≤ 100 ∧ x = nI q ∧ (∀ y, y ≤ n → (b y = true ↔ NR wrd rts q y)) ∧ r9 = nI (cn b (n + 1))) (fun (u : Nat → Int32) t => va_P D vwCl (mW cI cZ h1 am th n B tp ob co lv wrd frs bgs fbs rts wnt u) t.heap ∧ va_D A (mW cI cZ h1 am th n B tp ob co lv wrd frs bgs fbs rts wnt u)) A) ([.ref h1, .int x] : List Value).toArray s 0 0 A) (F0 m 20 ls []) := by
      intro d
      induction d with
      | zero =>
        intro a H locs ls hd ha1 ha2 haS hP hD hS hl
        exfalso; omega
      | succ d ih =>
        intro a H locs ls hd ha1 ha2 haS hP hD hS hl
        refine lv_iload_n hx hb dX2_near_20 rfl (lv_at hl 3 rfl) ?_
        refine lv_aload_n hx hb dX2_near_21 rfl (lv_at hl 0 rfl) ?_
        refine va_get (D := D) (ci := 2) (v := .int (nI tp)) (C := RX2) (T := TX2) (N := 14) hx hb hts in_X2_near_X2 hown hK hP 0 rfl rfl 3 (by decide) (hts (.fieldLink RX2 7 "OffsetHeapModel" "top" "I") (by decide +kernel)) (fun _ h9 => h9) rfl dX2_near_22 ?_
        refine xk_icmp_ge (tgt := 57) hx hb (by omega) (by omega) dX2_near_25 (by decide) (fun c25 => ?_) (fun c25 => ?_)
        · refine lv_iload_n hx hb dX2_near_57 rfl (lv_at hl 2 rfl) ?_
          exact W.iret hx hb hr (fun t ht hW => ⟨⟨_, far1, rfl, Or.inr ⟨q, b, by omega, eq, fun y _ => hbN y, by rw [nr_end hok hbS, show a = tp by omega]⟩, by rw [ht]; exact hP, hD⟩, hS.F ht⟩) hS.2.2 dX2_near_58
        · have ha3 := haS c25
          have hh := hok.hdr ha1 c25 ha3
          have hs := hok.hsm ha1 c25 ha3
          have hf := hok.fit ha1 c25 ha3
          unfold siz at hf
          have f1 := (hF1 a (by omega)).2
          have f2 := cn_le b a
          refine lv_aload_n hx hb dX2_near_28 rfl (lv_at hl 0 rfl) ?_
          refine va_get (D := D) (ci := 2) (v := .ref (am 7)) (C := RX2) (T := TX2) (N := 14) hx hb hts in_X2_near_X2 hown hK hP 0 rfl rfl 13 (by decide) (hts (.fieldLink RX2 33 "OffsetHeapModel" "far" "[I") (by decide +kernel)) (fun _ h9 => h9) rfl dX2_near_29 ?_
          refine lv_iload_n hx hb dX2_near_32 rfl (lv_at hl 3 rfl) ?_
          refine xk_iald hx hb hK hP 7 0 rfl rfl (by omega) (by omega) dX2_near_33 ?_
          refine xk_top ((hF1 a (by omega)).1) ?_
          refine lv_iload_n hx hb dX2_near_34 rfl (lv_at hl 1 rfl) ?_
          refine xk_top eq ?_
          refine xk_icmp_gt (tgt := 44) hx hb (by omega) (by omega) dX2_near_35 (by decide) (fun c35 => ?_) (fun c35 => ?_)
          · refine lv_iload_n hx hb dX2_near_44 rfl (lv_at hl 2 rfl) ?_
            refine lv_istore_n (lv' := [(2, .int (nI (cn b a))), (0, .ref h1), (1, .int x), (3, .int (nI a))]) hx hb dX2_near_45 rfl hl (by decide) rfl (fun ls hl => ?_)
            refine lv_iload_n hx hb dX2_near_46 rfl (lv_at hl 3 rfl) ?_
            refine lv_aload_n hx hb dX2_near_47 rfl (lv_at hl 1 rfl) ?_
            refine lv_iload_n hx hb dX2_near_48 rfl (lv_at hl 3 rfl) ?_
            refine xk_roV (As := [.int (nI a)]) (rest := [.int (nI a)]) ⟨hx, hb, hml, hown, hts⟩ (c_mlength l D cI cZ h1 am th n B tp ob co lv wrd frs bgs fbs rts wnt far1 a (by omega) hh (by omega)) (cwV 1 hts gX2_near_X2_length rfl rfl rfl (by decide +kernel) ⟨Nat.le_of_ble_eq_true rfl, Nat.le_of_ble_eq_true rfl⟩) (va_recv hK hP (ci := 2) (q0 := 0) rfl rfl) hP hK rfl hl.1 rfl (Nat.le_of_ble_eq_true rfl) dX2_near_49 ⟨Nat.zero_le _, Nat.zero_le _⟩ ?_
            refine lv_iadd hx hb dX2_near_52 ?_
            refine xk_top (nI_add _ _) ?_
            refine lv_istore_n (lv' := [(3, .int (nI (a + (1 + tn (wrd a) / 16 % 16 + tn (wrd a) / 256)))), (2, .int (nI (cn b a))), (0, .ref h1), (1, .int x)]) hx hb dX2_near_53 rfl hl (by decide) rfl (fun ls hl => ?_)
            refine lv_goto (tgt := 20) hx hb dX2_near_54 (by decide) ?_
            have hba : b a = false := by cases z : b a with
              | false => rfl
              | true => exact absurd ((hF2 a (by omega) q (by omega)).mpr ((hbN a).mp z)) (by omega)
            rw [← cn_f hba] at hl
            rw [← nr_gap hok hbS ha1 c25 ha3] at hl
            exact ih (a + siz wrd a) H locs ls (by have := siz_pos wrd a; omega) (by omega) (hok.fit ha1 c25 ha3) (hok.next ha1 c25 ha3) hP hD hS (lv_sub hl [2, 3, 1, 0] rfl)
          · refine lv_iload_n hx hb dX2_near_38 rfl (lv_at hl 2 rfl) ?_
            refine lv_iconst (v := nI 1) hx hb dX2_near_39 (by decide +kernel) ?_
            refine lv_iadd hx hb dX2_near_40 ?_
            refine xk_top (nI_add _ _) ?_
            refine lv_goto (tgt := 45) hx hb dX2_near_41 (by decide) ?_
            refine lv_istore_n (lv' := [(2, .int (nI ((cn b a) + 1))), (0, .ref h1), (1, .int x), (3, .int (nI a))]) hx hb dX2_near_45 rfl hl (by decide) rfl (fun ls hl => ?_)
            refine lv_iload_n hx hb dX2_near_46 rfl (lv_at hl 3 rfl) ?_
            refine lv_aload_n hx hb dX2_near_47 rfl (lv_at hl 1 rfl) ?_
            refine lv_iload_n hx hb dX2_near_48 rfl (lv_at hl 3 rfl) ?_
            refine xk_roV (As := [.int (nI a)]) (rest := [.int (nI a)]) ⟨hx, hb, hml, hown, hts⟩ (c_mlength l D cI cZ h1 am th n B tp ob co lv wrd frs bgs fbs rts wnt far1 a (by omega) hh (by omega)) (cwV 1 hts gX2_near_X2_length rfl rfl rfl (by decide +kernel) ⟨Nat.le_of_ble_eq_true rfl, Nat.le_of_ble_eq_true rfl⟩) (va_recv hK hP (ci := 2) (q0 := 0) rfl rfl) hP hK rfl hl.1 rfl (Nat.le_of_ble_eq_true rfl) dX2_near_49 ⟨Nat.zero_le _, Nat.zero_le _⟩ ?_
            refine lv_iadd hx hb dX2_near_52 ?_
            refine xk_top (nI_add _ _) ?_
            refine lv_istore_n (lv' := [(3, .int (nI (a + (1 + tn (wrd a) / 16 % 16 + tn (wrd a) / 256)))), (2, .int (nI ((cn b a) + 1))), (0, .ref h1), (1, .int x)]) hx hb dX2_near_53 rfl hl (by decide) rfl (fun ls hl => ?_)
            refine lv_goto (tgt := 20) hx hb dX2_near_54 (by decide) ?_
            have hba : b a = true := (hbN a).mpr ((hF2 a (by omega) q (by omega)).mp (by omega))
            rw [← cn_t hba] at hl
            rw [← nr_gap hok hbS ha1 c25 ha3] at hl
            exact ih (a + siz wrd a) H locs ls (by have := siz_pos wrd a; omega) (by omega) (hok.fit ha1 c25 ha3) (hok.next ha1 c25 ha3) hP hD hS (lv_sub hl [2, 3, 1, 0] rfl)
    refine lv_iconst (v := nI 0) hx hb dX2_near_16 (by decide +kernel) ?_
    refine lv_istore_n (lv' := [(2, .int (nI 0)), (0, .ref h1), (1, .int x)]) hx hb dX2_near_17 rfl hl (by decide) rfl (fun ls hl => ?_)
    refine lv_iconst (v := nI 1) hx hb dX2_near_18 (by decide +kernel) ?_
    refine lv_istore_n (lv' := [(3, .int (nI 1)), (2, .int (nI 0)), (0, .ref h1), (1, .int x)]) hx hb dX2_near_19 rfl hl (by decide) rfl (fun ls hl => ?_)
    have h01 : cn b 1 = 0 := cn_0 (fun i hi => by cases z : b i with
      | false => rfl
      | true => have := hbS i z; omega)
    exact key tp 1 H locs ls (by omega) (by omega) (by omega) hok.2.1 hP hD hS (by rw [h01]; exact lv_sub hl [2, 3, 1, 0] rfl)
  · refine lv_iconst (v := (-1)) hx hb dX2_near_10 (by decide +kernel) ?_
    exact W.iret hx hb hr (fun t ht hW => ⟨⟨_, far, rfl, Or.inl ⟨by rw [inL_0] at c7; exact c7, rfl⟩, by rw [ht]; exact hP, hD⟩, hS.F ht⟩) hS.2.2 dX2_near_11
