/-! the reference: methods that only read, make, refer, set, root -/
def inL (lo m : Nat) (x : Int32) : Bool := match nn x with
  | none => false
  | some a => decide (lo ≤ a) && decide (a < m)
theorem inL_neg {lo m : Nat} {x : Int32} (h : x < 0) : inL lo m x = false := by unfold inL; rw [nn_neg h]
theorem inL_nat {lo m a : Nat} (h : a < 2 ^ 31) : inL lo m (nI a) = (decide (lo ≤ a) && decide (a < m)) := by unfold inL; rw [nn_nat h]
theorem inL_0 (m : Nat) (x : Int32) : inL 0 m x = inR m x := by
  rcases xk_sgn x with h | ⟨a, ha, rfl⟩
  · rw [inL_neg h, inR_neg h]
  · rw [inL_nat ha, inR_nat ha]; simp
theorem inR_t {m : Nat} {x : Int32} (h : inR m x = true) : ∃ a, a < 2 ^ 31 ∧ x = nI a ∧ a < m := by
  rcases xk_sgn x with q | ⟨a, ha, rfl⟩
  · rw [inR_neg q] at h; cases h
  · rw [inR_nat ha] at h; simp at h; exact ⟨a, ha, rfl, h⟩
theorem hi_n {n : Nat} (h : n < 2 ^ 31) : (nI n).toInt = ((n + 1 : Nat) : Int) - 1 := by rw [nI_toInt h]; omega
theorem hi_s {m : Nat} (h : m < 2 ^ 30) : (nI m - nI 1).toInt = (m : Int) - 1 := by rw [pk_sub_toInt h (by decide)]; rfl
theorem hi_gt {a m : Nat} {h : Int32} (hh : h.toInt = (m : Int) - 1) (ha : a < 2 ^ 31) : h < nI a ↔ m ≤ a := by
  rw [Int32.lt_iff_toInt_lt, nI_toInt ha, hh]; omega
theorem isO_st {n tp : Nat} {mem : Nat → Int32} {st : Nat → Bool} {rt : Nat → Int32} (hok : okS n tp mem st rt) {a : Nat} (ha : a < 2 ^ 31) (h1 : 1 ≤ a) (h2 : a ≤ n) (h3 : st a = true) : isO tp st (nI a) = true := by
  have : a < tp := Nat.lt_of_not_le (fun q => by have := (hok.2.2.2.2.1 a q h2).1; rw [h3] at this; cases this)
  rw [isO_nat ha, h3]
  simp [h1, this]
theorem in_X2_plain_X2 : ∀ w ∈ wsX20, w ∈ wsX2_plain := by decide +kernel
theorem in_X2_references_X2 : ∀ w ∈ wsX20, w ∈ wsX2_references := by decide +kernel
theorem in_X2_length_X2 : ∀ w ∈ wsX20, w ∈ wsX2_length := by decide +kernel
theorem in_X2_make_X2 : ∀ w ∈ wsX20, w ∈ wsX2_make := by decide +kernel
theorem in_X2_isObject_X2 : ∀ w ∈ wsX20, w ∈ wsX2_isObject := by decide +kernel
theorem in_X2_isLead_X2 : ∀ w ∈ wsX20, w ∈ wsX2_isLead := by decide +kernel
theorem in_X2_refer_X2 : ∀ w ∈ wsX20, w ∈ wsX2_refer := by decide +kernel
theorem in_X2_set_X2 : ∀ w ∈ wsX20, w ∈ wsX2_set := by decide +kernel
theorem in_X2_root_X2 : ∀ w ∈ wsX20, w ∈ wsX2_root := by decide +kernel
theorem in_X2_isWord_X2 : ∀ w ∈ wsX20, w ∈ wsX2_isWord := by decide +kernel
theorem in_X2_word_X2 : ∀ w ∈ wsX20, w ∈ wsX2_word := by decide +kernel
theorem in_X2_rootOf_X2 : ∀ w ∈ wsX20, w ∈ wsX2_rootOf := by decide +kernel
theorem in_X2_bit_X2 : ∀ w ∈ wsX20, w ∈ wsX2_bit := by decide +kernel
theorem in_X2_blocks_X2 : ∀ w ∈ wsX20, w ∈ wsX2_blocks := by decide +kernel
theorem in_X2_offset_X2 : ∀ w ∈ wsX20, w ∈ wsX2_offset := by decide +kernel
theorem in_X2_moved_X2 : ∀ w ∈ wsX20, w ∈ wsX2_moved := by decide +kernel
theorem in_X2_reads_X2 : ∀ w ∈ wsX20, w ∈ wsX2_reads := by decide +kernel
theorem in_X2_count_X2 : ∀ w ∈ wsX20, w ∈ wsX2_count := by decide +kernel
set_option maxHeartbeats 4000000 in
set_option maxRecDepth 100000 in
/-- isIn -/
theorem c_isIn (l : Launch) (x : Int32) (lo m : Nat) (h : Int32) (hlo : lo ≤ 1) (hm : m ≤ 5000) (hh : h.toInt = (m : Int) - 1) : Met l yX2_isIn wsX2_isIn ({ frames := 0, cells := 0, slots := 0, locals := 0 }) (va_Pc [.int x, .int (nI lo), .int h] (fun _ => True)) (vp_Si (fun r9 => r9 = bI (inL lo m x))) 0 0 (fun _ => False) := by
  refine Met.ofW (cc := cX2_isIn) (maxL := 3) (ret := (some .boolean)) (by decide) rfl ?_
  intro p e s m args below meth c s₁ B9 hml hv
  obtain ⟨rfl, -⟩ := hv
  have hx := B9.exec
  have hb := B9.bytes
  have hr := B9.returns
  have hts := atoms_spec (ws := wsX2_isIn) B9.pre
  have hown : s.vm.findClass RX2 = some m.cls := findClass_of_methodNamed B9.named
  have hlocks := B9.notSynchronized
  have hl := lv_entry ([.int x, .int (nI lo), .int h]) (n := 3) (Nat.le_of_ble_eq_true rfl)
  rw [lg_entry_eq]
  generalize (lg_sl ([.int x, .int (nI lo), .int h]) ++ List.replicate (3 - (lg_sl ([.int x, .int (nI lo), .int h])).length) Slot.unset).toArray = ls at hl ⊢
  have hl : lv_has ls 3 [(0, .int x), (1, .int (nI lo)), (2, .int h)] := hl
  rcases xk_sgn x with hneg | ⟨a, ha, rfl⟩
  · refine lv_iload_n hx hb dX2_isIn_0 rfl (lv_at hl 0 rfl) ?_
    refine lv_iload_n hx hb dX2_isIn_1 rfl (lv_at hl 1 rfl) ?_
    refine lv_icmp_lt (tgt := 14) hx hb dX2_isIn_2 (by decide) (fun c2 => ?_) (fun c2 => absurd (neg_lt hneg (by omega)) c2)
    refine lv_iconst (v := nI 0) hx hb dX2_isIn_14 (by decide +kernel) ?_
    exact W.zret hx hb hr rfl (fun t ht hW => ⟨_, rfl, bI_0 (inL_neg hneg), ht⟩) t_nil dX2_isIn_15
  · refine lv_iload_n hx hb dX2_isIn_0 rfl (lv_at hl 0 rfl) ?_
    refine lv_iload_n hx hb dX2_isIn_1 rfl (lv_at hl 1 rfl) ?_
    refine xk_icmp_lt (tgt := 14) hx hb (by omega) (by omega) dX2_isIn_2 (by decide) (fun c2 => ?_) (fun c2 => ?_)
    · refine lv_iconst (v := nI 0) hx hb dX2_isIn_14 (by decide +kernel) ?_
      exact W.zret hx hb hr rfl (fun t ht hW => ⟨_, rfl, bI_0 (by rw [inL_nat ha]; simp; omega), ht⟩) t_nil dX2_isIn_15
    · refine lv_iload_n hx hb dX2_isIn_5 rfl (lv_at hl 0 rfl) ?_
      refine lv_iload_n hx hb dX2_isIn_6 rfl (lv_at hl 2 rfl) ?_
      refine lv_icmp_gt (tgt := 14) hx hb dX2_isIn_7 (by decide) (fun c7 => ?_) (fun c7 => ?_)
      · refine lv_iconst (v := nI 0) hx hb dX2_isIn_14 (by decide +kernel) ?_
        exact W.zret hx hb hr rfl (fun t ht hW => ⟨_, rfl, bI_0 (by rw [inL_nat ha]; have := (hi_gt hh ha).mp c7; simp; omega), ht⟩) t_nil dX2_isIn_15
      · refine lv_iconst (v := nI 1) hx hb dX2_isIn_10 (by decide +kernel) ?_
        refine lv_goto (tgt := 15) hx hb dX2_isIn_11 (by decide) ?_
        exact W.zret hx hb hr rfl (fun t ht hW => ⟨_, rfl, bI_1 (by rw [inL_nat ha]; have := (not_congr (hi_gt hh ha)).mp c7; simp; omega), ht⟩) t_nil dX2_isIn_15
set_option maxHeartbeats 4000000 in
set_option maxRecDepth 100000 in
/-- plain -/
theorem c_mplain (l : Launch) (D : va_G) (cI cZ : ClassId) (h1 : Nat) (am : Nat → Nat) (th n B tp ob co lv : Nat) (wrd frs bgs fbs rts wnt far : Nat → Int32) (o : Nat) (ho : o ≤ 4000) (hh : wrd o = nI (tn (wrd o))) (hs : tn (wrd o) < 2 ^ 31) : Met l yX2_plain wsX2_plain ({ frames := 0, cells := 0, slots := 0, locals := 0 }) (va_Pc [.ref h1, .int (nI o)] (fun U => va_P D vwCl (mW cI cZ h1 am th n B tp ob co lv wrd frs bgs fbs rts wnt far) U.heap ∧ va_K D vwCl [(cI, .int), (cZ, .boolean)] U)) (vp_Si (fun r9 => r9 = nI (tn (wrd o) / 256))) 0 0 (fun _ => False) := by
  refine Met.ofW (cc := cX2_plain) (maxL := 2) (ret := (some .int)) (by decide) rfl ?_
  intro p e s m args below meth c s₁ B9 hml hv
  obtain ⟨rfl, hP, hK⟩ := hv
  have hx := B9.exec
  have hb := B9.bytes
  have hr := B9.returns
  have hts := atoms_spec (ws := wsX2_plain) B9.pre
  have hown : s.vm.findClass RX2 = some m.cls := findClass_of_methodNamed B9.named
  have hlocks := B9.notSynchronized
  have hl := lv_entry ([.ref h1, .int (nI o)]) (n := 2) (Nat.le_of_ble_eq_true rfl)
  rw [lg_entry_eq]
  generalize (lg_sl ([.ref h1, .int (nI o)]) ++ List.replicate (2 - (lg_sl ([.ref h1, .int (nI o)])).length) Slot.unset).toArray = ls at hl ⊢
  have hl : lv_has ls 2 [(0, .ref h1), (1, .int (nI o))] := hl
  refine lv_aload_n hx hb dX2_plain_0 rfl (lv_at hl 0 rfl) ?_
  refine va_get (D := D) (ci := 2) (v := .ref (am 1)) (C := RX2) (T := TX2) (N := 14) hx hb hts in_X2_plain_X2 hown hK hP 0 rfl rfl 7 (by decide) (hts (.fieldLink RX2 13 "OffsetHeapModel" "words" "[I") (by decide +kernel)) (fun _ h9 => h9) rfl dX2_plain_1 ?_
  refine lv_iload_n hx hb dX2_plain_4 rfl (lv_at hl 1 rfl) ?_
  refine xk_iald hx hb hK hP 1 0 rfl rfl (by omega) (by omega) dX2_plain_5 ?_
  refine xk_top hh ?_
  refine lv_sipush (v := nI 256) hx hb dX2_plain_6 (by decide +kernel) ?_
  refine lv_idiv hx hb dX2_plain_9 (nI_ne0 (by omega) (by omega)) ?_
  refine xk_top (pk_div (by omega) (by omega) (by omega)) ?_
  exact W.iret hx hb hr (fun t ht hW => ⟨_, rfl, rfl, ht⟩) t_nil dX2_plain_10
set_option maxHeartbeats 4000000 in
set_option maxRecDepth 100000 in
/-- references -/
theorem c_mreferences (l : Launch) (D : va_G) (cI cZ : ClassId) (h1 : Nat) (am : Nat → Nat) (th n B tp ob co lv : Nat) (wrd frs bgs fbs rts wnt far : Nat → Int32) (o : Nat) (ho : o ≤ 4000) (hh : wrd o = nI (tn (wrd o))) (hs : tn (wrd o) < 2 ^ 31) : Met l yX2_references wsX2_references ({ frames := 0, cells := 0, slots := 0, locals := 0 }) (va_Pc [.ref h1, .int (nI o)] (fun U => va_P D vwCl (mW cI cZ h1 am th n B tp ob co lv wrd frs bgs fbs rts wnt far) U.heap ∧ va_K D vwCl [(cI, .int), (cZ, .boolean)] U)) (vp_Si (fun r9 => r9 = nI (tn (wrd o) / 16 % 16))) 0 0 (fun _ => False) := by
  refine Met.ofW (cc := cX2_references) (maxL := 2) (ret := (some .int)) (by decide) rfl ?_
  intro p e s m args below meth c s₁ B9 hml hv
  obtain ⟨rfl, hP, hK⟩ := hv
  have hx := B9.exec
  have hb := B9.bytes
  have hr := B9.returns
  have hts := atoms_spec (ws := wsX2_references) B9.pre
  have hown : s.vm.findClass RX2 = some m.cls := findClass_of_methodNamed B9.named
  have hlocks := B9.notSynchronized
  have hl := lv_entry ([.ref h1, .int (nI o)]) (n := 2) (Nat.le_of_ble_eq_true rfl)
  rw [lg_entry_eq]
  generalize (lg_sl ([.ref h1, .int (nI o)]) ++ List.replicate (2 - (lg_sl ([.ref h1, .int (nI o)])).length) Slot.unset).toArray = ls at hl ⊢
  have hl : lv_has ls 2 [(0, .ref h1), (1, .int (nI o))] := hl
  refine lv_aload_n hx hb dX2_references_0 rfl (lv_at hl 0 rfl) ?_
  refine va_get (D := D) (ci := 2) (v := .ref (am 1)) (C := RX2) (T := TX2) (N := 14) hx hb hts in_X2_references_X2 hown hK hP 0 rfl rfl 7 (by decide) (hts (.fieldLink RX2 13 "OffsetHeapModel" "words" "[I") (by decide +kernel)) (fun _ h9 => h9) rfl dX2_references_1 ?_
  refine lv_iload_n hx hb dX2_references_4 rfl (lv_at hl 1 rfl) ?_
  refine xk_iald hx hb hK hP 1 0 rfl rfl (by omega) (by omega) dX2_references_5 ?_
  refine xk_top hh ?_
  refine lv_bipush (v := nI 16) hx hb dX2_references_6 (by decide +kernel) ?_
  refine lv_idiv hx hb dX2_references_8 (nI_ne0 (by omega) (by omega)) ?_
  refine xk_top (pk_div (by omega) (by omega) (by omega)) ?_
  refine lv_bipush (v := nI 16) hx hb dX2_references_9 (by decide +kernel) ?_
  refine lv_irem hx hb dX2_references_11 (nI_ne0 (by omega) (by omega)) ?_
  refine xk_top (pk_rem (by omega) (by omega) (by omega)) ?_
  exact W.iret hx hb hr (fun t ht hW => ⟨_, rfl, rfl, ht⟩) t_nil dX2_references_12
set_option maxHeartbeats 4000000 in
set_option maxRecDepth 100000 in
/-- length -/
theorem c_mlength (l : Launch) (D : va_G) (cI cZ : ClassId) (h1 : Nat) (am : Nat → Nat) (th n B tp ob co lv : Nat) (wrd frs bgs fbs rts wnt far : Nat → Int32) (o : Nat) (ho : o ≤ 4000) (hh : wrd o = nI (tn (wrd o))) (hs : tn (wrd o) < 2 ^ 31) : Met l yX2_length wsX2_length ({ frames := 1, cells := 0, slots := 0, locals := 30 }) (va_Pc [.ref h1, .int (nI o)] (fun U => va_P D vwCl (mW cI cZ h1 am th n B tp ob co lv wrd frs bgs fbs rts wnt far) U.heap ∧ va_K D vwCl [(cI, .int), (cZ, .boolean)] U)) (vp_Si (fun r9 => r9 = nI (1 + tn (wrd o) / 16 % 16 + tn (wrd o) / 256))) 0 0 (fun _ => False) := by
  refine Met.ofW (cc := cX2_length) (maxL := 2) (ret := (some .int)) (by decide) rfl ?_
  intro p e s m args below meth c s₁ B9 hml hv
  obtain ⟨rfl, hP, hK⟩ := hv
  have hx := B9.exec
  have hb := B9.bytes
  have hr := B9.returns
  have hts := atoms_spec (ws := wsX2_length) B9.pre
  have hown : s.vm.findClass RX2 = some m.cls := findClass_of_methodNamed B9.named
  have hlocks := B9.notSynchronized
  have hl := lv_entry ([.ref h1, .int (nI o)]) (n := 2) (Nat.le_of_ble_eq_true rfl)
  rw [lg_entry_eq]
  generalize (lg_sl ([.ref h1, .int (nI o)]) ++ List.replicate (2 - (lg_sl ([.ref h1, .int (nI o)])).length) Slot.unset).toArray = ls at hl ⊢
  have hl : lv_has ls 2 [(0, .ref h1), (1, .int (nI o))] := hl
  refine lv_iconst (v := nI 1) hx hb dX2_length_0 (by decide +kernel) ?_
  refine lv_aload_n hx hb dX2_length_1 rfl (lv_at hl 0 rfl) ?_
  refine lv_iload_n hx hb dX2_length_2 rfl (lv_at hl 1 rfl) ?_
  refine xk_roV (As := [.int (nI o)]) (rest := [.int (nI 1)]) ⟨hx, hb, hml, hown, hts⟩ (c_mreferences l D cI cZ h1 am th n B tp ob co lv wrd frs bgs fbs rts wnt far o (by omega) hh (by omega)) (cwV 1 hts gX2_length_X2_references rfl rfl rfl (by decide +kernel) ⟨Nat.le_of_ble_eq_true rfl, Nat.le_of_ble_eq_true rfl⟩) (va_recv hK hP (ci := 2) (q0 := 0) rfl rfl) hP hK rfl hl.1 rfl (Nat.le_of_ble_eq_true rfl) dX2_length_3 ⟨Nat.zero_le _, Nat.zero_le _⟩ ?_
  refine lv_iadd hx hb dX2_length_6 ?_
  refine xk_top (nI_add _ _) ?_
  refine lv_aload_n hx hb dX2_length_7 rfl (lv_at hl 0 rfl) ?_
  refine lv_iload_n hx hb dX2_length_8 rfl (lv_at hl 1 rfl) ?_
  refine xk_roV (As := [.int (nI o)]) (rest := [.int (nI (1 + (tn (wrd o) / 16 % 16)))]) ⟨hx, hb, hml, hown, hts⟩ (c_mplain l D cI cZ h1 am th n B tp ob co lv wrd frs bgs fbs rts wnt far o (by omega) hh (by omega)) (cwV 1 hts gX2_length_X2_plain rfl rfl rfl (by decide +kernel) ⟨Nat.le_of_ble_eq_true rfl, Nat.le_of_ble_eq_true rfl⟩) (va_recv hK hP (ci := 2) (q0 := 0) rfl rfl) hP hK rfl hl.1 rfl (Nat.le_of_ble_eq_true rfl) dX2_length_9 ⟨Nat.zero_le _, Nat.zero_le _⟩ ?_
  refine lv_iadd hx hb dX2_length_12 ?_
  refine xk_top (nI_add _ _) ?_
  exact W.iret hx hb hr (fun t ht hW => ⟨_, rfl, rfl, ht⟩) t_nil dX2_length_13
set_option maxHeartbeats 4000000 in
set_option maxRecDepth 100000 in
/-- blocks -/
theorem c_mblocks (l : Launch) (D : va_G) (cI cZ : ClassId) (h1 : Nat) (am : Nat → Nat) (th n B tp ob co lv : Nat) (wrd frs bgs fbs rts wnt far : Nat → Int32) (hn : n ≤ 4000) (hB : okB B) : Met l yX2_blocks wsX2_blocks ({ frames := 0, cells := 0, slots := 0, locals := 0 }) (va_Pc [.ref h1] (fun U => va_P D vwCl (mW cI cZ h1 am th n B tp ob co lv wrd frs bgs fbs rts wnt far) U.heap ∧ va_K D vwCl [(cI, .int), (cZ, .boolean)] U)) (vp_Si (fun r9 => r9 = nI (n / B + 1))) 0 0 (fun _ => False) := by
  refine Met.ofW (cc := cX2_blocks) (maxL := 1) (ret := (some .int)) (by decide) rfl ?_
  intro p e s m args below meth c s₁ B9 hml hv
  obtain ⟨rfl, hP, hK⟩ := hv
  have hx := B9.exec
  have hb := B9.bytes
  have hr := B9.returns
  have hts := atoms_spec (ws := wsX2_blocks) B9.pre
  have hown : s.vm.findClass RX2 = some m.cls := findClass_of_methodNamed B9.named
  have hlocks := B9.notSynchronized
  have hl := lv_entry ([.ref h1]) (n := 1) (Nat.le_of_ble_eq_true rfl)
  rw [lg_entry_eq]
  generalize (lg_sl ([.ref h1]) ++ List.replicate (1 - (lg_sl ([.ref h1])).length) Slot.unset).toArray = ls at hl ⊢
  have hl : lv_has ls 1 [(0, .ref h1)] := hl
  obtain ⟨hb1, hb2, hb3⟩ := okB_nb hB hn
  refine lv_aload_n hx hb dX2_blocks_0 rfl (lv_at hl 0 rfl) ?_
  refine va_get (D := D) (ci := 2) (v := .int (nI n)) (C := RX2) (T := TX2) (N := 14) hx hb hts in_X2_blocks_X2 hown hK hP 0 rfl rfl 1 (by decide) (hts (.fieldLink RX2 36 "OffsetHeapModel" "most" "I") (by decide +kernel)) (fun _ h9 => h9) rfl dX2_blocks_1 ?_
  refine lv_aload_n hx hb dX2_blocks_4 rfl (lv_at hl 0 rfl) ?_
  refine va_get (D := D) (ci := 2) (v := .int (nI B)) (C := RX2) (T := TX2) (N := 14) hx hb hts in_X2_blocks_X2 hown hK hP 0 rfl rfl 2 (by decide) (hts (.fieldLink RX2 39 "OffsetHeapModel" "block" "I") (by decide +kernel)) (fun _ h9 => h9) rfl dX2_blocks_5 ?_
  refine lv_idiv hx hb dX2_blocks_8 (nI_ne0 (by omega) (by omega)) ?_
  refine xk_top (pk_div (by omega) (by omega) (by omega)) ?_
  refine lv_iconst (v := nI 1) hx hb dX2_blocks_9 (by decide +kernel) ?_
  refine lv_iadd hx hb dX2_blocks_10 ?_
  refine xk_top (nI_add _ _) ?_
  exact W.iret hx hb hr (fun t ht hW => ⟨_, rfl, rfl, ht⟩) t_nil dX2_blocks_11
set_option maxHeartbeats 4000000 in
set_option maxRecDepth 100000 in
/-- reads -/
theorem c_mreads (l : Launch) (D : va_G) (cI cZ : ClassId) (h1 : Nat) (am : Nat → Nat) (th n B tp ob co lv : Nat) (wrd frs bgs fbs rts wnt far : Nat → Int32)  : Met l yX2_reads wsX2_reads ({ frames := 0, cells := 0, slots := 0, locals := 0 }) (va_Pc [.ref h1] (fun U => va_P D vwCl (mW cI cZ h1 am th n B tp ob co lv wrd frs bgs fbs rts wnt far) U.heap ∧ va_K D vwCl [(cI, .int), (cZ, .boolean)] U)) (vp_Si (fun r9 => r9 = nI lv)) 0 0 (fun _ => False) := by
  refine Met.ofW (cc := cX2_reads) (maxL := 1) (ret := (some .int)) (by decide) rfl ?_
  intro p e s m args below meth c s₁ B9 hml hv
  obtain ⟨rfl, hP, hK⟩ := hv
  have hx := B9.exec
  have hb := B9.bytes
  have hr := B9.returns
  have hts := atoms_spec (ws := wsX2_reads) B9.pre
  have hown : s.vm.findClass RX2 = some m.cls := findClass_of_methodNamed B9.named
  have hlocks := B9.notSynchronized
  have hl := lv_entry ([.ref h1]) (n := 1) (Nat.le_of_ble_eq_true rfl)
  rw [lg_entry_eq]
  generalize (lg_sl ([.ref h1]) ++ List.replicate (1 - (lg_sl ([.ref h1])).length) Slot.unset).toArray = ls at hl ⊢
  have hl : lv_has ls 1 [(0, .ref h1)] := hl
  refine lv_aload_n hx hb dX2_reads_0 rfl (lv_at hl 0 rfl) ?_
  refine va_get (D := D) (ci := 2) (v := .int (nI lv)) (C := RX2) (T := TX2) (N := 14) hx hb hts in_X2_reads_X2 hown hK hP 0 rfl rfl 6 (by decide) (hts (.fieldLink RX2 73 "OffsetHeapModel" "lived" "I") (by decide +kernel)) (fun _ h9 => h9) rfl dX2_reads_1 ?_
  exact W.iret hx hb hr (fun t ht hW => ⟨_, rfl, rfl, ht⟩) t_nil dX2_reads_4
set_option maxHeartbeats 4000000 in
set_option maxRecDepth 100000 in
/-- isWord -/
theorem c_misWord (l : Launch) (D : va_G) (cI cZ : ClassId) (h1 : Nat) (am : Nat → Nat) (th n B tp ob co lv : Nat) (wrd frs bgs fbs rts wnt far : Nat → Int32) (x : Int32) (hn : n ≤ 4000) : Met l yX2_isWord wsX2_isWord ({ frames := 1, cells := 0, slots := 0, locals := 30 }) (va_Pc [.ref h1, .int x] (fun U => va_P D vwCl (mW cI cZ h1 am th n B tp ob co lv wrd frs bgs fbs rts wnt far) U.heap ∧ va_K D vwCl [(cI, .int), (cZ, .boolean)] U)) (vp_Si (fun r9 => r9 = bI (inR (n + 1) x))) 0 0 (fun _ => False) := by
  refine Met.ofW (cc := cX2_isWord) (maxL := 2) (ret := (some .boolean)) (by decide) rfl ?_
  intro p e s m args below meth c s₁ B9 hml hv
  obtain ⟨rfl, hP, hK⟩ := hv
  have hx := B9.exec
  have hb := B9.bytes
  have hr := B9.returns
  have hts := atoms_spec (ws := wsX2_isWord) B9.pre
  have hown : s.vm.findClass RX2 = some m.cls := findClass_of_methodNamed B9.named
  have hlocks := B9.notSynchronized
  have hl := lv_entry ([.ref h1, .int x]) (n := 2) (Nat.le_of_ble_eq_true rfl)
  rw [lg_entry_eq]
  generalize (lg_sl ([.ref h1, .int x]) ++ List.replicate (2 - (lg_sl ([.ref h1, .int x])).length) Slot.unset).toArray = ls at hl ⊢
  have hl : lv_has ls 2 [(0, .ref h1), (1, .int x)] := hl
  refine lv_iload_n hx hb dX2_isWord_0 rfl (lv_at hl 1 rfl) ?_
  refine lv_iconst (v := nI 0) hx hb dX2_isWord_1 (by decide +kernel) ?_
  refine lv_aload_n hx hb dX2_isWord_2 rfl (lv_at hl 0 rfl) ?_
  refine va_get (D := D) (ci := 2) (v := .int (nI n)) (C := RX2) (T := TX2) (N := 14) hx hb hts in_X2_isWord_X2 hown hK hP 0 rfl rfl 1 (by decide) (hts (.fieldLink RX2 36 "OffsetHeapModel" "most" "I") (by decide +kernel)) (fun _ h9 => h9) rfl dX2_isWord_3 ?_
  refine xk_roS (As := [.int x, .int (nI 0), .int (nI n)]) (rest := []) ⟨hx, hb, hml, hown, hts⟩ (c_isIn l x 0 (n + 1) (nI n) (by omega) (by omega) (hi_n (by omega))) (va_cwS 3 hts gX2_isWord_X2_isIn rfl rfl rfl (by decide +kernel) ⟨Nat.le_of_ble_eq_true rfl, Nat.le_of_ble_eq_true rfl⟩) rfl hl.1 rfl (Nat.le_of_ble_eq_true rfl) dX2_isWord_6 ⟨Nat.zero_le _, Nat.zero_le _⟩ ?_
  exact W.zret hx hb hr (bI_nar _) (fun t ht hW => ⟨_, rfl, by rw [inL_0], ht⟩) t_nil dX2_isWord_9
set_option maxHeartbeats 4000000 in
set_option maxRecDepth 100000 in
/-- isObject -/
theorem c_misObject (l : Launch) (D : va_G) (cI cZ : ClassId) (h1 : Nat) (am : Nat → Nat) (th n B tp ob co lv : Nat) (wrd frs bgs fbs rts wnt far : Nat → Int32) (st : Nat → Bool) (x : Int32) (hok : okS n tp wrd st rts) (hbg : ∀ a, a ≤ n → bgs a = bI (st a)) : Met l yX2_isObject wsX2_isObject ({ frames := 1, cells := 0, slots := 0, locals := 30 }) (va_Pc [.ref h1, .int x] (fun U => va_P D vwCl (mW cI cZ h1 am th n B tp ob co lv wrd frs bgs fbs rts wnt far) U.heap ∧ va_K D vwCl [(cI, .int), (cZ, .boolean)] U)) (vp_Si (fun r9 => r9 = bI (isO tp st x))) 0 0 (fun _ => False) := by
  refine Met.ofW (cc := cX2_isObject) (maxL := 2) (ret := (some .boolean)) (by decide) rfl ?_
  intro p e s m args below meth c s₁ B9 hml hv
  obtain ⟨rfl, hP, hK⟩ := hv
  have hx := B9.exec
  have hb := B9.bytes
  have hr := B9.returns
  have hts := atoms_spec (ws := wsX2_isObject) B9.pre
  have hown : s.vm.findClass RX2 = some m.cls := findClass_of_methodNamed B9.named
  have hlocks := B9.notSynchronized
  have hl := lv_entry ([.ref h1, .int x]) (n := 2) (Nat.le_of_ble_eq_true rfl)
  rw [lg_entry_eq]
  generalize (lg_sl ([.ref h1, .int x]) ++ List.replicate (2 - (lg_sl ([.ref h1, .int x])).length) Slot.unset).toArray = ls at hl ⊢
  have hl : lv_has ls 2 [(0, .ref h1), (1, .int x)] := hl
  have hn := hok.1.2.2
  have htp := hok.1.2.1
  rcases xk_sgn x with hneg | ⟨a, ha, rfl⟩
  · refine lv_iload_n hx hb dX2_isObject_0 rfl (lv_at hl 1 rfl) ?_
    refine lv_iconst (v := nI 1) hx hb dX2_isObject_1 (by decide +kernel) ?_
    refine lv_aload_n hx hb dX2_isObject_2 rfl (lv_at hl 0 rfl) ?_
    refine va_get (D := D) (ci := 2) (v := .int (nI n)) (C := RX2) (T := TX2) (N := 14) hx hb hts in_X2_isObject_X2 hown hK hP 0 rfl rfl 1 (by decide) (hts (.fieldLink RX2 36 "OffsetHeapModel" "most" "I") (by decide +kernel)) (fun _ h9 => h9) rfl dX2_isObject_3 ?_
    refine xk_roS (As := [.int x, .int (nI 1), .int (nI n)]) (rest := []) ⟨hx, hb, hml, hown, hts⟩ (c_isIn l x 1 (n + 1) (nI n) (by omega) (by omega) (hi_n (by omega))) (va_cwS 3 hts gX2_isObject_X2_isIn rfl rfl rfl (by decide +kernel) ⟨Nat.le_of_ble_eq_true rfl, Nat.le_of_ble_eq_true rfl⟩) rfl hl.1 rfl (Nat.le_of_ble_eq_true rfl) dX2_isObject_6 ⟨Nat.zero_le _, Nat.zero_le _⟩ ?_
    refine xk_if_eqB (tgt := 25) hx hb dX2_isObject_9 (by decide) (fun c9 => ?_) (fun c9 => absurd c9 (by rw [inL_neg hneg]; decide))
    refine lv_iconst (v := nI 0) hx hb dX2_isObject_25 (by decide +kernel) ?_
    exact W.zret hx hb hr rfl (fun t ht hW => ⟨_, rfl, bI_0 (isO_neg hneg), ht⟩) t_nil dX2_isObject_26
  · refine lv_iload_n hx hb dX2_isObject_0 rfl (lv_at hl 1 rfl) ?_
    refine lv_iconst (v := nI 1) hx hb dX2_isObject_1 (by decide +kernel) ?_
    refine lv_aload_n hx hb dX2_isObject_2 rfl (lv_at hl 0 rfl) ?_
    refine va_get (D := D) (ci := 2) (v := .int (nI n)) (C := RX2) (T := TX2) (N := 14) hx hb hts in_X2_isObject_X2 hown hK hP 0 rfl rfl 1 (by decide) (hts (.fieldLink RX2 36 "OffsetHeapModel" "most" "I") (by decide +kernel)) (fun _ h9 => h9) rfl dX2_isObject_3 ?_
    refine xk_roS (As := [.int (nI a), .int (nI 1), .int (nI n)]) (rest := []) ⟨hx, hb, hml, hown, hts⟩ (c_isIn l (nI a) 1 (n + 1) (nI n) (by omega) (by omega) (hi_n (by omega))) (va_cwS 3 hts gX2_isObject_X2_isIn rfl rfl rfl (by decide +kernel) ⟨Nat.le_of_ble_eq_true rfl, Nat.le_of_ble_eq_true rfl⟩) rfl hl.1 rfl (Nat.le_of_ble_eq_true rfl) dX2_isObject_6 ⟨Nat.zero_le _, Nat.zero_le _⟩ ?_
    refine xk_if_eqB (tgt := 25) hx hb dX2_isObject_9 (by decide) (fun c9 => ?_) (fun c9 => ?_)
    · rw [inL_nat ha] at c9; simp at c9
      refine lv_iconst (v := nI 0) hx hb dX2_isObject_25 (by decide +kernel) ?_
      exact W.zret hx hb hr rfl (fun t ht hW => ⟨_, rfl, bI_0 (by rw [isO_nat ha]; simp; omega), ht⟩) t_nil dX2_isObject_26
    · rw [inL_nat ha] at c9; simp at c9
      refine lv_aload_n hx hb dX2_isObject_12 rfl (lv_at hl 0 rfl) ?_
      refine va_get (D := D) (ci := 2) (v := .ref (am 3)) (C := RX2) (T := TX2) (N := 14) hx hb hts in_X2_isObject_X2 hown hK hP 0 rfl rfl 9 (by decide) (hts (.fieldLink RX2 20 "OffsetHeapModel" "begins" "[Z") (by decide +kernel)) (fun _ h9 => h9) rfl dX2_isObject_13 ?_
      refine lv_iload_n hx hb dX2_isObject_16 rfl (lv_at hl 1 rfl) ?_
      refine xk_zald hx hb hK hP 3 1 rfl rfl (by omega) (by omega) dX2_isObject_17 ?_
      refine xk_top (hbg a (by omega)) ?_
      refine xk_if_eqB (tgt := 25) hx hb dX2_isObject_18 (by decide) (fun c18 => ?_) (fun c18 => ?_)
      · refine lv_iconst (v := nI 0) hx hb dX2_isObject_25 (by decide +kernel) ?_
        exact W.zret hx hb hr rfl (fun t ht hW => ⟨_, rfl, bI_0 (by rw [isO_nat ha, c18]; simp), ht⟩) t_nil dX2_isObject_26
      · refine lv_iconst (v := nI 1) hx hb dX2_isObject_21 (by decide +kernel) ?_
        refine lv_goto (tgt := 26) hx hb dX2_isObject_22 (by decide) ?_
        exact W.zret hx hb hr rfl (fun t ht hW => ⟨_, rfl, bI_1 (isO_st hok ha (by omega) (by omega) c18), ht⟩) t_nil dX2_isObject_26
set_option maxHeartbeats 4000000 in
set_option maxRecDepth 100000 in
/-- isLead -/
theorem c_misLead (l : Launch) (D : va_G) (cI cZ : ClassId) (h1 : Nat) (am : Nat → Nat) (th n B tp ob co lv : Nat) (wrd frs bgs fbs rts wnt far : Nat → Int32) (st : Nat → Bool) (x : Int32) (hok : okS n tp wrd st rts) (hbg : ∀ a, a ≤ n → bgs a = bI (st a)) : Met l yX2_isLead wsX2_isLead ({ frames := 2, cells := 0, slots := 0, locals := 60 }) (va_Pc [.ref h1, .int x] (fun U => va_P D vwCl (mW cI cZ h1 am th n B tp ob co lv wrd frs bgs fbs rts wnt far) U.heap ∧ va_K D vwCl [(cI, .int), (cZ, .boolean)] U)) (vp_Si (fun r9 => r9 = bI (isL tp st x))) 0 0 (fun _ => False) := by
  refine Met.ofW (cc := cX2_isLead) (maxL := 2) (ret := (some .boolean)) (by decide) rfl ?_
  intro p e s m args below meth c s₁ B9 hml hv
  obtain ⟨rfl, hP, hK⟩ := hv
  have hx := B9.exec
  have hb := B9.bytes
  have hr := B9.returns
  have hts := atoms_spec (ws := wsX2_isLead) B9.pre
  have hown : s.vm.findClass RX2 = some m.cls := findClass_of_methodNamed B9.named
  have hlocks := B9.notSynchronized
  have hl := lv_entry ([.ref h1, .int x]) (n := 2) (Nat.le_of_ble_eq_true rfl)
  rw [lg_entry_eq]
  generalize (lg_sl ([.ref h1, .int x]) ++ List.replicate (2 - (lg_sl ([.ref h1, .int x])).length) Slot.unset).toArray = ls at hl ⊢
  have hl : lv_has ls 2 [(0, .ref h1), (1, .int x)] := hl
  refine lv_iload_n hx hb dX2_isLead_0 rfl (lv_at hl 1 rfl) ?_
  refine lv_if_eq (tgt := 12) hx hb dX2_isLead_1 (by decide) (fun c1 => ?_) (fun c1 => ?_)
  · refine lv_iconst (v := nI 1) hx hb dX2_isLead_12 (by decide +kernel) ?_
    refine lv_goto (tgt := 17) hx hb dX2_isLead_13 (by decide) ?_
    exact W.zret hx hb hr rfl (fun t ht hW => ⟨_, rfl, bI_1 (by rw [c1]; exact isL_0), ht⟩) t_nil dX2_isLead_17
  · refine lv_aload_n hx hb dX2_isLead_4 rfl (lv_at hl 0 rfl) ?_
    refine lv_iload_n hx hb dX2_isLead_5 rfl (lv_at hl 1 rfl) ?_
    refine xk_roV (As := [.int x]) (rest := []) ⟨hx, hb, hml, hown, hts⟩ (c_misObject l D cI cZ h1 am th n B tp ob co lv wrd frs bgs fbs rts wnt far st x hok hbg) (cwV 1 hts gX2_isLead_X2_isObject rfl rfl rfl (by decide +kernel) ⟨Nat.le_of_ble_eq_true rfl, Nat.le_of_ble_eq_true rfl⟩) (va_recv hK hP (ci := 2) (q0 := 0) rfl rfl) hP hK rfl hl.1 rfl (Nat.le_of_ble_eq_true rfl) dX2_isLead_6 ⟨Nat.zero_le _, Nat.zero_le _⟩ ?_
    refine xk_if_eqB (tgt := 16) hx hb dX2_isLead_9 (by decide) (fun c9 => ?_) (fun c9 => ?_)
    · refine lv_iconst (v := nI 0) hx hb dX2_isLead_16 (by decide +kernel) ?_
      exact W.zret hx hb hr rfl (fun t ht hW => ⟨_, rfl, bI_0 (by rw [isL_O c1]; exact c9), ht⟩) t_nil dX2_isLead_17
    · refine lv_iconst (v := nI 1) hx hb dX2_isLead_12 (by decide +kernel) ?_
      refine lv_goto (tgt := 17) hx hb dX2_isLead_13 (by decide) ?_
      exact W.zret hx hb hr rfl (fun t ht hW => ⟨_, rfl, bI_1 (by rw [isL_O c1]; exact c9), ht⟩) t_nil dX2_isLead_17
set_option maxHeartbeats 4000000 in
set_option maxRecDepth 100000 in
/-- word -/
theorem c_mword (l : Launch) (D : va_G) (cI cZ : ClassId) (h1 : Nat) (am : Nat → Nat) (th n B tp ob co lv : Nat) (wrd frs bgs fbs rts wnt far : Nat → Int32) (x : Int32) (hn : n ≤ 4000) : Met l yX2_word wsX2_word ({ frames := 2, cells := 0, slots := 0, locals := 60 }) (va_Pc [.ref h1, .int x] (fun U => va_P D vwCl (mW cI cZ h1 am th n B tp ob co lv wrd frs bgs fbs rts wnt far) U.heap ∧ va_K D vwCl [(cI, .int), (cZ, .boolean)] U)) (vp_Si (fun r9 => r9 = atR (n + 1) wrd x)) 0 0 (fun _ => False) := by
  refine Met.ofW (cc := cX2_word) (maxL := 2) (ret := (some .int)) (by decide) rfl ?_
  intro p e s m args below meth c s₁ B9 hml hv
  obtain ⟨rfl, hP, hK⟩ := hv
  have hx := B9.exec
  have hb := B9.bytes
  have hr := B9.returns
  have hts := atoms_spec (ws := wsX2_word) B9.pre
  have hown : s.vm.findClass RX2 = some m.cls := findClass_of_methodNamed B9.named
  have hlocks := B9.notSynchronized
  have hl := lv_entry ([.ref h1, .int x]) (n := 2) (Nat.le_of_ble_eq_true rfl)
  rw [lg_entry_eq]
  generalize (lg_sl ([.ref h1, .int x]) ++ List.replicate (2 - (lg_sl ([.ref h1, .int x])).length) Slot.unset).toArray = ls at hl ⊢
  have hl : lv_has ls 2 [(0, .ref h1), (1, .int x)] := hl
  rcases xk_sgn x with hneg | ⟨a, ha, rfl⟩
  · refine lv_aload_n hx hb dX2_word_0 rfl (lv_at hl 0 rfl) ?_
    refine lv_iload_n hx hb dX2_word_1 rfl (lv_at hl 1 rfl) ?_
    refine xk_roV (As := [.int x]) (rest := []) ⟨hx, hb, hml, hown, hts⟩ (c_misWord l D cI cZ h1 am th n B tp ob co lv wrd frs bgs fbs rts wnt far x hn) (cwV 1 hts gX2_word_X2_isWord rfl rfl rfl (by decide +kernel) ⟨Nat.le_of_ble_eq_true rfl, Nat.le_of_ble_eq_true rfl⟩) (va_recv hK hP (ci := 2) (q0 := 0) rfl rfl) hP hK rfl hl.1 rfl (Nat.le_of_ble_eq_true rfl) dX2_word_2 ⟨Nat.zero_le _, Nat.zero_le _⟩ ?_
    refine xk_if_eqB (tgt := 17) hx hb dX2_word_5 (by decide) (fun c5 => ?_) (fun c5 => absurd c5 (by rw [inR_neg hneg]; decide))
    refine lv_iconst (v := (-1)) hx hb dX2_word_17 (by decide +kernel) ?_
    exact W.iret hx hb hr (fun t ht hW => ⟨_, rfl, (atR_neg hneg).symm, ht⟩) t_nil dX2_word_18
  · refine lv_aload_n hx hb dX2_word_0 rfl (lv_at hl 0 rfl) ?_
    refine lv_iload_n hx hb dX2_word_1 rfl (lv_at hl 1 rfl) ?_
    refine xk_roV (As := [.int (nI a)]) (rest := []) ⟨hx, hb, hml, hown, hts⟩ (c_misWord l D cI cZ h1 am th n B tp ob co lv wrd frs bgs fbs rts wnt far (nI a) hn) (cwV 1 hts gX2_word_X2_isWord rfl rfl rfl (by decide +kernel) ⟨Nat.le_of_ble_eq_true rfl, Nat.le_of_ble_eq_true rfl⟩) (va_recv hK hP (ci := 2) (q0 := 0) rfl rfl) hP hK rfl hl.1 rfl (Nat.le_of_ble_eq_true rfl) dX2_word_2 ⟨Nat.zero_le _, Nat.zero_le _⟩ ?_
    refine xk_if_eqB (tgt := 17) hx hb dX2_word_5 (by decide) (fun c5 => ?_) (fun c5 => ?_)
    · rw [inR_nat ha] at c5; simp at c5
      refine lv_iconst (v := (-1)) hx hb dX2_word_17 (by decide +kernel) ?_
      exact W.iret hx hb hr (fun t ht hW => ⟨_, rfl, (atR_out ha (by omega)).symm, ht⟩) t_nil dX2_word_18
    · rw [inR_nat ha] at c5; simp at c5
      refine lv_aload_n hx hb dX2_word_8 rfl (lv_at hl 0 rfl) ?_
      refine va_get (D := D) (ci := 2) (v := .ref (am 1)) (C := RX2) (T := TX2) (N := 14) hx hb hts in_X2_word_X2 hown hK hP 0 rfl rfl 7 (by decide) (hts (.fieldLink RX2 13 "OffsetHeapModel" "words" "[I") (by decide +kernel)) (fun _ h9 => h9) rfl dX2_word_9 ?_
      refine lv_iload_n hx hb dX2_word_12 rfl (lv_at hl 1 rfl) ?_
      refine xk_iald hx hb hK hP 1 0 rfl rfl (by omega) (by omega) dX2_word_13 ?_
      refine lv_goto (tgt := 18) hx hb dX2_word_14 (by decide) ?_
      exact W.iret hx hb hr (fun t ht hW => ⟨_, rfl, (atR_in ha (by omega)).symm, ht⟩) t_nil dX2_word_18
set_option maxHeartbeats 4000000 in
set_option maxRecDepth 100000 in
/-- moved -/
theorem c_mmoved (l : Launch) (D : va_G) (cI cZ : ClassId) (h1 : Nat) (am : Nat → Nat) (th n B tp ob co lv : Nat) (wrd frs bgs fbs rts wnt far : Nat → Int32) (x : Int32) (hn : n ≤ 4000) : Met l yX2_moved wsX2_moved ({ frames := 2, cells := 0, slots := 0, locals := 60 }) (va_Pc [.ref h1, .int x] (fun U => va_P D vwCl (mW cI cZ h1 am th n B tp ob co lv wrd frs bgs fbs rts wnt far) U.heap ∧ va_K D vwCl [(cI, .int), (cZ, .boolean)] U)) (vp_Si (fun r9 => r9 = atR (n + 1) wnt x)) 0 0 (fun _ => False) := by
  refine Met.ofW (cc := cX2_moved) (maxL := 2) (ret := (some .int)) (by decide) rfl ?_
  intro p e s m args below meth c s₁ B9 hml hv
  obtain ⟨rfl, hP, hK⟩ := hv
  have hx := B9.exec
  have hb := B9.bytes
  have hr := B9.returns
  have hts := atoms_spec (ws := wsX2_moved) B9.pre
  have hown : s.vm.findClass RX2 = some m.cls := findClass_of_methodNamed B9.named
  have hlocks := B9.notSynchronized
  have hl := lv_entry ([.ref h1, .int x]) (n := 2) (Nat.le_of_ble_eq_true rfl)
  rw [lg_entry_eq]
  generalize (lg_sl ([.ref h1, .int x]) ++ List.replicate (2 - (lg_sl ([.ref h1, .int x])).length) Slot.unset).toArray = ls at hl ⊢
  have hl : lv_has ls 2 [(0, .ref h1), (1, .int x)] := hl
  rcases xk_sgn x with hneg | ⟨a, ha, rfl⟩
  · refine lv_aload_n hx hb dX2_moved_0 rfl (lv_at hl 0 rfl) ?_
    refine lv_iload_n hx hb dX2_moved_1 rfl (lv_at hl 1 rfl) ?_
    refine xk_roV (As := [.int x]) (rest := []) ⟨hx, hb, hml, hown, hts⟩ (c_misWord l D cI cZ h1 am th n B tp ob co lv wrd frs bgs fbs rts wnt far x hn) (cwV 1 hts gX2_moved_X2_isWord rfl rfl rfl (by decide +kernel) ⟨Nat.le_of_ble_eq_true rfl, Nat.le_of_ble_eq_true rfl⟩) (va_recv hK hP (ci := 2) (q0 := 0) rfl rfl) hP hK rfl hl.1 rfl (Nat.le_of_ble_eq_true rfl) dX2_moved_2 ⟨Nat.zero_le _, Nat.zero_le _⟩ ?_
    refine xk_if_eqB (tgt := 17) hx hb dX2_moved_5 (by decide) (fun c5 => ?_) (fun c5 => absurd c5 (by rw [inR_neg hneg]; decide))
    refine lv_iconst (v := (-1)) hx hb dX2_moved_17 (by decide +kernel) ?_
    exact W.iret hx hb hr (fun t ht hW => ⟨_, rfl, (atR_neg hneg).symm, ht⟩) t_nil dX2_moved_18
  · refine lv_aload_n hx hb dX2_moved_0 rfl (lv_at hl 0 rfl) ?_
    refine lv_iload_n hx hb dX2_moved_1 rfl (lv_at hl 1 rfl) ?_
    refine xk_roV (As := [.int (nI a)]) (rest := []) ⟨hx, hb, hml, hown, hts⟩ (c_misWord l D cI cZ h1 am th n B tp ob co lv wrd frs bgs fbs rts wnt far (nI a) hn) (cwV 1 hts gX2_moved_X2_isWord rfl rfl rfl (by decide +kernel) ⟨Nat.le_of_ble_eq_true rfl, Nat.le_of_ble_eq_true rfl⟩) (va_recv hK hP (ci := 2) (q0 := 0) rfl rfl) hP hK rfl hl.1 rfl (Nat.le_of_ble_eq_true rfl) dX2_moved_2 ⟨Nat.zero_le _, Nat.zero_le _⟩ ?_
    refine xk_if_eqB (tgt := 17) hx hb dX2_moved_5 (by decide) (fun c5 => ?_) (fun c5 => ?_)
    · rw [inR_nat ha] at c5; simp at c5
      refine lv_iconst (v := (-1)) hx hb dX2_moved_17 (by decide +kernel) ?_
      exact W.iret hx hb hr (fun t ht hW => ⟨_, rfl, (atR_out ha (by omega)).symm, ht⟩) t_nil dX2_moved_18
    · rw [inR_nat ha] at c5; simp at c5
      refine lv_aload_n hx hb dX2_moved_8 rfl (lv_at hl 0 rfl) ?_
      refine va_get (D := D) (ci := 2) (v := .ref (am 6)) (C := RX2) (T := TX2) (N := 14) hx hb hts in_X2_moved_X2 hown hK hP 0 rfl rfl 12 (by decide) (hts (.fieldLink RX2 30 "OffsetHeapModel" "went" "[I") (by decide +kernel)) (fun _ h9 => h9) rfl dX2_moved_9 ?_
      refine lv_iload_n hx hb dX2_moved_12 rfl (lv_at hl 1 rfl) ?_
      refine xk_iald hx hb hK hP 6 0 rfl rfl (by omega) (by omega) dX2_moved_13 ?_
      refine lv_goto (tgt := 18) hx hb dX2_moved_14 (by decide) ?_
      exact W.iret hx hb hr (fun t ht hW => ⟨_, rfl, (atR_in ha (by omega)).symm, ht⟩) t_nil dX2_moved_18
set_option maxHeartbeats 4000000 in
set_option maxRecDepth 100000 in
/-- rootOf -/
theorem c_mrootOf (l : Launch) (D : va_G) (cI cZ : ClassId) (h1 : Nat) (am : Nat → Nat) (th n B tp ob co lv : Nat) (wrd frs bgs fbs rts wnt far : Nat → Int32) (x : Int32) : Met l yX2_rootOf wsX2_rootOf ({ frames := 1, cells := 0, slots := 0, locals := 30 }) (va_Pc [.ref h1, .int x] (fun U => va_P D vwCl (mW cI cZ h1 am th n B tp ob co lv wrd frs bgs fbs rts wnt far) U.heap ∧ va_K D vwCl [(cI, .int), (cZ, .boolean)] U)) (vp_Si (fun r9 => r9 = atR 8 rts x)) 0 0 (fun _ => False) := by
  refine Met.ofW (cc := cX2_rootOf) (maxL := 2) (ret := (some .int)) (by decide) rfl ?_
  intro p e s m args below meth c s₁ B9 hml hv
  obtain ⟨rfl, hP, hK⟩ := hv
  have hx := B9.exec
  have hb := B9.bytes
  have hr := B9.returns
  have hts := atoms_spec (ws := wsX2_rootOf) B9.pre
  have hown : s.vm.findClass RX2 = some m.cls := findClass_of_methodNamed B9.named
  have hlocks := B9.notSynchronized
  have hl := lv_entry ([.ref h1, .int x]) (n := 2) (Nat.le_of_ble_eq_true rfl)
  rw [lg_entry_eq]
  generalize (lg_sl ([.ref h1, .int x]) ++ List.replicate (2 - (lg_sl ([.ref h1, .int x])).length) Slot.unset).toArray = ls at hl ⊢
  have hl : lv_has ls 2 [(0, .ref h1), (1, .int x)] := hl
  rcases xk_sgn x with hneg | ⟨a, ha, rfl⟩
  · refine lv_iload_n hx hb dX2_rootOf_0 rfl (lv_at hl 1 rfl) ?_
    refine lv_iconst (v := nI 0) hx hb dX2_rootOf_1 (by decide +kernel) ?_
    refine lv_bipush (v := nI 7) hx hb dX2_rootOf_2 (by decide +kernel) ?_
    refine xk_roS (As := [.int x, .int (nI 0), .int (nI 7)]) (rest := []) ⟨hx, hb, hml, hown, hts⟩ (c_isIn l x 0 (8) (nI 7) (by omega) (by omega) (by decide)) (va_cwS 3 hts gX2_rootOf_X2_isIn rfl rfl rfl (by decide +kernel) ⟨Nat.le_of_ble_eq_true rfl, Nat.le_of_ble_eq_true rfl⟩) rfl hl.1 rfl (Nat.le_of_ble_eq_true rfl) dX2_rootOf_4 ⟨Nat.zero_le _, Nat.zero_le _⟩ ?_
    refine xk_if_eqB (tgt := 19) hx hb dX2_rootOf_7 (by decide) (fun c7 => ?_) (fun c7 => absurd c7 (by rw [inL_neg hneg]; decide))
    refine lv_iconst (v := (-1)) hx hb dX2_rootOf_19 (by decide +kernel) ?_
    exact W.iret hx hb hr (fun t ht hW => ⟨_, rfl, (atR_neg hneg).symm, ht⟩) t_nil dX2_rootOf_20
  · refine lv_iload_n hx hb dX2_rootOf_0 rfl (lv_at hl 1 rfl) ?_
    refine lv_iconst (v := nI 0) hx hb dX2_rootOf_1 (by decide +kernel) ?_
    refine lv_bipush (v := nI 7) hx hb dX2_rootOf_2 (by decide +kernel) ?_
    refine xk_roS (As := [.int (nI a), .int (nI 0), .int (nI 7)]) (rest := []) ⟨hx, hb, hml, hown, hts⟩ (c_isIn l (nI a) 0 (8) (nI 7) (by omega) (by omega) (by decide)) (va_cwS 3 hts gX2_rootOf_X2_isIn rfl rfl rfl (by decide +kernel) ⟨Nat.le_of_ble_eq_true rfl, Nat.le_of_ble_eq_true rfl⟩) rfl hl.1 rfl (Nat.le_of_ble_eq_true rfl) dX2_rootOf_4 ⟨Nat.zero_le _, Nat.zero_le _⟩ ?_
    refine xk_if_eqB (tgt := 19) hx hb dX2_rootOf_7 (by decide) (fun c7 => ?_) (fun c7 => ?_)
    · rw [inL_nat ha] at c7; simp at c7
      refine lv_iconst (v := (-1)) hx hb dX2_rootOf_19 (by decide +kernel) ?_
      exact W.iret hx hb hr (fun t ht hW => ⟨_, rfl, (atR_out ha (by omega)).symm, ht⟩) t_nil dX2_rootOf_20
    · rw [inL_nat ha] at c7; simp at c7
      refine lv_aload_n hx hb dX2_rootOf_10 rfl (lv_at hl 0 rfl) ?_
      refine va_get (D := D) (ci := 2) (v := .ref (am 5)) (C := RX2) (T := TX2) (N := 14) hx hb hts in_X2_rootOf_X2 hown hK hP 0 rfl rfl 11 (by decide) (hts (.fieldLink RX2 27 "OffsetHeapModel" "roots" "[I") (by decide +kernel)) (fun _ h9 => h9) rfl dX2_rootOf_11 ?_
      refine lv_iload_n hx hb dX2_rootOf_14 rfl (lv_at hl 1 rfl) ?_
      refine xk_iald hx hb hK hP 5 0 rfl rfl (by omega) (by omega) dX2_rootOf_15 ?_
      refine lv_goto (tgt := 20) hx hb dX2_rootOf_16 (by decide) ?_
      exact W.iret hx hb hr (fun t ht hW => ⟨_, rfl, (atR_in ha (by omega)).symm, ht⟩) t_nil dX2_rootOf_20
set_option maxHeartbeats 4000000 in
set_option maxRecDepth 100000 in
/-- bit -/
theorem c_mbit (l : Launch) (D : va_G) (cI cZ : ClassId) (h1 : Nat) (am : Nat → Nat) (th n B tp ob co lv : Nat) (wrd frs bgs fbs rts wnt far : Nat → Int32) (x : Int32) (b : Nat → Bool) (hn : n ≤ 4000) (hw : ∀ a, a ≤ n → wnt a = nI (if b a then 1 + cn b a else 0)) : Met l yX2_bit wsX2_bit ({ frames := 2, cells := 0, slots := 0, locals := 60 }) (va_Pc [.ref h1, .int x] (fun U => va_P D vwCl (mW cI cZ h1 am th n B tp ob co lv wrd frs bgs fbs rts wnt far) U.heap ∧ va_K D vwCl [(cI, .int), (cZ, .boolean)] U)) (vp_Si (fun r9 => r9 = atR (n + 1) (fun a => bI (b a)) x)) 0 0 (fun _ => False) := by
  refine Met.ofW (cc := cX2_bit) (maxL := 2) (ret := (some .int)) (by decide) rfl ?_
  intro p e s m args below meth c s₁ B9 hml hv
  obtain ⟨rfl, hP, hK⟩ := hv
  have hx := B9.exec
  have hb := B9.bytes
  have hr := B9.returns
  have hts := atoms_spec (ws := wsX2_bit) B9.pre
  have hown : s.vm.findClass RX2 = some m.cls := findClass_of_methodNamed B9.named
  have hlocks := B9.notSynchronized
  have hl := lv_entry ([.ref h1, .int x]) (n := 2) (Nat.le_of_ble_eq_true rfl)
  rw [lg_entry_eq]
  generalize (lg_sl ([.ref h1, .int x]) ++ List.replicate (2 - (lg_sl ([.ref h1, .int x])).length) Slot.unset).toArray = ls at hl ⊢
  have hl : lv_has ls 2 [(0, .ref h1), (1, .int x)] := hl
  rcases xk_sgn x with hneg | ⟨a, ha, rfl⟩
  · refine lv_aload_n hx hb dX2_bit_0 rfl (lv_at hl 0 rfl) ?_
    refine lv_iload_n hx hb dX2_bit_1 rfl (lv_at hl 1 rfl) ?_
    refine xk_roV (As := [.int x]) (rest := []) ⟨hx, hb, hml, hown, hts⟩ (c_misWord l D cI cZ h1 am th n B tp ob co lv wrd frs bgs fbs rts wnt far x hn) (cwV 1 hts gX2_bit_X2_isWord rfl rfl rfl (by decide +kernel) ⟨Nat.le_of_ble_eq_true rfl, Nat.le_of_ble_eq_true rfl⟩) (va_recv hK hP (ci := 2) (q0 := 0) rfl rfl) hP hK rfl hl.1 rfl (Nat.le_of_ble_eq_true rfl) dX2_bit_2 ⟨Nat.zero_le _, Nat.zero_le _⟩ ?_
    refine xk_if_neB (tgt := 12) hx hb dX2_bit_5 (by decide) (fun c5 => absurd c5 (by rw [inR_neg hneg]; decide)) (fun c5 => ?_)
    refine lv_iconst (v := (-1)) hx hb dX2_bit_8 (by decide +kernel) ?_
    refine lv_goto (tgt := 26) hx hb dX2_bit_9 (by decide) ?_
    exact W.iret hx hb hr (fun t ht hW => ⟨_, rfl, (atR_neg hneg).symm, ht⟩) t_nil dX2_bit_26
  · refine lv_aload_n hx hb dX2_bit_0 rfl (lv_at hl 0 rfl) ?_
    refine lv_iload_n hx hb dX2_bit_1 rfl (lv_at hl 1 rfl) ?_
    refine xk_roV (As := [.int (nI a)]) (rest := []) ⟨hx, hb, hml, hown, hts⟩ (c_misWord l D cI cZ h1 am th n B tp ob co lv wrd frs bgs fbs rts wnt far (nI a) hn) (cwV 1 hts gX2_bit_X2_isWord rfl rfl rfl (by decide +kernel) ⟨Nat.le_of_ble_eq_true rfl, Nat.le_of_ble_eq_true rfl⟩) (va_recv hK hP (ci := 2) (q0 := 0) rfl rfl) hP hK rfl hl.1 rfl (Nat.le_of_ble_eq_true rfl) dX2_bit_2 ⟨Nat.zero_le _, Nat.zero_le _⟩ ?_
    refine xk_if_neB (tgt := 12) hx hb dX2_bit_5 (by decide) (fun c5 => ?_) (fun c5 => ?_)
    · rw [inR_nat ha] at c5; simp at c5
      refine lv_aload_n hx hb dX2_bit_12 rfl (lv_at hl 0 rfl) ?_
      refine va_get (D := D) (ci := 2) (v := .ref (am 6)) (C := RX2) (T := TX2) (N := 14) hx hb hts in_X2_bit_X2 hown hK hP 0 rfl rfl 12 (by decide) (hts (.fieldLink RX2 30 "OffsetHeapModel" "went" "[I") (by decide +kernel)) (fun _ h9 => h9) rfl dX2_bit_13 ?_
      refine lv_iload_n hx hb dX2_bit_16 rfl (lv_at hl 1 rfl) ?_
      refine xk_iald hx hb hK hP 6 0 rfl rfl (by omega) (by omega) dX2_bit_17 ?_
      refine xk_top (hw a (by omega)) ?_
      have b1 := cn_le b a
      have b2 : (if b a then 1 + cn b a else 0) < 2 ^ 31 := by split <;> omega
      refine xk_if_le (tgt := 25) hx hb (by omega) dX2_bit_18 (by decide) (fun c18 => ?_) (fun c18 => ?_)
      · refine lv_iconst (v := nI 0) hx hb dX2_bit_25 (by decide +kernel) ?_
        exact W.iret hx hb hr (fun t ht hW => ⟨_, rfl, by rw [atR_in ha (by omega)]; exact bI_0 (by cases hb9 : b a <;> simp [hb9] at c18 <;> rfl), ht⟩) t_nil dX2_bit_26
      · refine lv_iconst (v := nI 1) hx hb dX2_bit_21 (by decide +kernel) ?_
        refine lv_goto (tgt := 26) hx hb dX2_bit_22 (by decide) ?_
        exact W.iret hx hb hr (fun t ht hW => ⟨_, rfl, by rw [atR_in ha (by omega)]; exact bI_1 (by cases hb9 : b a <;> simp [hb9] at c18 <;> rfl), ht⟩) t_nil dX2_bit_26
    · rw [inR_nat ha] at c5; simp at c5
      refine lv_iconst (v := (-1)) hx hb dX2_bit_8 (by decide +kernel) ?_
      refine lv_goto (tgt := 26) hx hb dX2_bit_9 (by decide) ?_
      exact W.iret hx hb hr (fun t ht hW => ⟨_, rfl, (atR_out ha (by omega)).symm, ht⟩) t_nil dX2_bit_26
set_option maxHeartbeats 4000000 in
set_option maxRecDepth 100000 in
/-- count -/
theorem c_mcount (l : Launch) (D : va_G) (cI cZ : ClassId) (h1 : Nat) (am : Nat → Nat) (th n B tp ob co lv : Nat) (wrd frs bgs fbs rts wnt far : Nat → Int32) (x : Int32) (hn : n ≤ 4000) (hB : okB B) : Met l yX2_count wsX2_count ({ frames := 1, cells := 0, slots := 0, locals := 30 }) (va_Pc [.ref h1, .int x] (fun U => va_P D vwCl (mW cI cZ h1 am th n B tp ob co lv wrd frs bgs fbs rts wnt far) U.heap ∧ va_K D vwCl [(cI, .int), (cZ, .boolean)] U)) (vp_Si (fun r9 => r9 = cntA tp ob co n (n / B + 1) x)) 0 0 (fun _ => False) := by
  refine Met.ofW (cc := cX2_count) (maxL := 2) (ret := (some .int)) (by decide) rfl ?_
  intro p e s m args below meth c s₁ B9 hml hv
  obtain ⟨rfl, hP, hK⟩ := hv
  have hx := B9.exec
  have hb := B9.bytes
  have hr := B9.returns
  have hts := atoms_spec (ws := wsX2_count) B9.pre
  have hown : s.vm.findClass RX2 = some m.cls := findClass_of_methodNamed B9.named
  have hlocks := B9.notSynchronized
  have hl := lv_entry ([.ref h1, .int x]) (n := 2) (Nat.le_of_ble_eq_true rfl)
  rw [lg_entry_eq]
  generalize (lg_sl ([.ref h1, .int x]) ++ List.replicate (2 - (lg_sl ([.ref h1, .int x])).length) Slot.unset).toArray = ls at hl ⊢
  have hl : lv_has ls 2 [(0, .ref h1), (1, .int x)] := hl
  refine lv_iload_n hx hb dX2_count_0 rfl (lv_at hl 1 rfl) ?_
  by_cases h5 : x < 0 ∨ nI 5 ≤ x
  · have ho : x.toInt < 0 ∨ 4 < x.toInt := by
      rcases h5 with q | q
      · rw [Int32.lt_iff_toInt_lt] at q; exact Or.inl q
      · rw [Int32.le_iff_toInt_le, nI_toInt (by decide)] at q; exact Or.inr (by omega)
    have hc : cntA tp ob co n (n / B + 1) x = -1 := by
      rcases h5 with q | q
      · exact cntA_neg q
      · rcases xk_sgn x with z | ⟨a, ha, rfl⟩
        · exact cntA_neg z
        · exact cntA_big ha ((nI_leI (by decide) ha).mp q)
    refine lv_tableOut (tgt := 61) hx hb dX2_count_1 ho (by decide) ?_
    refine lv_iconst (v := (-1)) hx hb dX2_count_61 (by decide +kernel) ?_
    exact W.iret hx hb hr (fun t ht hW => ⟨_, rfl, hc.symm, ht⟩) t_nil dX2_count_62
  · obtain ⟨a, ha, rfl⟩ : ∃ a : Nat, a < 5 ∧ x = nI a := by
      rcases pk_ix x (n := 5) (by decide) with q | q | q
      · exact absurd (Or.inl q) h5
      · exact absurd (Or.inr q) h5
      · exact q
    match a, ha with
    | 0, _ =>
      refine lv_tableIn (tgt := 36) (off := 35) hx hb dX2_count_1 (by decide) (by decide) (by decide) (by decide) ?_
      refine lv_aload_n hx hb dX2_count_36 rfl (lv_at hl 0 rfl) ?_
      refine va_get (D := D) (ci := 2) (v := .int (nI tp)) (C := RX2) (T := TX2) (N := 14) hx hb hts in_X2_count_X2 hown hK hP 0 rfl rfl 3 (by decide) (hts (.fieldLink RX2 7 "OffsetHeapModel" "top" "I") (by decide +kernel)) (fun _ h9 => h9) rfl dX2_count_37 ?_
      exact W.iret hx hb hr (fun t ht hW => ⟨_, rfl, rfl, ht⟩) t_nil dX2_count_40
    | 1, _ =>
      refine lv_tableIn (tgt := 41) (off := 40) hx hb dX2_count_1 (by decide) (by decide) (by decide) (by decide) ?_
      refine lv_aload_n hx hb dX2_count_41 rfl (lv_at hl 0 rfl) ?_
      refine va_get (D := D) (ci := 2) (v := .int (nI ob)) (C := RX2) (T := TX2) (N := 14) hx hb hts in_X2_count_X2 hown hK hP 0 rfl rfl 4 (by decide) (hts (.fieldLink RX2 56 "OffsetHeapModel" "objects" "I") (by decide +kernel)) (fun _ h9 => h9) rfl dX2_count_42 ?_
      exact W.iret hx hb hr (fun t ht hW => ⟨_, rfl, rfl, ht⟩) t_nil dX2_count_45
    | 2, _ =>
      refine lv_tableIn (tgt := 46) (off := 45) hx hb dX2_count_1 (by decide) (by decide) (by decide) (by decide) ?_
      refine lv_aload_n hx hb dX2_count_46 rfl (lv_at hl 0 rfl) ?_
      refine va_get (D := D) (ci := 2) (v := .int (nI co)) (C := RX2) (T := TX2) (N := 14) hx hb hts in_X2_count_X2 hown hK hP 0 rfl rfl 5 (by decide) (hts (.fieldLink RX2 76 "OffsetHeapModel" "collected" "I") (by decide +kernel)) (fun _ h9 => h9) rfl dX2_count_47 ?_
      exact W.iret hx hb hr (fun t ht hW => ⟨_, rfl, rfl, ht⟩) t_nil dX2_count_50
    | 3, _ =>
      refine lv_tableIn (tgt := 51) (off := 50) hx hb dX2_count_1 (by decide) (by decide) (by decide) (by decide) ?_
      refine lv_aload_n hx hb dX2_count_51 rfl (lv_at hl 0 rfl) ?_
      refine va_get (D := D) (ci := 2) (v := .int (nI n)) (C := RX2) (T := TX2) (N := 14) hx hb hts in_X2_count_X2 hown hK hP 0 rfl rfl 1 (by decide) (hts (.fieldLink RX2 36 "OffsetHeapModel" "most" "I") (by decide +kernel)) (fun _ h9 => h9) rfl dX2_count_52 ?_
      exact W.iret hx hb hr (fun t ht hW => ⟨_, rfl, rfl, ht⟩) t_nil dX2_count_55
    | 4, _ =>
      refine lv_tableIn (tgt := 56) (off := 55) hx hb dX2_count_1 (by decide) (by decide) (by decide) (by decide) ?_
      refine lv_aload_n hx hb dX2_count_56 rfl (lv_at hl 0 rfl) ?_
      refine xk_roV (As := []) (rest := []) ⟨hx, hb, hml, hown, hts⟩ (c_mblocks l D cI cZ h1 am th n B tp ob co lv wrd frs bgs fbs rts wnt far hn hB) (cwV 0 hts gX2_count_X2_blocks rfl rfl rfl (by decide +kernel) ⟨Nat.le_of_ble_eq_true rfl, Nat.le_of_ble_eq_true rfl⟩) (va_recv hK hP (ci := 2) (q0 := 0) rfl rfl) hP hK rfl hl.1 rfl (Nat.le_of_ble_eq_true rfl) dX2_count_57 ⟨Nat.zero_le _, Nat.zero_le _⟩ ?_
      exact W.iret hx hb hr (fun t ht hW => ⟨_, rfl, rfl, ht⟩) t_nil dX2_count_60
    | a + 5, h => exact absurd h (by omega)
set_option maxHeartbeats 4000000 in
set_option maxRecDepth 100000 in
/-- offset -/
theorem c_moffset (l : Launch) (D : va_G) (cI cZ : ClassId) (h1 : Nat) (am : Nat → Nat) (th n B tp ob co lv : Nat) (wrd frs bgs fbs rts wnt far : Nat → Int32) (x : Int32) (b : Nat → Bool) (hn : n ≤ 4000) (hB : okB B) (hw : ∀ a, a ≤ n → wnt a = nI (if b a then 1 + cn b a else 0)) : Met l yX2_offset wsX2_offset ({ frames := 1, cells := 0, slots := 0, locals := 30 }) (va_Pc [.ref h1, .int x] (fun U => va_P D vwCl (mW cI cZ h1 am th n B tp ob co lv wrd frs bgs fbs rts wnt far) U.heap ∧ va_K D vwCl [(cI, .int), (cZ, .boolean)] U)) (vp_Si (fun r9 => r9 = atR (n / B + 1) (fun k => nI (cn b (k * B))) x)) 0 0 (fun _ => False) := by
  refine Met.ofW (cc := cX2_offset) (maxL := 4) (ret := (some .int)) (by decide) rfl ?_
  intro p e s m args below meth c s₁ B9 hml hv
  obtain ⟨rfl, hP, hK⟩ := hv
  have hx := B9.exec
  have hb := B9.bytes
  have hr := B9.returns
  have hts := atoms_spec (ws := wsX2_offset) B9.pre
  have hown : s.vm.findClass RX2 = some m.cls := findClass_of_methodNamed B9.named
  have hlocks := B9.notSynchronized
  have hl := lv_entry ([.ref h1, .int x]) (n := 4) (Nat.le_of_ble_eq_true rfl)
  rw [lg_entry_eq]
  generalize (lg_sl ([.ref h1, .int x]) ++ List.replicate (4 - (lg_sl ([.ref h1, .int x])).length) Slot.unset).toArray = ls at hl ⊢
  have hl : lv_has ls 4 [(0, .ref h1), (1, .int x)] := hl
  obtain ⟨hb1, hb2, hb3⟩ := okB_nb hB hn
  rcases xk_sgn x with hneg | ⟨a, ha, rfl⟩
  · refine lv_iload_n hx hb dX2_offset_0 rfl (lv_at hl 1 rfl) ?_
    refine lv_iconst (v := nI 0) hx hb dX2_offset_1 (by decide +kernel) ?_
    refine lv_aload_n hx hb dX2_offset_2 rfl (lv_at hl 0 rfl) ?_
    refine xk_roV (As := []) (rest := [.int (nI 0), .int x]) ⟨hx, hb, hml, hown, hts⟩ (c_mblocks l D cI cZ h1 am th n B tp ob co lv wrd frs bgs fbs rts wnt far hn hB) (cwV 0 hts gX2_offset_X2_blocks rfl rfl rfl (by decide +kernel) ⟨Nat.le_of_ble_eq_true rfl, Nat.le_of_ble_eq_true rfl⟩) (va_recv hK hP (ci := 2) (q0 := 0) rfl rfl) hP hK rfl hl.1 rfl (Nat.le_of_ble_eq_true rfl) dX2_offset_3 ⟨Nat.zero_le _, Nat.zero_le _⟩ ?_
    refine lv_iconst (v := nI 1) hx hb dX2_offset_6 (by decide +kernel) ?_
    refine lv_isub hx hb dX2_offset_7 ?_
    refine xk_top rfl ?_
    refine xk_roS (As := [.int x, .int (nI 0), .int (nI (n / B + 1) - nI 1)]) (rest := []) ⟨hx, hb, hml, hown, hts⟩ (c_isIn l x 0 (n / B + 1) (nI (n / B + 1) - nI 1) (by omega) (by omega) (hi_s (by omega))) (va_cwS 3 hts gX2_offset_X2_isIn rfl rfl rfl (by decide +kernel) ⟨Nat.le_of_ble_eq_true rfl, Nat.le_of_ble_eq_true rfl⟩) rfl hl.1 rfl (Nat.le_of_ble_eq_true rfl) dX2_offset_8 ⟨Nat.zero_le _, Nat.zero_le _⟩ ?_
    refine xk_if_neB (tgt := 16) hx hb dX2_offset_11 (by decide) (fun c11 => absurd c11 (by rw [inL_neg hneg]; decide)) (fun c11 => ?_)
    refine lv_iconst (v := (-1)) hx hb dX2_offset_14 (by decide +kernel) ?_
    exact W.iret hx hb hr (fun t ht hW => ⟨_, rfl, (atR_neg hneg).symm, ht⟩) t_nil dX2_offset_15
  · refine lv_iload_n hx hb dX2_offset_0 rfl (lv_at hl 1 rfl) ?_
    refine lv_iconst (v := nI 0) hx hb dX2_offset_1 (by decide +kernel) ?_
    refine lv_aload_n hx hb dX2_offset_2 rfl (lv_at hl 0 rfl) ?_
    refine xk_roV (As := []) (rest := [.int (nI 0), .int (nI a)]) ⟨hx, hb, hml, hown, hts⟩ (c_mblocks l D cI cZ h1 am th n B tp ob co lv wrd frs bgs fbs rts wnt far hn hB) (cwV 0 hts gX2_offset_X2_blocks rfl rfl rfl (by decide +kernel) ⟨Nat.le_of_ble_eq_true rfl, Nat.le_of_ble_eq_true rfl⟩) (va_recv hK hP (ci := 2) (q0 := 0) rfl rfl) hP hK rfl hl.1 rfl (Nat.le_of_ble_eq_true rfl) dX2_offset_3 ⟨Nat.zero_le _, Nat.zero_le _⟩ ?_
    refine lv_iconst (v := nI 1) hx hb dX2_offset_6 (by decide +kernel) ?_
    refine lv_isub hx hb dX2_offset_7 ?_
    refine xk_top rfl ?_
    refine xk_roS (As := [.int (nI a), .int (nI 0), .int (nI (n / B + 1) - nI 1)]) (rest := []) ⟨hx, hb, hml, hown, hts⟩ (c_isIn l (nI a) 0 (n / B + 1) (nI (n / B + 1) - nI 1) (by omega) (by omega) (hi_s (by omega))) (va_cwS 3 hts gX2_offset_X2_isIn rfl rfl rfl (by decide +kernel) ⟨Nat.le_of_ble_eq_true rfl, Nat.le_of_ble_eq_true rfl⟩) rfl hl.1 rfl (Nat.le_of_ble_eq_true rfl) dX2_offset_8 ⟨Nat.zero_le _, Nat.zero_le _⟩ ?_
    refine xk_if_neB (tgt := 16) hx hb dX2_offset_11 (by decide) (fun c11 => ?_) (fun c11 => ?_)
    · rw [inL_nat ha] at c11; simp at c11
      have hab : a * B ≤ n := by
        have h1 : a ≤ n / B := by omega
        exact Nat.le_trans (Nat.mul_le_mul_right B h1) (Nat.div_mul_le_self n B)
      have hbd := cn_le b
      have key : ∀ (d : Nat) (i : Nat) (ls : Array Slot), a * B + 1 ≤ i + d → i ≤ a * B → lv_has ls 4 [(0, .ref h1), (1, .int (nI a)), (2, .int (nI (cn b i))), (3, .int (nI i))] → W p l e (headSpec wsX2_offset ({ frames := 1, cells := 0, slots := 0, locals := 30 })).room s m ([.ref h1, .int (nI a)] : List Value).toArray below meth c s.heap [] 0 0 (MQ below (vp_Si (fun r9 => r9 = atR (n / B + 1) (fun k => nI (cn b (k * B))) (nI a))) ([.ref h1, .int (nI a)] : List Value).toArray s 0 0 (fun _ => False)) (F0 m 20 ls []) := by
        intro d
        induction d with
        | zero =>
          intro i ls hd hi hl
          exfalso; omega
        | succ d ih =>
          intro i ls hd hi hl
          have q1 := cn_le b i
          refine lv_iload_n hx hb dX2_offset_20 rfl (lv_at hl 3 rfl) ?_
          refine lv_iload_n hx hb dX2_offset_21 rfl (lv_at hl 1 rfl) ?_
          refine lv_aload_n hx hb dX2_offset_22 rfl (lv_at hl 0 rfl) ?_
          refine va_get (D := D) (ci := 2) (v := .int (nI B)) (C := RX2) (T := TX2) (N := 14) hx hb hts in_X2_offset_X2 hown hK hP 0 rfl rfl 2 (by decide) (hts (.fieldLink RX2 39 "OffsetHeapModel" "block" "I") (by decide +kernel)) (fun _ h9 => h9) rfl dX2_offset_23 ?_
          refine lv_imul hx hb dX2_offset_26 ?_
          refine xk_top (pk_mul _ _) ?_
          refine xk_icmp_ge (tgt := 53) hx hb (by omega) (by omega) dX2_offset_27 (by decide) (fun c27 => ?_) (fun c27 => ?_)
          · refine lv_iload_n hx hb dX2_offset_53 rfl (lv_at hl 2 rfl) ?_
            exact W.iret hx hb hr (fun t ht hW => ⟨_, rfl, by rw [atR_in ha (by omega), show i = a * B by omega], ht⟩) t_nil dX2_offset_54
          · refine lv_aload_n hx hb dX2_offset_30 rfl (lv_at hl 0 rfl) ?_
            refine va_get (D := D) (ci := 2) (v := .ref (am 6)) (C := RX2) (T := TX2) (N := 14) hx hb hts in_X2_offset_X2 hown hK hP 0 rfl rfl 12 (by decide) (hts (.fieldLink RX2 30 "OffsetHeapModel" "went" "[I") (by decide +kernel)) (fun _ h9 => h9) rfl dX2_offset_31 ?_
            refine lv_iload_n hx hb dX2_offset_34 rfl (lv_at hl 3 rfl) ?_
            refine xk_iald hx hb hK hP 6 0 rfl rfl (by omega) (by omega) dX2_offset_35 ?_
            refine xk_top (hw i (by omega)) ?_
            have q2 : (if b i then 1 + cn b i else 0) < 2 ^ 31 := by split <;> omega
            refine xk_if_le (tgt := 45) hx hb (by omega) dX2_offset_36 (by decide) (fun c36 => ?_) (fun c36 => ?_)
            · refine lv_iload_n hx hb dX2_offset_45 rfl (lv_at hl 2 rfl) ?_
              refine lv_istore_n (lv' := [(2, .int (nI (cn b i))), (0, .ref h1), (1, .int (nI a)), (3, .int (nI i))]) hx hb dX2_offset_46 rfl hl (by decide) rfl (fun ls hl => ?_)
              refine lv_iinc (v := nI (i + 1)) (lv' := [(3, .int (nI (i + 1))), (2, .int (nI (cn b i))), (0, .ref h1), (1, .int (nI a))]) hx hb dX2_offset_47 hl (k := 3) rfl (xk_inc i) (by decide) rfl (fun ls hl => ?_)
              refine lv_goto (tgt := 20) hx hb dX2_offset_50 (by decide) ?_
              have hbi : b i = false := by cases q : b i <;> simp [q] at c36 <;> rfl
              rw [← cn_f hbi] at hl
              exact ih (i + 1) ls (by omega) (by omega) (lv_sub hl [2, 3, 1, 0] rfl)
            · refine lv_iload_n hx hb dX2_offset_39 rfl (lv_at hl 2 rfl) ?_
              refine lv_iconst (v := nI 1) hx hb dX2_offset_40 (by decide +kernel) ?_
              refine lv_iadd hx hb dX2_offset_41 ?_
              refine xk_top (nI_add _ _) ?_
              refine lv_goto (tgt := 46) hx hb dX2_offset_42 (by decide) ?_
              refine lv_istore_n (lv' := [(2, .int (nI ((cn b i) + 1))), (0, .ref h1), (1, .int (nI a)), (3, .int (nI i))]) hx hb dX2_offset_46 rfl hl (by decide) rfl (fun ls hl => ?_)
              refine lv_iinc (v := nI (i + 1)) (lv' := [(3, .int (nI (i + 1))), (2, .int (nI ((cn b i) + 1))), (0, .ref h1), (1, .int (nI a))]) hx hb dX2_offset_47 hl (k := 3) rfl (xk_inc i) (by decide) rfl (fun ls hl => ?_)
              refine lv_goto (tgt := 20) hx hb dX2_offset_50 (by decide) ?_
              have hbi : b i = true := by cases q : b i <;> simp [q] at c36 <;> rfl
              rw [← cn_t hbi] at hl
              exact ih (i + 1) ls (by omega) (by omega) (lv_sub hl [2, 3, 1, 0] rfl)
      refine lv_iconst (v := nI 0) hx hb dX2_offset_16 (by decide +kernel) ?_
      refine lv_istore_n (lv' := [(2, .int (nI 0)), (0, .ref h1), (1, .int (nI a))]) hx hb dX2_offset_17 rfl hl (by decide) rfl (fun ls hl => ?_)
      refine lv_iconst (v := nI 0) hx hb dX2_offset_18 (by decide +kernel) ?_
      refine lv_istore_n (lv' := [(3, .int (nI 0)), (2, .int (nI 0)), (0, .ref h1), (1, .int (nI a))]) hx hb dX2_offset_19 rfl hl (by decide) rfl (fun ls hl => ?_)
      exact key (a * B + 1) 0 ls (by omega) (by omega) (lv_sub hl [2, 3, 1, 0] rfl)
    · rw [inL_nat ha] at c11; simp at c11
      refine lv_iconst (v := (-1)) hx hb dX2_offset_14 (by decide +kernel) ?_
      exact W.iret hx hb hr (fun t ht hW => ⟨_, rfl, (atR_out ha (by omega)).symm, ht⟩) t_nil dX2_offset_15
