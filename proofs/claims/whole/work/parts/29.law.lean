-- ===== end of PART A; then your names; then what follows =====
/-! THE CLAIM OUT OF ONE WALK OF THE LAW'S BODY. Your part is whole_start (and what it stands on); all else here is the same for every law, but numbers. -/
def R_law : String := "OffsetHeapLaw"
def lw_P (b : Addr) (xs : List Int32) (args : Array Value) (s : State) : Prop := args = #[.ref b] ∧ s.IntsAt b xs ∧ xs.length ≤ 2050 ∧ (Jvm.Cond.and given_1 narrow_1).before args s = true
def lw_Q (_ : Array Value) (s : State) (o : Outcome) (t : State) : Prop := o = .returned (some (.int 1)) ∧ Framed s o t [] 600000 7302250
def lw_Z (below : List Frame) (a : Array Value) (s : State) : State → Prop := fun t => ∃ o, t.status = .running ∧ Ended t below o ∧ lw_Q a s o t
/-- the law's own end, with 1 on the stack, nothing written that was there before, its room as the claim has it -/
theorem lw_ret {p : Program} {l : Launch} {e : Env} {s : State} {m : MethodId} {below : List Frame} {meth : Method} {c : Code} {b : Nat} (hx : p.tables.exec = Jvm.exec) (hb : c.code = code) (hr : meth.sig.returnType = ret) (hlocks : meth.locks = false) {pc : Nat} {H : Heap} {ls : Array Slot} (hdg : decode code pc = .ok (.ireturn, 1)) : W p l e room_1 s m #[Value.ref b] below meth c H [] 600000 7302250 (lw_Z below #[Value.ref b] s) (F0 m pc ls [.int 1]) := by
  intro T hT X
  obtain ⟨fs, hret, hrun, hended, hW, hframe⟩ := X.leave (v := some (.int 1)) (hlocks := hlocks) (fun h => by rw [hr] at h; cases h)
  have hmeth' : T.vm.method? m = some meth := X.method'
  refine ⟨T.setFrames fs, ?_, .returned (some (.int 1)), hrun, hended, rfl, ⟨_, rfl⟩, hW, hframe⟩
  jvm_step X.here [X.here.top, hx, hb, hdg, hmeth', hr, ret, narrow_b1]
  (try refine ⟨rfl, ?_⟩); (try refine ⟨rfl, ?_⟩)
  first | (intro acts; rw [hret _ acts rfl rfl rfl]) | rw [hret _ _ rfl rfl rfl]
  exact Steps.refl _
/-- what holds at the law's entry: the machine, the code, the tables' words (any of lw_tbl by 'hts w (by decide +kernel)'), the script of L ints xs at the cell b, what the Statement gives of the start (any of its parts by flat_of_before) -/
def lw_At (p : Program) (s : State) (m : MethodId) (meth : Method) (c : Code) (b L : Nat) (xs : Nat → Int32) : Prop :=
  p.tables.exec = Jvm.exec ∧ c.code = code ∧ meth.sig.returnType = ret ∧ c.maxLocals = 4 ∧ s.vm.findClass R_law = some m.cls ∧ (∀ w ∈ lw_tbl, w.before #[Value.ref b] s = true) ∧ va_X b L xs s s.heap ∧ b < s.heap.size ∧ meth.locks = false ∧ (Jvm.Cond.and given_1 narrow_1).before #[Value.ref b] s = true
-- ===== YOUR PART BEGINS =====
/-! the law -/
def lwA (s : State) : Nat → Prop := fun q => s.heap.size ≤ q
def cl0 (L : Nat) (xs : Nat → Int32) (k : Nat) : Int32 := if k < L then xs k else 0
section XS
variable {p : Program} {l : Launch} {e : Env} {R : Room} {s : State} {m : MethodId} {args : Array Value} {below : List Frame} {meth : Method} {c : Code} {H : Heap} {locs : List Loc} {cells slots : Nat} {Q : State → Prop}
variable {cc : ByteArray} {pc : Nat} {ls : Array Slot} {rest : List Value} {A : Nat → Prop} {H0 : Heap}
theorem xk_sld (hexec : p.tables.exec = Jvm.exec) (hb : c.code = cc) {b L : Nat} {xs : Nat → Int32} (hX : va_X b L xs s H0) (hbl : b < H0.size) (hbA : ¬ A b) (hS : va_S A H0 H locs) {i : Nat} (hi : i < L) (hL : L < 2 ^ 31) (hdg : decode cc pc = .ok (.iaload, 1))
    (kk : W p l e R s m args below meth c H locs cells slots Q (F0 m (pc + 1) ls (.int (xs i) :: rest))) : W p l e R s m args below meth c H locs cells slots Q (F0 m pc ls (.int (nI i) :: .ref b :: rest)) :=
  va_sld hexec hb hX hbl hbA hS (vp_in_nI hi hL) hdg (by rw [nI_clamp (by omega)]; exact kk)
variable {y : MethodName} {bytes : ByteArray} {maxL nL n index : Nat} {ret : Option FieldType} {wy : List Cond} {rm : Room} {Ts : List Cond} {own : String} {As st0 : List Value} {E : Int32}
/-- a static method that reads the script -/
theorem xk_roX {b L : Nat} {xs : Nat → Int32} (S : CallFix p m c cc nL s args Ts own) (hM : Met l y wy rm (va_Pc As (fun U => va_X b L xs U U.heap)) (vp_Si (fun r => r = E)) 0 0 (fun _ => False)) (cw : CallB R s args own index y bytes maxL ret wy rm 0 0 n ∧ (Cond.static y).before args s = true) (hX : va_X b L xs s H) (hn : As.length = n) (hsz : ls.size = nL) (hst : st0 = As.reverse ++ rest) (hroom : (rest.map fun v => v.category).sum ≤ 8) (hdg : decode cc pc = .ok (.invokestatic index, 3)) (hf : cells ≤ R.cells ∧ slots ≤ R.slots)
    (kk : W p l e R s m args below meth c H locs cells slots Q (F0 m (pc + 3) ls (.int E :: rest))) : W p l e R s m args below meth c H locs cells slots Q (F0 m pc ls st0) := by
  refine vp_callSi (W.runS (rest := rest) (As := As) S hM cw ⟨?_, fun U hU hW => ⟨rfl, by show va_X b L xs U U.heap; rw [hU]; exact va_X.moved hW.alike hX⟩⟩ rfl hn hsz hst (lv_room hroom) hdg hf) (fun r hr => by subst hr; exact kk)
  intro a U g mk q
  exact ⟨q.1, va_X.moved (u := U) (U := U.calling g mk a) (Vm.Alike.refl U.vm) q.2⟩
end XS
theorem lw_gt {L i : Nat} (hL : L < 2 ^ 30) (hi : i < 2 ^ 30) : nI L - nI 4 < nI i ↔ L < i + 4 := by
  rw [Int32.lt_iff_toInt_lt, pk_sub_toInt hL (by decide), nI_toInt (by omega)]
  omega
set_option maxHeartbeats 4000000 in
set_option maxRecDepth 100000 in
/-- cell -/
theorem c_cell (l : Launch) (b L : Nat) (xs : Nat → Int32) (k : Nat) (hk : k < 2 ^ 31) (hL : L ≤ 2050) : Met l yL_cell wsL_cell ({ frames := 0, cells := 0, slots := 0, locals := 0 }) (va_Pc [.ref b, .int (nI k)] (fun U => va_X b L xs U U.heap)) (vp_Si (fun r9 => r9 = cl0 L xs k)) 0 0 (fun _ => False) := by
  refine Met.ofW (cc := cL_cell) (maxL := 2) (ret := (some .int)) (by decide) rfl ?_
  intro p e s m args below meth c s₁ B9 hml hv
  obtain ⟨rfl, hX⟩ := hv
  have hx := B9.exec
  have hb := B9.bytes
  have hr := B9.returns
  have hts := atoms_spec (ws := wsL_cell) B9.pre
  have hown : s.vm.findClass RL = some m.cls := findClass_of_methodNamed B9.named
  have hlocks := B9.notSynchronized
  have hl := lv_entry ([.ref b, .int (nI k)]) (n := 2) (Nat.le_of_ble_eq_true rfl)
  rw [lg_entry_eq]
  generalize (lg_sl ([.ref b, .int (nI k)]) ++ List.replicate (2 - (lg_sl ([.ref b, .int (nI k)])).length) Slot.unset).toArray = ls at hl ⊢
  have hl : lv_has ls 2 [(0, .ref b), (1, .int (nI k))] := hl
  have hbl : b < s.heap.size := by obtain ⟨scr, q1, _⟩ := hX; exact (Array.getElem?_eq_some_iff.mp q1).1
  have hS : va_S (fun _ => False) s.heap s.heap [] := va_S.rf
  have hbA : ¬ (fun _ : Nat => False) b := fun z => z
  refine lv_iload_n hx hb dL_cell_0 rfl (lv_at hl 1 rfl) ?_
  refine lv_aload_n hx hb dL_cell_1 rfl (lv_at hl 0 rfl) ?_
  refine va_slen hx hb hX hbl hbA hS dL_cell_2 ?_
  refine xk_top (y := nI L) rfl ?_
  refine xk_icmp_ge (tgt := 12) hx hb (by omega) (by omega) dL_cell_3 (by decide) (fun c3 => ?_) (fun c3 => ?_)
  · refine lv_iconst (v := nI 0) hx hb dL_cell_12 (by decide +kernel) ?_
    exact W.iret hx hb hr (fun t ht hW => ⟨_, rfl, (if_neg (by omega : ¬ k < L)).symm, ht⟩) t_nil dL_cell_13
  · refine lv_aload_n hx hb dL_cell_6 rfl (lv_at hl 0 rfl) ?_
    refine lv_iload_n hx hb dL_cell_7 rfl (lv_at hl 1 rfl) ?_
    refine xk_sld hx hb hX hbl hbA hS (by omega) (by omega) dL_cell_8 ?_
    refine lv_goto (tgt := 13) hx hb dL_cell_9 (by decide) ?_
    exact W.iret hx hb hr (fun t ht hW => ⟨_, rfl, (if_pos c3).symm, ht⟩) t_nil dL_cell_13
set_option maxHeartbeats 4000000 in
set_option maxRecDepth 100000 in
/-- THE LAW'S LOOP -/
theorem law_loop {p : Program} {l : Launch} {e : Env} {s : State} {m : MethodId} {below : List Frame} {meth : Method} {c : Code} {D : va_G} {cI cL cZ : ClassId} {b L : Nat} {xs : Nat → Int32} (hL : L ≤ 2050) (C0 : lw_At p s m meth c b L xs) (hK : va_K D vwCl [(cI, .int), (cL, .long), (cZ, .boolean)] s) :
    ∀ (d i : Nat) (h0 h1 : Nat) (ad am : Nat → Nat) (n B nb tp ob co rd th lv : Nat) (rts offs fnd mem frs : Nat → Int32) (btw snw stw : Nat → Int64) (wrd mfr bgs fbs mrt wnt far : Nat → Int32) (H : Heap) (locs : List Loc) (ls : Array Slot), L + 5 ≤ i + d → i ≤ L + 4 → RelS n B nb tp ob rd lv rts offs mem btw stw wrd bgs mrt wnt → va_P D vwCl ((cW cI cL h0 ad n B nb tp ob co rd rts offs fnd mem frs btw snw stw) ++ (mW cI cZ h1 am th n B tp ob co lv wrd mfr bgs fbs mrt wnt far)) H → va_D (lwA s) ((cW cI cL h0 ad n B nb tp ob co rd rts offs fnd mem frs btw snw stw) ++ (mW cI cZ h1 am th n B tp ob co lv wrd mfr bgs fbs mrt wnt far)) → va_S (lwA s) s.heap H locs → lv_has ls 4 [(0, .ref b), (1, .ref h0), (2, .ref h1), (3, .int (nI i))] → W p l e room_1 s m #[Value.ref b] below meth c H locs 20 36748 (lw_Z below #[Value.ref b] s) (F0 m 38 ls []) := by
  obtain ⟨hx, hb, hr, hml, hown0, hts0, hX, hbl, hlocks, hgv⟩ := C0
  have hts : ∀ w ∈ wsL_law, w.before #[Value.ref b] s = true := fun w h => hts0 w (wsL_law_in w h)
  have hown : s.vm.findClass RL = some m.cls := hown0
  have hA : ∀ q : Nat, s.heap.size ≤ q → lwA s q := fun _ h => h
  have hbA : ¬ lwA s b := Nat.not_le.mpr hbl
  intro d
  induction d with
  | zero =>
    intro i h0 h1 ad am n B nb tp ob co rd th lv rts offs fnd mem frs btw snw stw wrd mfr bgs fbs mrt wnt far H locs ls hd hi
    exfalso; omega
  | succ d ih =>
    intro i h0 h1 ad am n B nb tp ob co rd th lv rts offs fnd mem frs btw snw stw wrd mfr bgs fbs mrt wnt far H locs ls hd hi hR hP hD hS hl
    have hok := hR.1
    have hokM := hR.okM
    have hn := hok.1.2.2
    have htp := hok.1.2.1
    have htp1 := hok.1.1
    obtain ⟨hB, hnb, hof⟩ := hR.2.1
    obtain ⟨eob, erd, elv⟩ := hR.2.2.1
    have hw1 := hR.2.2.2.1
    have hbg := hR.2.2.2.2.1
    have hmr := hR.2.2.2.2.2.1
    have hwn := hR.2.2.2.2.2.2
    have hnb4 := (okB_nb hB hn).1
    have hob4 : ob ≤ 4000 := by have := cn_lt (b := bo stw) (a := 0) (k := n + 1) (by omega) hok.2.2.2.1.1; omega
    have hrd4 := cn_le (bo btw) (n + 1)
    refine lv_iload_n hx hb dL_law_38 rfl (lv_at hl 3 rfl) ?_
    refine lv_aload_n hx hb dL_law_39 rfl (lv_at hl 0 rfl) ?_
    refine va_slen hx hb hX hbl hbA hS dL_law_40 ?_
    refine xk_top (y := nI L) rfl ?_
    refine lv_iconst (v := nI 4) hx hb dL_law_41 (by decide +kernel) ?_
    refine lv_isub hx hb dL_law_42 ?_
    refine xk_top rfl ?_
    refine lv_icmp_gt (tgt := 509) hx hb dL_law_43 (by decide) (fun c43 => ?_) (fun c43 => ?_)
    · refine lv_iconst (v := 1) hx hb dL_law_509 (by decide) ?_
      refine va_forget (fun q hq => hS.2.2 q hq) ?_
      refine W.widen (k := 600000) (n := 7302250) (by decide) (by decide) ?_
      exact lw_ret hx hb hr hlocks dL_law_510
    · have c43 := (not_congr (lw_gt (by omega) (by omega))).mp c43
      refine lv_aload_n hx hb dL_law_46 rfl (lv_at hl 0 rfl) ?_
      refine lv_iload_n hx hb dL_law_47 rfl (lv_at hl 3 rfl) ?_
      refine xk_sld hx hb hX hbl hbA hS (by omega) (by omega) dL_law_48 ?_
      obtain ⟨t, ht, et⟩ := pk_andE (xs i) (m := nI 15) 4 (by decide)
      refine lv_bipush (v := nI 15) hx hb dL_law_49 (by decide +kernel) ?_
      refine lv_iand hx hb dL_law_51 ?_
      refine xk_top et ?_
      match t, ht with
      | 0, _ =>
        refine lv_tableIn (tgt := 128) (off := 76) hx hb dL_law_52 (by decide) (by decide) (by decide) (by decide) ?_
        refine lv_aload_n hx hb dL_law_128 rfl (lv_at hl 1 rfl) ?_
        refine lv_aload_n hx hb dL_law_129 rfl (lv_at hl 0 rfl) ?_
        refine lv_iload_n hx hb dL_law_130 rfl (lv_at hl 3 rfl) ?_
        refine lv_iconst (v := nI 1) hx hb dL_law_131 (by decide +kernel) ?_
        refine lv_iadd hx hb dL_law_132 ?_
        refine xk_top (nI_add _ _) ?_
        refine xk_sld hx hb hX hbl hbA hS (by omega) (by omega) dL_law_133 ?_
        refine lv_aload_n hx hb dL_law_134 rfl (lv_at hl 0 rfl) ?_
        refine lv_iload_n hx hb dL_law_135 rfl (lv_at hl 3 rfl) ?_
        refine lv_iconst (v := nI 2) hx hb dL_law_136 (by decide +kernel) ?_
        refine lv_iadd hx hb dL_law_137 ?_
        refine xk_top (nI_add _ _) ?_
        refine xk_sld hx hb hX hbl hbA hS (by omega) (by omega) dL_law_138 ?_
        refine xk_afti (wr := mW cI cZ h1 am th n B tp ob co lv wrd mfr bgs fbs mrt wnt far) (ws' := fun u => (cW cI cL h0 ad n B nb u.1 u.2.1 co rd rts offs fnd u.2.2.1 frs btw snw u.2.2.2) ++ (mW cI cZ h1 am th n B tp ob co lv wrd mfr bgs fbs mrt wnt far)) (va_runV (As := [.int (xs (i + 1)), .int (xs (i + 2))]) (rest := []) ⟨hx, hb, hml, hown, hts⟩ (c_make l D cI cL h0 ad n B nb tp ob co rd rts offs fnd mem frs btw snw stw H.size (xs (i + 1)) (xs (i + 2)) hn hob4 htp htp1) (cwV 2 hts gL_law_X1_make rfl rfl rfl (by decide +kernel) ⟨Nat.le_of_ble_eq_true rfl, Nat.le_of_ble_eq_true rfl⟩) (xk_preV (va_recv hK hP (ci := 1) (q0 := 0) rfl rfl) rfl (hP.sub [0, 1, 2, 3, 4, 5, 6, 7, 8, 9, 10, 11] rfl) (hK.sub [0, 1] rfl) ((hD.sub [0, 1, 2, 3, 4, 5, 6, 7, 8, 9, 10, 11] (by decide) rfl).weaken (fun _ _ _ _ => trivial))) rfl rfl hl.1 rfl (lv_room (Nat.le_of_ble_eq_true rfl)) dL_law_139 ⟨Nat.le_of_ble_eq_true rfl, Nat.le_of_ble_eq_true rfl⟩) hP hD hS hA [0, 1, 2, 3, 4, 5, 6, 7, 8, 9, 10, 11] [12, 13, 14, 15, 16, 17, 18, 19] [8, 9, 10, 11, 12, 13, 14, 15, 16, 17, 18, 19, 0, 1, 2, 3, 4, 5, 6, 7] rfl rfl (by decide) (by decide) (fun _ => rfl) (by decide) (fun r1 u1 H locs hp1 hP hD hS => ?_)
        refine W.widen (k := 20) (n := 36748) (Nat.le_refl _) (Nat.le_refl _) ?_
        obtain ⟨tp1, ob1, mem1, stw1⟩ := u1
        have hP : va_P D vwCl ((cW cI cL h0 ad n B nb tp1 ob1 co rd rts offs fnd mem1 frs btw snw stw1) ++ (mW cI cZ h1 am th n B tp ob co lv wrd mfr bgs fbs mrt wnt far)) H := hP
        have hD : va_D (lwA s) ((cW cI cL h0 ad n B nb tp1 ob1 co rd rts offs fnd mem1 frs btw snw stw1) ++ (mW cI cZ h1 am th n B tp ob co lv wrd mfr bgs fbs mrt wnt far)) := hD
        refine lv_aload_n hx hb dL_law_142 rfl (lv_at hl 2 rfl) ?_
        refine lv_aload_n hx hb dL_law_143 rfl (lv_at hl 0 rfl) ?_
        refine lv_iload_n hx hb dL_law_144 rfl (lv_at hl 3 rfl) ?_
        refine lv_iconst (v := nI 1) hx hb dL_law_145 (by decide +kernel) ?_
        refine lv_iadd hx hb dL_law_146 ?_
        refine xk_top (nI_add _ _) ?_
        refine xk_sld hx hb hX hbl hbA hS (by omega) (by omega) dL_law_147 ?_
        refine lv_aload_n hx hb dL_law_148 rfl (lv_at hl 0 rfl) ?_
        refine lv_iload_n hx hb dL_law_149 rfl (lv_at hl 3 rfl) ?_
        refine lv_iconst (v := nI 2) hx hb dL_law_150 (by decide +kernel) ?_
        refine lv_iadd hx hb dL_law_151 ?_
        refine xk_top (nI_add _ _) ?_
        refine xk_sld hx hb hX hbl hbA hS (by omega) (by omega) dL_law_152 ?_
        refine xk_afti (wr := cW cI cL h0 ad n B nb tp1 ob1 co rd rts offs fnd mem1 frs btw snw stw1) (ws' := fun u => (cW cI cL h0 ad n B nb tp1 ob1 co rd rts offs fnd mem1 frs btw snw stw1) ++ (mW cI cZ h1 am th n B u.1 u.2.1 co lv u.2.2.1 mfr u.2.2.2 fbs mrt wnt far)) (va_runV (As := [.int (xs (i + 1)), .int (xs (i + 2))]) (rest := [.int r1]) ⟨hx, hb, hml, hown, hts⟩ (c_mmake l D cI cZ h1 am th n B tp ob co lv wrd mfr bgs fbs mrt wnt far H.size (xs (i + 1)) (xs (i + 2)) hn htp htp1) (cwV 2 hts gL_law_X2_make rfl rfl rfl (by decide +kernel) ⟨Nat.le_of_ble_eq_true rfl, Nat.le_of_ble_eq_true rfl⟩) (xk_preV (va_recv hK hP (ci := 2) (q0 := 12) rfl rfl) rfl (hP.sub [12, 13, 14, 15, 16, 17, 18, 19] rfl) (hK.sub [0, 2] rfl) ((hD.sub [12, 13, 14, 15, 16, 17, 18, 19] (by decide) rfl).weaken (fun _ _ _ _ => trivial))) rfl rfl hl.1 rfl (lv_room (Nat.le_of_ble_eq_true rfl)) dL_law_153 ⟨Nat.le_of_ble_eq_true rfl, Nat.le_of_ble_eq_true rfl⟩) hP hD hS hA [12, 13, 14, 15, 16, 17, 18, 19] [0, 1, 2, 3, 4, 5, 6, 7, 8, 9, 10, 11] [0, 1, 2, 3, 4, 5, 6, 7, 8, 9, 10, 11, 12, 13, 14, 15, 16, 17, 18, 19] rfl rfl (by decide) (by decide) (fun _ => rfl) (by decide) (fun r2 u2 H locs hp2 hP hD hS => ?_)
        refine W.widen (k := 20) (n := 36748) (Nat.le_refl _) (Nat.le_refl _) ?_
        obtain ⟨tp2, ob2, wrd2, bgs2⟩ := u2
        have hP : va_P D vwCl ((cW cI cL h0 ad n B nb tp1 ob1 co rd rts offs fnd mem1 frs btw snw stw1) ++ (mW cI cZ h1 am th n B tp2 ob2 co lv wrd2 mfr bgs2 fbs mrt wnt far)) H := hP
        have hD : va_D (lwA s) ((cW cI cL h0 ad n B nb tp1 ob1 co rd rts offs fnd mem1 frs btw snw stw1) ++ (mW cI cZ h1 am th n B tp2 ob2 co lv wrd2 mfr bgs2 fbs mrt wnt far)) := hD
        obtain ⟨er, et, eo, hR2⟩ := rl_make hR hp1 hp2
        have et : tp2 = tp1 := et
        have eo : ob2 = ob1 := eo
        rw [et, eo] at hP hD
        have hP : va_P D vwCl ((cW cI cL h0 ad n B nb tp1 ob1 co rd rts offs fnd mem1 frs btw snw stw1) ++ (mW cI cZ h1 am th n B tp1 ob1 co lv wrd2 mfr bgs2 fbs mrt wnt far)) H := hP
        have hD : va_D (lwA s) ((cW cI cL h0 ad n B nb tp1 ob1 co rd rts offs fnd mem1 frs btw snw stw1) ++ (mW cI cZ h1 am th n B tp1 ob1 co lv wrd2 mfr bgs2 fbs mrt wnt far)) := hD
        refine lv_icmp_eq (tgt := 503) hx hb dL_law_156 (by decide) (fun c156 => ?_) (fun c156 => absurd er c156)
        refine lv_iinc (v := nI (i + 4)) (lv' := [(3, .int (nI (i + 4))), (0, .ref b), (1, .ref h0), (2, .ref h1)]) hx hb dL_law_503 hl (k := 3) rfl (xk_inc4 i) (by decide) rfl (fun ls hl => ?_)
        refine lv_goto (tgt := 38) hx hb dL_law_506 (by decide) ?_
        exact ih (i + 4) h0 h1 ad am n B nb tp1 ob1 co rd th lv rts offs fnd mem1 frs btw snw stw1 wrd2 mfr bgs2 fbs mrt wnt far H locs ls (by omega) (by omega) hR2 hP hD hS (lv_sub hl [1, 2, 3, 0] rfl)
      | 1, _ =>
        refine lv_tableIn (tgt := 161) (off := 109) hx hb dL_law_52 (by decide) (by decide) (by decide) (by decide) ?_
        refine lv_aload_n hx hb dL_law_161 rfl (lv_at hl 1 rfl) ?_
        refine lv_aload_n hx hb dL_law_162 rfl (lv_at hl 0 rfl) ?_
        refine lv_iload_n hx hb dL_law_163 rfl (lv_at hl 3 rfl) ?_
        refine lv_iconst (v := nI 1) hx hb dL_law_164 (by decide +kernel) ?_
        refine lv_iadd hx hb dL_law_165 ?_
        refine xk_top (nI_add _ _) ?_
        refine xk_sld hx hb hX hbl hbA hS (by omega) (by omega) dL_law_166 ?_
        refine lv_aload_n hx hb dL_law_167 rfl (lv_at hl 0 rfl) ?_
        refine lv_iload_n hx hb dL_law_168 rfl (lv_at hl 3 rfl) ?_
        refine lv_iconst (v := nI 2) hx hb dL_law_169 (by decide +kernel) ?_
        refine lv_iadd hx hb dL_law_170 ?_
        refine xk_top (nI_add _ _) ?_
        refine xk_sld hx hb hX hbl hbA hS (by omega) (by omega) dL_law_171 ?_
        refine lv_aload_n hx hb dL_law_172 rfl (lv_at hl 0 rfl) ?_
        refine lv_iload_n hx hb dL_law_173 rfl (lv_at hl 3 rfl) ?_
        refine lv_iconst (v := nI 3) hx hb dL_law_174 (by decide +kernel) ?_
        refine lv_iadd hx hb dL_law_175 ?_
        refine xk_top (nI_add _ _) ?_
        refine xk_sld hx hb hX hbl hbA hS (by omega) (by omega) dL_law_176 ?_
        refine xk_afti (wr := mW cI cZ h1 am th n B tp ob co lv wrd mfr bgs fbs mrt wnt far) (ws' := fun u => (cW cI cL h0 ad n B nb tp ob co rd rts offs fnd u frs btw snw stw) ++ (mW cI cZ h1 am th n B tp ob co lv wrd mfr bgs fbs mrt wnt far)) (va_runV (As := [.int (xs (i + 1)), .int (xs (i + 2)), .int (xs (i + 3))]) (rest := []) ⟨hx, hb, hml, hown, hts⟩ (c_refer l D cI cL h0 ad n B nb tp ob co rd rts offs fnd mem frs btw snw stw H.size (xs (i + 1)) (xs (i + 2)) (xs (i + 3)) hn hok) (cwV 3 hts gL_law_X1_refer rfl rfl rfl (by decide +kernel) ⟨Nat.le_of_ble_eq_true rfl, Nat.le_of_ble_eq_true rfl⟩) (xk_preV (va_recv hK hP (ci := 1) (q0 := 0) rfl rfl) rfl (hP.sub [0, 1, 2, 3, 4, 5, 6, 7, 8, 9, 10, 11] rfl) (hK.sub [0, 1] rfl) ((hD.sub [0, 1, 2, 3, 4, 5, 6, 7, 8, 9, 10, 11] (by decide) rfl).weaken (fun _ _ _ _ => trivial))) rfl rfl hl.1 rfl (lv_room (Nat.le_of_ble_eq_true rfl)) dL_law_177 ⟨Nat.le_of_ble_eq_true rfl, Nat.le_of_ble_eq_true rfl⟩) hP hD hS hA [0, 1, 2, 3, 4, 5, 6, 7, 8, 9, 10, 11] [12, 13, 14, 15, 16, 17, 18, 19] [8, 9, 10, 11, 12, 13, 14, 15, 16, 17, 18, 19, 0, 1, 2, 3, 4, 5, 6, 7] rfl rfl (by decide) (by decide) (fun _ => rfl) (by decide) (fun r1 u1 H locs hp1 hP hD hS => ?_)
        refine W.widen (k := 20) (n := 36748) (Nat.le_refl _) (Nat.le_refl _) ?_
        have hP : va_P D vwCl ((cW cI cL h0 ad n B nb tp ob co rd rts offs fnd u1 frs btw snw stw) ++ (mW cI cZ h1 am th n B tp ob co lv wrd mfr bgs fbs mrt wnt far)) H := hP
        have hD : va_D (lwA s) ((cW cI cL h0 ad n B nb tp ob co rd rts offs fnd u1 frs btw snw stw) ++ (mW cI cZ h1 am th n B tp ob co lv wrd mfr bgs fbs mrt wnt far)) := hD
        refine lv_aload_n hx hb dL_law_180 rfl (lv_at hl 2 rfl) ?_
        refine lv_aload_n hx hb dL_law_181 rfl (lv_at hl 0 rfl) ?_
        refine lv_iload_n hx hb dL_law_182 rfl (lv_at hl 3 rfl) ?_
        refine lv_iconst (v := nI 1) hx hb dL_law_183 (by decide +kernel) ?_
        refine lv_iadd hx hb dL_law_184 ?_
        refine xk_top (nI_add _ _) ?_
        refine xk_sld hx hb hX hbl hbA hS (by omega) (by omega) dL_law_185 ?_
        refine lv_aload_n hx hb dL_law_186 rfl (lv_at hl 0 rfl) ?_
        refine lv_iload_n hx hb dL_law_187 rfl (lv_at hl 3 rfl) ?_
        refine lv_iconst (v := nI 2) hx hb dL_law_188 (by decide +kernel) ?_
        refine lv_iadd hx hb dL_law_189 ?_
        refine xk_top (nI_add _ _) ?_
        refine xk_sld hx hb hX hbl hbA hS (by omega) (by omega) dL_law_190 ?_
        refine lv_aload_n hx hb dL_law_191 rfl (lv_at hl 0 rfl) ?_
        refine lv_iload_n hx hb dL_law_192 rfl (lv_at hl 3 rfl) ?_
        refine lv_iconst (v := nI 3) hx hb dL_law_193 (by decide +kernel) ?_
        refine lv_iadd hx hb dL_law_194 ?_
        refine xk_top (nI_add _ _) ?_
        refine xk_sld hx hb hX hbl hbA hS (by omega) (by omega) dL_law_195 ?_
        refine xk_afti (wr := cW cI cL h0 ad n B nb tp ob co rd rts offs fnd u1 frs btw snw stw) (ws' := fun u => (cW cI cL h0 ad n B nb tp ob co rd rts offs fnd u1 frs btw snw stw) ++ (mW cI cZ h1 am th n B tp ob co lv u mfr bgs fbs mrt wnt far)) (va_runV (As := [.int (xs (i + 1)), .int (xs (i + 2)), .int (xs (i + 3))]) (rest := [.int r1]) ⟨hx, hb, hml, hown, hts⟩ (c_mrefer l D cI cZ h1 am th n B tp ob co lv wrd mfr bgs fbs mrt wnt far H.size (bo stw) (xs (i + 1)) (xs (i + 2)) (xs (i + 3)) hokM hbg) (cwV 3 hts gL_law_X2_refer rfl rfl rfl (by decide +kernel) ⟨Nat.le_of_ble_eq_true rfl, Nat.le_of_ble_eq_true rfl⟩) (xk_preV (va_recv hK hP (ci := 2) (q0 := 12) rfl rfl) rfl (hP.sub [12, 13, 14, 15, 16, 17, 18, 19] rfl) (hK.sub [0, 2] rfl) ((hD.sub [12, 13, 14, 15, 16, 17, 18, 19] (by decide) rfl).weaken (fun _ _ _ _ => trivial))) rfl rfl hl.1 rfl (lv_room (Nat.le_of_ble_eq_true rfl)) dL_law_196 ⟨Nat.le_of_ble_eq_true rfl, Nat.le_of_ble_eq_true rfl⟩) hP hD hS hA [12, 13, 14, 15, 16, 17, 18, 19] [0, 1, 2, 3, 4, 5, 6, 7, 8, 9, 10, 11] [0, 1, 2, 3, 4, 5, 6, 7, 8, 9, 10, 11, 12, 13, 14, 15, 16, 17, 18, 19] rfl rfl (by decide) (by decide) (fun _ => rfl) (by decide) (fun r2 u2 H locs hp2 hP hD hS => ?_)
        refine W.widen (k := 20) (n := 36748) (Nat.le_refl _) (Nat.le_refl _) ?_
        have hP : va_P D vwCl ((cW cI cL h0 ad n B nb tp ob co rd rts offs fnd u1 frs btw snw stw) ++ (mW cI cZ h1 am th n B tp ob co lv u2 mfr bgs fbs mrt wnt far)) H := hP
        have hD : va_D (lwA s) ((cW cI cL h0 ad n B nb tp ob co rd rts offs fnd u1 frs btw snw stw) ++ (mW cI cZ h1 am th n B tp ob co lv u2 mfr bgs fbs mrt wnt far)) := hD
        obtain ⟨er, hR2⟩ := rl_refer hR hp1 hp2
        refine lv_icmp_eq (tgt := 503) hx hb dL_law_199 (by decide) (fun c199 => ?_) (fun c199 => absurd er c199)
        refine lv_iinc (v := nI (i + 4)) (lv' := [(3, .int (nI (i + 4))), (0, .ref b), (1, .ref h0), (2, .ref h1)]) hx hb dL_law_503 hl (k := 3) rfl (xk_inc4 i) (by decide) rfl (fun ls hl => ?_)
        refine lv_goto (tgt := 38) hx hb dL_law_506 (by decide) ?_
        exact ih (i + 4) h0 h1 ad am n B nb tp ob co rd th lv rts offs fnd u1 frs btw snw stw u2 mfr bgs fbs mrt wnt far H locs ls (by omega) (by omega) hR2 hP hD hS (lv_sub hl [1, 2, 3, 0] rfl)
      | 2, _ =>
        refine lv_tableIn (tgt := 204) (off := 152) hx hb dL_law_52 (by decide) (by decide) (by decide) (by decide) ?_
        refine lv_aload_n hx hb dL_law_204 rfl (lv_at hl 1 rfl) ?_
        refine lv_aload_n hx hb dL_law_205 rfl (lv_at hl 0 rfl) ?_
        refine lv_iload_n hx hb dL_law_206 rfl (lv_at hl 3 rfl) ?_
        refine lv_iconst (v := nI 1) hx hb dL_law_207 (by decide +kernel) ?_
        refine lv_iadd hx hb dL_law_208 ?_
        refine xk_top (nI_add _ _) ?_
        refine xk_sld hx hb hX hbl hbA hS (by omega) (by omega) dL_law_209 ?_
        refine lv_aload_n hx hb dL_law_210 rfl (lv_at hl 0 rfl) ?_
        refine lv_iload_n hx hb dL_law_211 rfl (lv_at hl 3 rfl) ?_
        refine lv_iconst (v := nI 2) hx hb dL_law_212 (by decide +kernel) ?_
        refine lv_iadd hx hb dL_law_213 ?_
        refine xk_top (nI_add _ _) ?_
        refine xk_sld hx hb hX hbl hbA hS (by omega) (by omega) dL_law_214 ?_
        refine lv_aload_n hx hb dL_law_215 rfl (lv_at hl 0 rfl) ?_
        refine lv_iload_n hx hb dL_law_216 rfl (lv_at hl 3 rfl) ?_
        refine lv_iconst (v := nI 3) hx hb dL_law_217 (by decide +kernel) ?_
        refine lv_iadd hx hb dL_law_218 ?_
        refine xk_top (nI_add _ _) ?_
        refine xk_sld hx hb hX hbl hbA hS (by omega) (by omega) dL_law_219 ?_
        refine xk_afti (wr := mW cI cZ h1 am th n B tp ob co lv wrd mfr bgs fbs mrt wnt far) (ws' := fun u => (cW cI cL h0 ad n B nb tp ob co rd rts offs fnd u frs btw snw stw) ++ (mW cI cZ h1 am th n B tp ob co lv wrd mfr bgs fbs mrt wnt far)) (va_runV (As := [.int (xs (i + 1)), .int (xs (i + 2)), .int (xs (i + 3))]) (rest := []) ⟨hx, hb, hml, hown, hts⟩ (c_set l D cI cL h0 ad n B nb tp ob co rd rts offs fnd mem frs btw snw stw H.size (xs (i + 1)) (xs (i + 2)) (xs (i + 3)) hn hok) (cwV 3 hts gL_law_X1_set rfl rfl rfl (by decide +kernel) ⟨Nat.le_of_ble_eq_true rfl, Nat.le_of_ble_eq_true rfl⟩) (xk_preV (va_recv hK hP (ci := 1) (q0 := 0) rfl rfl) rfl (hP.sub [0, 1, 2, 3, 4, 5, 6, 7, 8, 9, 10, 11] rfl) (hK.sub [0, 1] rfl) ((hD.sub [0, 1, 2, 3, 4, 5, 6, 7, 8, 9, 10, 11] (by decide) rfl).weaken (fun _ _ _ _ => trivial))) rfl rfl hl.1 rfl (lv_room (Nat.le_of_ble_eq_true rfl)) dL_law_220 ⟨Nat.le_of_ble_eq_true rfl, Nat.le_of_ble_eq_true rfl⟩) hP hD hS hA [0, 1, 2, 3, 4, 5, 6, 7, 8, 9, 10, 11] [12, 13, 14, 15, 16, 17, 18, 19] [8, 9, 10, 11, 12, 13, 14, 15, 16, 17, 18, 19, 0, 1, 2, 3, 4, 5, 6, 7] rfl rfl (by decide) (by decide) (fun _ => rfl) (by decide) (fun r1 u1 H locs hp1 hP hD hS => ?_)
        refine W.widen (k := 20) (n := 36748) (Nat.le_refl _) (Nat.le_refl _) ?_
        have hP : va_P D vwCl ((cW cI cL h0 ad n B nb tp ob co rd rts offs fnd u1 frs btw snw stw) ++ (mW cI cZ h1 am th n B tp ob co lv wrd mfr bgs fbs mrt wnt far)) H := hP
        have hD : va_D (lwA s) ((cW cI cL h0 ad n B nb tp ob co rd rts offs fnd u1 frs btw snw stw) ++ (mW cI cZ h1 am th n B tp ob co lv wrd mfr bgs fbs mrt wnt far)) := hD
        refine lv_aload_n hx hb dL_law_223 rfl (lv_at hl 2 rfl) ?_
        refine lv_aload_n hx hb dL_law_224 rfl (lv_at hl 0 rfl) ?_
        refine lv_iload_n hx hb dL_law_225 rfl (lv_at hl 3 rfl) ?_
        refine lv_iconst (v := nI 1) hx hb dL_law_226 (by decide +kernel) ?_
        refine lv_iadd hx hb dL_law_227 ?_
        refine xk_top (nI_add _ _) ?_
        refine xk_sld hx hb hX hbl hbA hS (by omega) (by omega) dL_law_228 ?_
        refine lv_aload_n hx hb dL_law_229 rfl (lv_at hl 0 rfl) ?_
        refine lv_iload_n hx hb dL_law_230 rfl (lv_at hl 3 rfl) ?_
        refine lv_iconst (v := nI 2) hx hb dL_law_231 (by decide +kernel) ?_
        refine lv_iadd hx hb dL_law_232 ?_
        refine xk_top (nI_add _ _) ?_
        refine xk_sld hx hb hX hbl hbA hS (by omega) (by omega) dL_law_233 ?_
        refine lv_aload_n hx hb dL_law_234 rfl (lv_at hl 0 rfl) ?_
        refine lv_iload_n hx hb dL_law_235 rfl (lv_at hl 3 rfl) ?_
        refine lv_iconst (v := nI 3) hx hb dL_law_236 (by decide +kernel) ?_
        refine lv_iadd hx hb dL_law_237 ?_
        refine xk_top (nI_add _ _) ?_
        refine xk_sld hx hb hX hbl hbA hS (by omega) (by omega) dL_law_238 ?_
        refine xk_afti (wr := cW cI cL h0 ad n B nb tp ob co rd rts offs fnd u1 frs btw snw stw) (ws' := fun u => (cW cI cL h0 ad n B nb tp ob co rd rts offs fnd u1 frs btw snw stw) ++ (mW cI cZ h1 am th n B tp ob co lv u mfr bgs fbs mrt wnt far)) (va_runV (As := [.int (xs (i + 1)), .int (xs (i + 2)), .int (xs (i + 3))]) (rest := [.int r1]) ⟨hx, hb, hml, hown, hts⟩ (c_mset l D cI cZ h1 am th n B tp ob co lv wrd mfr bgs fbs mrt wnt far H.size (bo stw) (xs (i + 1)) (xs (i + 2)) (xs (i + 3)) hokM hbg) (cwV 3 hts gL_law_X2_set rfl rfl rfl (by decide +kernel) ⟨Nat.le_of_ble_eq_true rfl, Nat.le_of_ble_eq_true rfl⟩) (xk_preV (va_recv hK hP (ci := 2) (q0 := 12) rfl rfl) rfl (hP.sub [12, 13, 14, 15, 16, 17, 18, 19] rfl) (hK.sub [0, 2] rfl) ((hD.sub [12, 13, 14, 15, 16, 17, 18, 19] (by decide) rfl).weaken (fun _ _ _ _ => trivial))) rfl rfl hl.1 rfl (lv_room (Nat.le_of_ble_eq_true rfl)) dL_law_239 ⟨Nat.le_of_ble_eq_true rfl, Nat.le_of_ble_eq_true rfl⟩) hP hD hS hA [12, 13, 14, 15, 16, 17, 18, 19] [0, 1, 2, 3, 4, 5, 6, 7, 8, 9, 10, 11] [0, 1, 2, 3, 4, 5, 6, 7, 8, 9, 10, 11, 12, 13, 14, 15, 16, 17, 18, 19] rfl rfl (by decide) (by decide) (fun _ => rfl) (by decide) (fun r2 u2 H locs hp2 hP hD hS => ?_)
        refine W.widen (k := 20) (n := 36748) (Nat.le_refl _) (Nat.le_refl _) ?_
        have hP : va_P D vwCl ((cW cI cL h0 ad n B nb tp ob co rd rts offs fnd u1 frs btw snw stw) ++ (mW cI cZ h1 am th n B tp ob co lv u2 mfr bgs fbs mrt wnt far)) H := hP
        have hD : va_D (lwA s) ((cW cI cL h0 ad n B nb tp ob co rd rts offs fnd u1 frs btw snw stw) ++ (mW cI cZ h1 am th n B tp ob co lv u2 mfr bgs fbs mrt wnt far)) := hD
        obtain ⟨er, hR2⟩ := rl_set hR hp1 hp2
        refine lv_icmp_eq (tgt := 503) hx hb dL_law_242 (by decide) (fun c242 => ?_) (fun c242 => absurd er c242)
        refine lv_iinc (v := nI (i + 4)) (lv' := [(3, .int (nI (i + 4))), (0, .ref b), (1, .ref h0), (2, .ref h1)]) hx hb dL_law_503 hl (k := 3) rfl (xk_inc4 i) (by decide) rfl (fun ls hl => ?_)
        refine lv_goto (tgt := 38) hx hb dL_law_506 (by decide) ?_
        exact ih (i + 4) h0 h1 ad am n B nb tp ob co rd th lv rts offs fnd u1 frs btw snw stw u2 mfr bgs fbs mrt wnt far H locs ls (by omega) (by omega) hR2 hP hD hS (lv_sub hl [1, 2, 3, 0] rfl)
      | 3, _ =>
        refine lv_tableIn (tgt := 247) (off := 195) hx hb dL_law_52 (by decide) (by decide) (by decide) (by decide) ?_
        refine lv_aload_n hx hb dL_law_247 rfl (lv_at hl 1 rfl) ?_
        refine lv_aload_n hx hb dL_law_248 rfl (lv_at hl 0 rfl) ?_
        refine lv_iload_n hx hb dL_law_249 rfl (lv_at hl 3 rfl) ?_
        refine lv_iconst (v := nI 1) hx hb dL_law_250 (by decide +kernel) ?_
        refine lv_iadd hx hb dL_law_251 ?_
        refine xk_top (nI_add _ _) ?_
        refine xk_sld hx hb hX hbl hbA hS (by omega) (by omega) dL_law_252 ?_
        refine lv_aload_n hx hb dL_law_253 rfl (lv_at hl 0 rfl) ?_
        refine lv_iload_n hx hb dL_law_254 rfl (lv_at hl 3 rfl) ?_
        refine lv_iconst (v := nI 2) hx hb dL_law_255 (by decide +kernel) ?_
        refine lv_iadd hx hb dL_law_256 ?_
        refine xk_top (nI_add _ _) ?_
        refine xk_sld hx hb hX hbl hbA hS (by omega) (by omega) dL_law_257 ?_
        refine xk_afti (wr := mW cI cZ h1 am th n B tp ob co lv wrd mfr bgs fbs mrt wnt far) (ws' := fun u => (cW cI cL h0 ad n B nb tp ob co rd u offs fnd mem frs btw snw stw) ++ (mW cI cZ h1 am th n B tp ob co lv wrd mfr bgs fbs mrt wnt far)) (va_runV (As := [.int (xs (i + 1)), .int (xs (i + 2))]) (rest := []) ⟨hx, hb, hml, hown, hts⟩ (c_root l D cI cL h0 ad n B nb tp ob co rd rts offs fnd mem frs btw snw stw H.size (xs (i + 1)) (xs (i + 2)) hn htp) (cwV 2 hts gL_law_X1_root rfl rfl rfl (by decide +kernel) ⟨Nat.le_of_ble_eq_true rfl, Nat.le_of_ble_eq_true rfl⟩) (xk_preV (va_recv hK hP (ci := 1) (q0 := 0) rfl rfl) rfl (hP.sub [0, 1, 2, 3, 4, 5, 6, 7, 8, 9, 10, 11] rfl) (hK.sub [0, 1] rfl) ((hD.sub [0, 1, 2, 3, 4, 5, 6, 7, 8, 9, 10, 11] (by decide) rfl).weaken (fun _ _ _ _ => trivial))) rfl rfl hl.1 rfl (lv_room (Nat.le_of_ble_eq_true rfl)) dL_law_258 ⟨Nat.le_of_ble_eq_true rfl, Nat.le_of_ble_eq_true rfl⟩) hP hD hS hA [0, 1, 2, 3, 4, 5, 6, 7, 8, 9, 10, 11] [12, 13, 14, 15, 16, 17, 18, 19] [8, 9, 10, 11, 12, 13, 14, 15, 16, 17, 18, 19, 0, 1, 2, 3, 4, 5, 6, 7] rfl rfl (by decide) (by decide) (fun _ => rfl) (by decide) (fun r1 u1 H locs hp1 hP hD hS => ?_)
        refine W.widen (k := 20) (n := 36748) (Nat.le_refl _) (Nat.le_refl _) ?_
        have hP : va_P D vwCl ((cW cI cL h0 ad n B nb tp ob co rd u1 offs fnd mem frs btw snw stw) ++ (mW cI cZ h1 am th n B tp ob co lv wrd mfr bgs fbs mrt wnt far)) H := hP
        have hD : va_D (lwA s) ((cW cI cL h0 ad n B nb tp ob co rd u1 offs fnd mem frs btw snw stw) ++ (mW cI cZ h1 am th n B tp ob co lv wrd mfr bgs fbs mrt wnt far)) := hD
        refine lv_aload_n hx hb dL_law_261 rfl (lv_at hl 2 rfl) ?_
        refine lv_aload_n hx hb dL_law_262 rfl (lv_at hl 0 rfl) ?_
        refine lv_iload_n hx hb dL_law_263 rfl (lv_at hl 3 rfl) ?_
        refine lv_iconst (v := nI 1) hx hb dL_law_264 (by decide +kernel) ?_
        refine lv_iadd hx hb dL_law_265 ?_
        refine xk_top (nI_add _ _) ?_
        refine xk_sld hx hb hX hbl hbA hS (by omega) (by omega) dL_law_266 ?_
        refine lv_aload_n hx hb dL_law_267 rfl (lv_at hl 0 rfl) ?_
        refine lv_iload_n hx hb dL_law_268 rfl (lv_at hl 3 rfl) ?_
        refine lv_iconst (v := nI 2) hx hb dL_law_269 (by decide +kernel) ?_
        refine lv_iadd hx hb dL_law_270 ?_
        refine xk_top (nI_add _ _) ?_
        refine xk_sld hx hb hX hbl hbA hS (by omega) (by omega) dL_law_271 ?_
        refine xk_afti (wr := cW cI cL h0 ad n B nb tp ob co rd u1 offs fnd mem frs btw snw stw) (ws' := fun u => (cW cI cL h0 ad n B nb tp ob co rd u1 offs fnd mem frs btw snw stw) ++ (mW cI cZ h1 am th n B tp ob co lv wrd mfr bgs fbs u wnt far)) (va_runV (As := [.int (xs (i + 1)), .int (xs (i + 2))]) (rest := [.int r1]) ⟨hx, hb, hml, hown, hts⟩ (c_mroot l D cI cZ h1 am th n B tp ob co lv wrd mfr bgs fbs mrt wnt far H.size (bo stw) (xs (i + 1)) (xs (i + 2)) hokM hbg) (cwV 2 hts gL_law_X2_root rfl rfl rfl (by decide +kernel) ⟨Nat.le_of_ble_eq_true rfl, Nat.le_of_ble_eq_true rfl⟩) (xk_preV (va_recv hK hP (ci := 2) (q0 := 12) rfl rfl) rfl (hP.sub [12, 13, 14, 15, 16, 17, 18, 19] rfl) (hK.sub [0, 2] rfl) ((hD.sub [12, 13, 14, 15, 16, 17, 18, 19] (by decide) rfl).weaken (fun _ _ _ _ => trivial))) rfl rfl hl.1 rfl (lv_room (Nat.le_of_ble_eq_true rfl)) dL_law_272 ⟨Nat.le_of_ble_eq_true rfl, Nat.le_of_ble_eq_true rfl⟩) hP hD hS hA [12, 13, 14, 15, 16, 17, 18, 19] [0, 1, 2, 3, 4, 5, 6, 7, 8, 9, 10, 11] [0, 1, 2, 3, 4, 5, 6, 7, 8, 9, 10, 11, 12, 13, 14, 15, 16, 17, 18, 19] rfl rfl (by decide) (by decide) (fun _ => rfl) (by decide) (fun r2 u2 H locs hp2 hP hD hS => ?_)
        refine W.widen (k := 20) (n := 36748) (Nat.le_refl _) (Nat.le_refl _) ?_
        have hP : va_P D vwCl ((cW cI cL h0 ad n B nb tp ob co rd u1 offs fnd mem frs btw snw stw) ++ (mW cI cZ h1 am th n B tp ob co lv wrd mfr bgs fbs u2 wnt far)) H := hP
        have hD : va_D (lwA s) ((cW cI cL h0 ad n B nb tp ob co rd u1 offs fnd mem frs btw snw stw) ++ (mW cI cZ h1 am th n B tp ob co lv wrd mfr bgs fbs u2 wnt far)) := hD
        obtain ⟨er, hR2⟩ := rl_root hR hp1 hp2
        refine lv_icmp_eq (tgt := 503) hx hb dL_law_275 (by decide) (fun c275 => ?_) (fun c275 => absurd er c275)
        refine lv_iinc (v := nI (i + 4)) (lv' := [(3, .int (nI (i + 4))), (0, .ref b), (1, .ref h0), (2, .ref h1)]) hx hb dL_law_503 hl (k := 3) rfl (xk_inc4 i) (by decide) rfl (fun ls hl => ?_)
        refine lv_goto (tgt := 38) hx hb dL_law_506 (by decide) ?_
        exact ih (i + 4) h0 h1 ad am n B nb tp ob co rd th lv u1 offs fnd mem frs btw snw stw wrd mfr bgs fbs u2 wnt far H locs ls (by omega) (by omega) hR2 hP hD hS (lv_sub hl [1, 2, 3, 0] rfl)
      | 4, _ =>
        refine lv_tableIn (tgt := 280) (off := 228) hx hb dL_law_52 (by decide) (by decide) (by decide) (by decide) ?_
        refine lv_aload_n hx hb dL_law_280 rfl (lv_at hl 1 rfl) ?_
        refine xk_afti (wr := mW cI cZ h1 am th n B tp ob co lv wrd mfr bgs fbs mrt wnt far) (ws' := fun u => (cW cI cL h0 (swA ad) n B nb u.2.2.2.2.2.2.2.2.1 u.2.2.2.2.2.2.2.2.2.1 (co + 1) u.2.2.2.2.2.2.2.2.2.2 u.1 u.2.1 u.2.2.1 u.2.2.2.1 u.2.2.2.2.1 u.2.2.2.2.2.1 u.2.2.2.2.2.2.1 u.2.2.2.2.2.2.2.1) ++ (mW cI cZ h1 am th n B tp ob co lv wrd mfr bgs fbs mrt wnt far)) (va_runV (As := []) (rest := []) ⟨hx, hb, hml, hown, hts⟩ (c_collect l D cI cL h0 ad n B nb tp ob co rd rts offs fnd mem frs btw snw stw H.size hn hok hB hnb) (cwV 0 hts gL_law_X1_collect rfl rfl rfl (by decide +kernel) ⟨Nat.le_of_ble_eq_true rfl, Nat.le_of_ble_eq_true rfl⟩) (xk_preV (va_recv hK hP (ci := 1) (q0 := 0) rfl rfl) rfl (hP.sub [0, 1, 2, 3, 4, 5, 6, 7, 8, 9, 10, 11] rfl) (hK.sub [0, 1] rfl) ((hD.sub [0, 1, 2, 3, 4, 5, 6, 7, 8, 9, 10, 11] (by decide) rfl).weaken (fun _ _ _ _ => trivial))) rfl rfl hl.1 rfl (lv_room (Nat.le_of_ble_eq_true rfl)) dL_law_281 ⟨Nat.le_of_ble_eq_true rfl, Nat.le_of_ble_eq_true rfl⟩) hP hD hS hA [0, 1, 2, 3, 4, 5, 6, 7, 8, 9, 10, 11] [12, 13, 14, 15, 16, 17, 18, 19] [8, 9, 10, 11, 12, 13, 14, 15, 16, 17, 18, 19, 0, 1, 2, 3, 4, 5, 6, 7] rfl rfl (by decide) (by decide) (fun _ => rfl) (by decide) (fun r1 u1 H locs hp1 hP hD hS => ?_)
        refine W.widen (k := 20) (n := 36748) (Nat.le_refl _) (Nat.le_refl _) ?_
        obtain ⟨rts1, offs1, fnd1, mem1, frs1, btw1, snw1, stw1, tp1, ob1, rd1⟩ := u1
        have hP : va_P D vwCl ((cW cI cL h0 (swA ad) n B nb tp1 ob1 (co + 1) rd1 rts1 offs1 fnd1 mem1 frs1 btw1 snw1 stw1) ++ (mW cI cZ h1 am th n B tp ob co lv wrd mfr bgs fbs mrt wnt far)) H := hP
        have hD : va_D (lwA s) ((cW cI cL h0 (swA ad) n B nb tp1 ob1 (co + 1) rd1 rts1 offs1 fnd1 mem1 frs1 btw1 snw1 stw1) ++ (mW cI cZ h1 am th n B tp ob co lv wrd mfr bgs fbs mrt wnt far)) := hD
        refine lv_aload_n hx hb dL_law_284 rfl (lv_at hl 2 rfl) ?_
        refine xk_afti (wr := cW cI cL h0 (swA ad) n B nb tp1 ob1 (co + 1) rd1 rts1 offs1 fnd1 mem1 frs1 btw1 snw1 stw1) (ws' := fun u => (cW cI cL h0 (swA ad) n B nb tp1 ob1 (co + 1) rd1 rts1 offs1 fnd1 mem1 frs1 btw1 snw1 stw1) ++ (mW cI cZ h1 am th n B u.1 u.2.1 (co + 1) u.2.2.1 u.2.2.2.1 u.2.2.2.2.1 u.2.2.2.2.2.1 u.2.2.2.2.2.2.1 u.2.2.2.2.2.2.2.1 u.2.2.2.2.2.2.2.2.1 u.2.2.2.2.2.2.2.2.2)) (va_runV (As := []) (rest := [.int r1]) ⟨hx, hb, hml, hown, hts⟩ (c_mcollect l D cI cZ h1 am th n B tp ob co lv wrd mfr bgs fbs mrt wnt far H.size (bo stw) hokM) (cwV 0 hts gL_law_X2_collect rfl rfl rfl (by decide +kernel) ⟨Nat.le_of_ble_eq_true rfl, Nat.le_of_ble_eq_true rfl⟩) (xk_preV (va_recv hK hP (ci := 2) (q0 := 12) rfl rfl) rfl (hP.sub [12, 13, 14, 15, 16, 17, 18, 19] rfl) (hK.sub [0, 2] rfl) ((hD.sub [12, 13, 14, 15, 16, 17, 18, 19] (by decide) rfl).weaken (fun _ _ _ _ => trivial))) rfl rfl hl.1 rfl (lv_room (Nat.le_of_ble_eq_true rfl)) dL_law_285 ⟨Nat.le_of_ble_eq_true rfl, Nat.le_of_ble_eq_true rfl⟩) hP hD hS hA [12, 13, 14, 15, 16, 17, 18, 19] [0, 1, 2, 3, 4, 5, 6, 7, 8, 9, 10, 11] [0, 1, 2, 3, 4, 5, 6, 7, 8, 9, 10, 11, 12, 13, 14, 15, 16, 17, 18, 19] rfl rfl (by decide) (by decide) (fun _ => rfl) (by decide) (fun r2 u2 H locs hp2 hP hD hS => ?_)
        refine W.widen (k := 20) (n := 36748) (Nat.le_refl _) (Nat.le_refl _) ?_
        obtain ⟨tp2, ob2, lv2, wrd2, mfr2, bgs2, fbs2, mrt2, wnt2, far2⟩ := u2
        have hP : va_P D vwCl ((cW cI cL h0 (swA ad) n B nb tp1 ob1 (co + 1) rd1 rts1 offs1 fnd1 mem1 frs1 btw1 snw1 stw1) ++ (mW cI cZ h1 am th n B tp2 ob2 (co + 1) lv2 wrd2 mfr2 bgs2 fbs2 mrt2 wnt2 far2)) H := hP
        have hD : va_D (lwA s) ((cW cI cL h0 (swA ad) n B nb tp1 ob1 (co + 1) rd1 rts1 offs1 fnd1 mem1 frs1 btw1 snw1 stw1) ++ (mW cI cZ h1 am th n B tp2 ob2 (co + 1) lv2 wrd2 mfr2 bgs2 fbs2 mrt2 wnt2 far2)) := hD
        obtain ⟨er, et, eo, hR2⟩ := rl_coll hR hp1 hp2
        have et : tp2 = tp1 := et
        have eo : ob2 = ob1 := eo
        have hR2 : RelS n B nb tp1 ob1 rd1 lv2 rts1 offs1 mem1 btw1 stw1 wrd2 bgs2 mrt2 wnt2 := hR2
        rw [et, eo] at hP hD
        have hP : va_P D vwCl ((cW cI cL h0 (swA ad) n B nb tp1 ob1 (co + 1) rd1 rts1 offs1 fnd1 mem1 frs1 btw1 snw1 stw1) ++ (mW cI cZ h1 am th n B tp1 ob1 (co + 1) lv2 wrd2 mfr2 bgs2 fbs2 mrt2 wnt2 far2)) H := hP
        have hD : va_D (lwA s) ((cW cI cL h0 (swA ad) n B nb tp1 ob1 (co + 1) rd1 rts1 offs1 fnd1 mem1 frs1 btw1 snw1 stw1) ++ (mW cI cZ h1 am th n B tp1 ob1 (co + 1) lv2 wrd2 mfr2 bgs2 fbs2 mrt2 wnt2 far2)) := hD
        refine lv_icmp_eq (tgt := 503) hx hb dL_law_288 (by decide) (fun c288 => ?_) (fun c288 => absurd er c288)
        refine lv_iinc (v := nI (i + 4)) (lv' := [(3, .int (nI (i + 4))), (0, .ref b), (1, .ref h0), (2, .ref h1)]) hx hb dL_law_503 hl (k := 3) rfl (xk_inc4 i) (by decide) rfl (fun ls hl => ?_)
        refine lv_goto (tgt := 38) hx hb dL_law_506 (by decide) ?_
        exact ih (i + 4) h0 h1 (swA ad) am n B nb tp1 ob1 (co + 1) rd1 th lv2 rts1 offs1 fnd1 mem1 frs1 btw1 snw1 stw1 wrd2 mfr2 bgs2 fbs2 mrt2 wnt2 far2 H locs ls (by omega) (by omega) hR2 hP hD hS (lv_sub hl [1, 2, 3, 0] rfl)
      | 5, _ =>
        refine lv_tableIn (tgt := 293) (off := 241) hx hb dL_law_52 (by decide) (by decide) (by decide) (by decide) ?_
        refine lv_aload_n hx hb dL_law_293 rfl (lv_at hl 1 rfl) ?_
        refine lv_aload_n hx hb dL_law_294 rfl (lv_at hl 0 rfl) ?_
        refine lv_iload_n hx hb dL_law_295 rfl (lv_at hl 3 rfl) ?_
        refine lv_iconst (v := nI 1) hx hb dL_law_296 (by decide +kernel) ?_
        refine lv_iadd hx hb dL_law_297 ?_
        refine xk_top (nI_add _ _) ?_
        refine xk_sld hx hb hX hbl hbA hS (by omega) (by omega) dL_law_298 ?_
        refine xk_roV (As := [.int (xs (i + 1))]) (rest := []) ⟨hx, hb, hml, hown, hts⟩ (c_word l D cI cL h0 ad n B nb tp ob co rd rts offs fnd mem frs btw snw stw (xs (i + 1)) hn) (cwV 1 hts gL_law_X1_word rfl rfl rfl (by decide +kernel) ⟨Nat.le_of_ble_eq_true rfl, Nat.le_of_ble_eq_true rfl⟩) (va_recv hK hP (ci := 1) (q0 := 0) rfl rfl) (hP.sub [0, 1, 2, 3, 4, 5, 6, 7, 8, 9, 10, 11] rfl) (hK.sub [0, 1] rfl) rfl hl.1 rfl (Nat.le_of_ble_eq_true rfl) dL_law_299 ⟨Nat.le_of_ble_eq_true rfl, Nat.le_of_ble_eq_true rfl⟩ ?_
        refine lv_aload_n hx hb dL_law_302 rfl (lv_at hl 2 rfl) ?_
        refine lv_aload_n hx hb dL_law_303 rfl (lv_at hl 0 rfl) ?_
        refine lv_iload_n hx hb dL_law_304 rfl (lv_at hl 3 rfl) ?_
        refine lv_iconst (v := nI 1) hx hb dL_law_305 (by decide +kernel) ?_
        refine lv_iadd hx hb dL_law_306 ?_
        refine xk_top (nI_add _ _) ?_
        refine xk_sld hx hb hX hbl hbA hS (by omega) (by omega) dL_law_307 ?_
        refine xk_roV (As := [.int (xs (i + 1))]) (rest := [.int (atR (n + 1) mem (xs (i + 1)))]) ⟨hx, hb, hml, hown, hts⟩ (c_mword l D cI cZ h1 am th n B tp ob co lv wrd mfr bgs fbs mrt wnt far (xs (i + 1)) hn) (cwV 1 hts gL_law_X2_word rfl rfl rfl (by decide +kernel) ⟨Nat.le_of_ble_eq_true rfl, Nat.le_of_ble_eq_true rfl⟩) (va_recv hK hP (ci := 2) (q0 := 12) rfl rfl) (hP.sub [12, 13, 14, 15, 16, 17, 18, 19] rfl) (hK.sub [0, 2] rfl) rfl hl.1 rfl (Nat.le_of_ble_eq_true rfl) dL_law_308 ⟨Nat.le_of_ble_eq_true rfl, Nat.le_of_ble_eq_true rfl⟩ ?_
        refine lv_icmp_eq (tgt := 503) hx hb dL_law_311 (by decide) (fun c311 => ?_) (fun c311 => absurd (atR_congr (fun a ha => (hw1 a (by omega)).symm) _) c311)
        refine lv_iinc (v := nI (i + 4)) (lv' := [(3, .int (nI (i + 4))), (0, .ref b), (1, .ref h0), (2, .ref h1)]) hx hb dL_law_503 hl (k := 3) rfl (xk_inc4 i) (by decide) rfl (fun ls hl => ?_)
        refine lv_goto (tgt := 38) hx hb dL_law_506 (by decide) ?_
        exact ih (i + 4) h0 h1 ad am n B nb tp ob co rd th lv rts offs fnd mem frs btw snw stw wrd mfr bgs fbs mrt wnt far H locs ls (by omega) (by omega) hR hP hD hS (lv_sub hl [1, 2, 3, 0] rfl)
      | 6, _ =>
        refine lv_tableIn (tgt := 316) (off := 264) hx hb dL_law_52 (by decide) (by decide) (by decide) (by decide) ?_
        refine lv_aload_n hx hb dL_law_316 rfl (lv_at hl 1 rfl) ?_
        refine lv_aload_n hx hb dL_law_317 rfl (lv_at hl 0 rfl) ?_
        refine lv_iload_n hx hb dL_law_318 rfl (lv_at hl 3 rfl) ?_
        refine lv_iconst (v := nI 1) hx hb dL_law_319 (by decide +kernel) ?_
        refine lv_iadd hx hb dL_law_320 ?_
        refine xk_top (nI_add _ _) ?_
        refine xk_sld hx hb hX hbl hbA hS (by omega) (by omega) dL_law_321 ?_
        refine xk_roV (As := [.int (xs (i + 1))]) (rest := []) ⟨hx, hb, hml, hown, hts⟩ (c_isObject l D cI cL h0 ad n B nb tp ob co rd rts offs fnd mem frs btw snw stw (xs (i + 1)) hn htp) (cwV 1 hts gL_law_X1_isObject rfl rfl rfl (by decide +kernel) ⟨Nat.le_of_ble_eq_true rfl, Nat.le_of_ble_eq_true rfl⟩) (va_recv hK hP (ci := 1) (q0 := 0) rfl rfl) (hP.sub [0, 1, 2, 3, 4, 5, 6, 7, 8, 9, 10, 11] rfl) (hK.sub [0, 1] rfl) rfl hl.1 rfl (Nat.le_of_ble_eq_true rfl) dL_law_322 ⟨Nat.le_of_ble_eq_true rfl, Nat.le_of_ble_eq_true rfl⟩ ?_
        refine lv_aload_n hx hb dL_law_325 rfl (lv_at hl 2 rfl) ?_
        refine lv_aload_n hx hb dL_law_326 rfl (lv_at hl 0 rfl) ?_
        refine lv_iload_n hx hb dL_law_327 rfl (lv_at hl 3 rfl) ?_
        refine lv_iconst (v := nI 1) hx hb dL_law_328 (by decide +kernel) ?_
        refine lv_iadd hx hb dL_law_329 ?_
        refine xk_top (nI_add _ _) ?_
        refine xk_sld hx hb hX hbl hbA hS (by omega) (by omega) dL_law_330 ?_
        refine xk_roV (As := [.int (xs (i + 1))]) (rest := [.int (bI (isO tp (bo stw) (xs (i + 1))))]) ⟨hx, hb, hml, hown, hts⟩ (c_misObject l D cI cZ h1 am th n B tp ob co lv wrd mfr bgs fbs mrt wnt far (bo stw) (xs (i + 1)) hokM hbg) (cwV 1 hts gL_law_X2_isObject rfl rfl rfl (by decide +kernel) ⟨Nat.le_of_ble_eq_true rfl, Nat.le_of_ble_eq_true rfl⟩) (va_recv hK hP (ci := 2) (q0 := 12) rfl rfl) (hP.sub [12, 13, 14, 15, 16, 17, 18, 19] rfl) (hK.sub [0, 2] rfl) rfl hl.1 rfl (Nat.le_of_ble_eq_true rfl) dL_law_331 ⟨Nat.le_of_ble_eq_true rfl, Nat.le_of_ble_eq_true rfl⟩ ?_
        refine lv_icmp_eq (tgt := 503) hx hb dL_law_334 (by decide) (fun c334 => ?_) (fun c334 => absurd rfl c334)
        refine lv_iinc (v := nI (i + 4)) (lv' := [(3, .int (nI (i + 4))), (0, .ref b), (1, .ref h0), (2, .ref h1)]) hx hb dL_law_503 hl (k := 3) rfl (xk_inc4 i) (by decide) rfl (fun ls hl => ?_)
        refine lv_goto (tgt := 38) hx hb dL_law_506 (by decide) ?_
        exact ih (i + 4) h0 h1 ad am n B nb tp ob co rd th lv rts offs fnd mem frs btw snw stw wrd mfr bgs fbs mrt wnt far H locs ls (by omega) (by omega) hR hP hD hS (lv_sub hl [1, 2, 3, 0] rfl)
      | 7, _ =>
        refine lv_tableIn (tgt := 339) (off := 287) hx hb dL_law_52 (by decide) (by decide) (by decide) (by decide) ?_
        refine lv_aload_n hx hb dL_law_339 rfl (lv_at hl 1 rfl) ?_
        refine lv_aload_n hx hb dL_law_340 rfl (lv_at hl 0 rfl) ?_
        refine lv_iload_n hx hb dL_law_341 rfl (lv_at hl 3 rfl) ?_
        refine lv_iconst (v := nI 1) hx hb dL_law_342 (by decide +kernel) ?_
        refine lv_iadd hx hb dL_law_343 ?_
        refine xk_top (nI_add _ _) ?_
        refine xk_sld hx hb hX hbl hbA hS (by omega) (by omega) dL_law_344 ?_
        refine xk_roV (As := [.int (xs (i + 1))]) (rest := []) ⟨hx, hb, hml, hown, hts⟩ (c_rootOf l D cI cL h0 ad n B nb tp ob co rd rts offs fnd mem frs btw snw stw (xs (i + 1))) (cwV 1 hts gL_law_X1_rootOf rfl rfl rfl (by decide +kernel) ⟨Nat.le_of_ble_eq_true rfl, Nat.le_of_ble_eq_true rfl⟩) (va_recv hK hP (ci := 1) (q0 := 0) rfl rfl) (hP.sub [0, 1, 2, 3, 4, 5, 6, 7, 8, 9, 10, 11] rfl) (hK.sub [0, 1] rfl) rfl hl.1 rfl (Nat.le_of_ble_eq_true rfl) dL_law_345 ⟨Nat.le_of_ble_eq_true rfl, Nat.le_of_ble_eq_true rfl⟩ ?_
        refine lv_aload_n hx hb dL_law_348 rfl (lv_at hl 2 rfl) ?_
        refine lv_aload_n hx hb dL_law_349 rfl (lv_at hl 0 rfl) ?_
        refine lv_iload_n hx hb dL_law_350 rfl (lv_at hl 3 rfl) ?_
        refine lv_iconst (v := nI 1) hx hb dL_law_351 (by decide +kernel) ?_
        refine lv_iadd hx hb dL_law_352 ?_
        refine xk_top (nI_add _ _) ?_
        refine xk_sld hx hb hX hbl hbA hS (by omega) (by omega) dL_law_353 ?_
        refine xk_roV (As := [.int (xs (i + 1))]) (rest := [.int (atR 8 rts (xs (i + 1)))]) ⟨hx, hb, hml, hown, hts⟩ (c_mrootOf l D cI cZ h1 am th n B tp ob co lv wrd mfr bgs fbs mrt wnt far (xs (i + 1))) (cwV 1 hts gL_law_X2_rootOf rfl rfl rfl (by decide +kernel) ⟨Nat.le_of_ble_eq_true rfl, Nat.le_of_ble_eq_true rfl⟩) (va_recv hK hP (ci := 2) (q0 := 12) rfl rfl) (hP.sub [12, 13, 14, 15, 16, 17, 18, 19] rfl) (hK.sub [0, 2] rfl) rfl hl.1 rfl (Nat.le_of_ble_eq_true rfl) dL_law_354 ⟨Nat.le_of_ble_eq_true rfl, Nat.le_of_ble_eq_true rfl⟩ ?_
        refine lv_icmp_eq (tgt := 503) hx hb dL_law_357 (by decide) (fun c357 => ?_) (fun c357 => absurd (atR_congr (fun a ha => (hmr a ha).symm) _) c357)
        refine lv_iinc (v := nI (i + 4)) (lv' := [(3, .int (nI (i + 4))), (0, .ref b), (1, .ref h0), (2, .ref h1)]) hx hb dL_law_503 hl (k := 3) rfl (xk_inc4 i) (by decide) rfl (fun ls hl => ?_)
        refine lv_goto (tgt := 38) hx hb dL_law_506 (by decide) ?_
        exact ih (i + 4) h0 h1 ad am n B nb tp ob co rd th lv rts offs fnd mem frs btw snw stw wrd mfr bgs fbs mrt wnt far H locs ls (by omega) (by omega) hR hP hD hS (lv_sub hl [1, 2, 3, 0] rfl)
      | 8, _ =>
        refine lv_tableIn (tgt := 362) (off := 310) hx hb dL_law_52 (by decide) (by decide) (by decide) (by decide) ?_
        refine lv_aload_n hx hb dL_law_362 rfl (lv_at hl 1 rfl) ?_
        refine lv_aload_n hx hb dL_law_363 rfl (lv_at hl 0 rfl) ?_
        refine lv_iload_n hx hb dL_law_364 rfl (lv_at hl 3 rfl) ?_
        refine lv_iconst (v := nI 1) hx hb dL_law_365 (by decide +kernel) ?_
        refine lv_iadd hx hb dL_law_366 ?_
        refine xk_top (nI_add _ _) ?_
        refine xk_sld hx hb hX hbl hbA hS (by omega) (by omega) dL_law_367 ?_
        refine xk_roV (As := [.int (xs (i + 1))]) (rest := []) ⟨hx, hb, hml, hown, hts⟩ (c_bit l D cI cL h0 ad n B nb tp ob co rd rts offs fnd mem frs btw snw stw (xs (i + 1)) hn) (cwV 1 hts gL_law_X1_bit rfl rfl rfl (by decide +kernel) ⟨Nat.le_of_ble_eq_true rfl, Nat.le_of_ble_eq_true rfl⟩) (va_recv hK hP (ci := 1) (q0 := 0) rfl rfl) (hP.sub [0, 1, 2, 3, 4, 5, 6, 7, 8, 9, 10, 11] rfl) (hK.sub [0, 1] rfl) rfl hl.1 rfl (Nat.le_of_ble_eq_true rfl) dL_law_368 ⟨Nat.le_of_ble_eq_true rfl, Nat.le_of_ble_eq_true rfl⟩ ?_
        refine lv_aload_n hx hb dL_law_371 rfl (lv_at hl 2 rfl) ?_
        refine lv_aload_n hx hb dL_law_372 rfl (lv_at hl 0 rfl) ?_
        refine lv_iload_n hx hb dL_law_373 rfl (lv_at hl 3 rfl) ?_
        refine lv_iconst (v := nI 1) hx hb dL_law_374 (by decide +kernel) ?_
        refine lv_iadd hx hb dL_law_375 ?_
        refine xk_top (nI_add _ _) ?_
        refine xk_sld hx hb hX hbl hbA hS (by omega) (by omega) dL_law_376 ?_
        refine xk_roV (As := [.int (xs (i + 1))]) (rest := [.int (atR (n + 1) (fun a => bI (bo btw a)) (xs (i + 1)))]) ⟨hx, hb, hml, hown, hts⟩ (c_mbit l D cI cZ h1 am th n B tp ob co lv wrd mfr bgs fbs mrt wnt far (xs (i + 1)) (bo btw) hn hwn) (cwV 1 hts gL_law_X2_bit rfl rfl rfl (by decide +kernel) ⟨Nat.le_of_ble_eq_true rfl, Nat.le_of_ble_eq_true rfl⟩) (va_recv hK hP (ci := 2) (q0 := 12) rfl rfl) (hP.sub [12, 13, 14, 15, 16, 17, 18, 19] rfl) (hK.sub [0, 2] rfl) rfl hl.1 rfl (Nat.le_of_ble_eq_true rfl) dL_law_377 ⟨Nat.le_of_ble_eq_true rfl, Nat.le_of_ble_eq_true rfl⟩ ?_
        refine lv_icmp_eq (tgt := 503) hx hb dL_law_380 (by decide) (fun c380 => ?_) (fun c380 => absurd rfl c380)
        refine lv_iinc (v := nI (i + 4)) (lv' := [(3, .int (nI (i + 4))), (0, .ref b), (1, .ref h0), (2, .ref h1)]) hx hb dL_law_503 hl (k := 3) rfl (xk_inc4 i) (by decide) rfl (fun ls hl => ?_)
        refine lv_goto (tgt := 38) hx hb dL_law_506 (by decide) ?_
        exact ih (i + 4) h0 h1 ad am n B nb tp ob co rd th lv rts offs fnd mem frs btw snw stw wrd mfr bgs fbs mrt wnt far H locs ls (by omega) (by omega) hR hP hD hS (lv_sub hl [1, 2, 3, 0] rfl)
      | 9, _ =>
        refine lv_tableIn (tgt := 385) (off := 333) hx hb dL_law_52 (by decide) (by decide) (by decide) (by decide) ?_
        refine lv_aload_n hx hb dL_law_385 rfl (lv_at hl 1 rfl) ?_
        refine lv_aload_n hx hb dL_law_386 rfl (lv_at hl 0 rfl) ?_
        refine lv_iload_n hx hb dL_law_387 rfl (lv_at hl 3 rfl) ?_
        refine lv_iconst (v := nI 1) hx hb dL_law_388 (by decide +kernel) ?_
        refine lv_iadd hx hb dL_law_389 ?_
        refine xk_top (nI_add _ _) ?_
        refine xk_sld hx hb hX hbl hbA hS (by omega) (by omega) dL_law_390 ?_
        refine xk_roV (As := [.int (xs (i + 1))]) (rest := []) ⟨hx, hb, hml, hown, hts⟩ (c_offset l D cI cL h0 ad n B nb tp ob co rd rts offs fnd mem frs btw snw stw (xs (i + 1)) (by omega)) (cwV 1 hts gL_law_X1_offset rfl rfl rfl (by decide +kernel) ⟨Nat.le_of_ble_eq_true rfl, Nat.le_of_ble_eq_true rfl⟩) (va_recv hK hP (ci := 1) (q0 := 0) rfl rfl) (hP.sub [0, 1, 2, 3, 4, 5, 6, 7, 8, 9, 10, 11] rfl) (hK.sub [0, 1] rfl) rfl hl.1 rfl (Nat.le_of_ble_eq_true rfl) dL_law_391 ⟨Nat.le_of_ble_eq_true rfl, Nat.le_of_ble_eq_true rfl⟩ ?_
        refine lv_aload_n hx hb dL_law_394 rfl (lv_at hl 2 rfl) ?_
        refine lv_aload_n hx hb dL_law_395 rfl (lv_at hl 0 rfl) ?_
        refine lv_iload_n hx hb dL_law_396 rfl (lv_at hl 3 rfl) ?_
        refine lv_iconst (v := nI 1) hx hb dL_law_397 (by decide +kernel) ?_
        refine lv_iadd hx hb dL_law_398 ?_
        refine xk_top (nI_add _ _) ?_
        refine xk_sld hx hb hX hbl hbA hS (by omega) (by omega) dL_law_399 ?_
        refine xk_roV (As := [.int (xs (i + 1))]) (rest := [.int (atR nb offs (xs (i + 1)))]) ⟨hx, hb, hml, hown, hts⟩ (c_moffset l D cI cZ h1 am th n B tp ob co lv wrd mfr bgs fbs mrt wnt far (xs (i + 1)) (bo btw) hn hB hwn) (cwV 1 hts gL_law_X2_offset rfl rfl rfl (by decide +kernel) ⟨Nat.le_of_ble_eq_true rfl, Nat.le_of_ble_eq_true rfl⟩) (va_recv hK hP (ci := 2) (q0 := 12) rfl rfl) (hP.sub [12, 13, 14, 15, 16, 17, 18, 19] rfl) (hK.sub [0, 2] rfl) rfl hl.1 rfl (Nat.le_of_ble_eq_true rfl) dL_law_400 ⟨Nat.le_of_ble_eq_true rfl, Nat.le_of_ble_eq_true rfl⟩ ?_
        refine lv_icmp_eq (tgt := 503) hx hb dL_law_403 (by decide) (fun c403 => ?_) (fun c403 => absurd (by rw [← hnb]; exact atR_congr (fun a ha => hof a ha) _) c403)
        refine lv_iinc (v := nI (i + 4)) (lv' := [(3, .int (nI (i + 4))), (0, .ref b), (1, .ref h0), (2, .ref h1)]) hx hb dL_law_503 hl (k := 3) rfl (xk_inc4 i) (by decide) rfl (fun ls hl => ?_)
        refine lv_goto (tgt := 38) hx hb dL_law_506 (by decide) ?_
        exact ih (i + 4) h0 h1 ad am n B nb tp ob co rd th lv rts offs fnd mem frs btw snw stw wrd mfr bgs fbs mrt wnt far H locs ls (by omega) (by omega) hR hP hD hS (lv_sub hl [1, 2, 3, 0] rfl)
      | 10, _ =>
        refine lv_tableIn (tgt := 408) (off := 356) hx hb dL_law_52 (by decide) (by decide) (by decide) (by decide) ?_
        refine lv_aload_n hx hb dL_law_408 rfl (lv_at hl 1 rfl) ?_
        refine lv_aload_n hx hb dL_law_409 rfl (lv_at hl 0 rfl) ?_
        refine lv_iload_n hx hb dL_law_410 rfl (lv_at hl 3 rfl) ?_
        refine lv_iconst (v := nI 1) hx hb dL_law_411 (by decide +kernel) ?_
        refine lv_iadd hx hb dL_law_412 ?_
        refine xk_top (nI_add _ _) ?_
        refine xk_sld hx hb hX hbl hbA hS (by omega) (by omega) dL_law_413 ?_
        refine xk_roV (As := [.int (xs (i + 1))]) (rest := []) ⟨hx, hb, hml, hown, hts⟩ (c_moved l D cI cL h0 ad n B nb tp ob co rd rts offs fnd mem frs btw snw stw (xs (i + 1)) hn hB hnb hof) (cwV 1 hts gL_law_X1_moved rfl rfl rfl (by decide +kernel) ⟨Nat.le_of_ble_eq_true rfl, Nat.le_of_ble_eq_true rfl⟩) (va_recv hK hP (ci := 1) (q0 := 0) rfl rfl) (hP.sub [0, 1, 2, 3, 4, 5, 6, 7, 8, 9, 10, 11] rfl) (hK.sub [0, 1] rfl) rfl hl.1 rfl (Nat.le_of_ble_eq_true rfl) dL_law_414 ⟨Nat.le_of_ble_eq_true rfl, Nat.le_of_ble_eq_true rfl⟩ ?_
        refine lv_aload_n hx hb dL_law_417 rfl (lv_at hl 2 rfl) ?_
        refine lv_aload_n hx hb dL_law_418 rfl (lv_at hl 0 rfl) ?_
        refine lv_iload_n hx hb dL_law_419 rfl (lv_at hl 3 rfl) ?_
        refine lv_iconst (v := nI 1) hx hb dL_law_420 (by decide +kernel) ?_
        refine lv_iadd hx hb dL_law_421 ?_
        refine xk_top (nI_add _ _) ?_
        refine xk_sld hx hb hX hbl hbA hS (by omega) (by omega) dL_law_422 ?_
        refine xk_roV (As := [.int (xs (i + 1))]) (rest := [.int (atR (n + 1) (fun a => if bo btw a then nI (1 + cn (bo btw) a) else nI 0) (xs (i + 1)))]) ⟨hx, hb, hml, hown, hts⟩ (c_mmoved l D cI cZ h1 am th n B tp ob co lv wrd mfr bgs fbs mrt wnt far (xs (i + 1)) hn) (cwV 1 hts gL_law_X2_moved rfl rfl rfl (by decide +kernel) ⟨Nat.le_of_ble_eq_true rfl, Nat.le_of_ble_eq_true rfl⟩) (va_recv hK hP (ci := 2) (q0 := 12) rfl rfl) (hP.sub [12, 13, 14, 15, 16, 17, 18, 19] rfl) (hK.sub [0, 2] rfl) rfl hl.1 rfl (Nat.le_of_ble_eq_true rfl) dL_law_423 ⟨Nat.le_of_ble_eq_true rfl, Nat.le_of_ble_eq_true rfl⟩ ?_
        refine lv_icmp_eq (tgt := 503) hx hb dL_law_426 (by decide) (fun c426 => ?_) (fun c426 => absurd (atR_congr (fun a ha => by rw [hwn a (by omega)]; split <;> rfl) _) c426)
        refine lv_iinc (v := nI (i + 4)) (lv' := [(3, .int (nI (i + 4))), (0, .ref b), (1, .ref h0), (2, .ref h1)]) hx hb dL_law_503 hl (k := 3) rfl (xk_inc4 i) (by decide) rfl (fun ls hl => ?_)
        refine lv_goto (tgt := 38) hx hb dL_law_506 (by decide) ?_
        exact ih (i + 4) h0 h1 ad am n B nb tp ob co rd th lv rts offs fnd mem frs btw snw stw wrd mfr bgs fbs mrt wnt far H locs ls (by omega) (by omega) hR hP hD hS (lv_sub hl [1, 2, 3, 0] rfl)
      | 11, _ =>
        refine lv_tableIn (tgt := 431) (off := 379) hx hb dL_law_52 (by decide) (by decide) (by decide) (by decide) ?_
        refine lv_aload_n hx hb dL_law_431 rfl (lv_at hl 1 rfl) ?_
        refine xk_roV (As := []) (rest := []) ⟨hx, hb, hml, hown, hts⟩ (c_reads l D cI cL h0 ad n B nb tp ob co rd rts offs fnd mem frs btw snw stw) (cwV 0 hts gL_law_X1_reads rfl rfl rfl (by decide +kernel) ⟨Nat.le_of_ble_eq_true rfl, Nat.le_of_ble_eq_true rfl⟩) (va_recv hK hP (ci := 1) (q0 := 0) rfl rfl) (hP.sub [0, 1, 2, 3, 4, 5, 6, 7, 8, 9, 10, 11] rfl) (hK.sub [0, 1] rfl) rfl hl.1 rfl (Nat.le_of_ble_eq_true rfl) dL_law_432 ⟨Nat.le_of_ble_eq_true rfl, Nat.le_of_ble_eq_true rfl⟩ ?_
        refine lv_aload_n hx hb dL_law_435 rfl (lv_at hl 2 rfl) ?_
        refine xk_roV (As := []) (rest := [.int (nI rd)]) ⟨hx, hb, hml, hown, hts⟩ (c_mreads l D cI cZ h1 am th n B tp ob co lv wrd mfr bgs fbs mrt wnt far) (cwV 0 hts gL_law_X2_reads rfl rfl rfl (by decide +kernel) ⟨Nat.le_of_ble_eq_true rfl, Nat.le_of_ble_eq_true rfl⟩) (va_recv hK hP (ci := 2) (q0 := 12) rfl rfl) (hP.sub [12, 13, 14, 15, 16, 17, 18, 19] rfl) (hK.sub [0, 2] rfl) rfl hl.1 rfl (Nat.le_of_ble_eq_true rfl) dL_law_436 ⟨Nat.le_of_ble_eq_true rfl, Nat.le_of_ble_eq_true rfl⟩ ?_
        refine xk_icmp_eq (tgt := 503) hx hb (by omega) (by omega) dL_law_439 (by decide) (fun c439 => ?_) (fun c439 => by exfalso; omega)
        refine lv_iinc (v := nI (i + 4)) (lv' := [(3, .int (nI (i + 4))), (0, .ref b), (1, .ref h0), (2, .ref h1)]) hx hb dL_law_503 hl (k := 3) rfl (xk_inc4 i) (by decide) rfl (fun ls hl => ?_)
        refine lv_goto (tgt := 38) hx hb dL_law_506 (by decide) ?_
        exact ih (i + 4) h0 h1 ad am n B nb tp ob co rd th lv rts offs fnd mem frs btw snw stw wrd mfr bgs fbs mrt wnt far H locs ls (by omega) (by omega) hR hP hD hS (lv_sub hl [1, 2, 3, 0] rfl)
      | 12, _ =>
        refine lv_tableIn (tgt := 444) (off := 392) hx hb dL_law_52 (by decide) (by decide) (by decide) (by decide) ?_
        refine lv_aload_n hx hb dL_law_444 rfl (lv_at hl 1 rfl) ?_
        refine lv_aload_n hx hb dL_law_445 rfl (lv_at hl 0 rfl) ?_
        refine lv_iload_n hx hb dL_law_446 rfl (lv_at hl 3 rfl) ?_
        refine lv_iconst (v := nI 1) hx hb dL_law_447 (by decide +kernel) ?_
        refine lv_iadd hx hb dL_law_448 ?_
        refine xk_top (nI_add _ _) ?_
        refine xk_sld hx hb hX hbl hbA hS (by omega) (by omega) dL_law_449 ?_
        refine xk_afti (wr := mW cI cZ h1 am th n B tp ob co lv wrd mfr bgs fbs mrt wnt far) (ws' := fun u => (cW cI cL h0 ad n B nb tp ob co rd rts offs u.2 mem frs btw u.1 stw) ++ (mW cI cZ h1 am th n B tp ob co lv wrd mfr bgs fbs mrt wnt far)) (va_runV (As := [.int (xs (i + 1))]) (rest := []) ⟨hx, hb, hml, hown, hts⟩ (c_near l D cI cL h0 ad n B nb tp ob co rd rts offs fnd mem frs btw snw stw H.size (xs (i + 1)) hn hok) (cwV 1 hts gL_law_X1_near rfl rfl rfl (by decide +kernel) ⟨Nat.le_of_ble_eq_true rfl, Nat.le_of_ble_eq_true rfl⟩) (xk_preV (va_recv hK hP (ci := 1) (q0 := 0) rfl rfl) rfl (hP.sub [0, 1, 2, 3, 4, 5, 6, 7, 8, 9, 10, 11] rfl) (hK.sub [0, 1] rfl) ((hD.sub [0, 1, 2, 3, 4, 5, 6, 7, 8, 9, 10, 11] (by decide) rfl).weaken (fun _ _ _ _ => trivial))) rfl rfl hl.1 rfl (lv_room (Nat.le_of_ble_eq_true rfl)) dL_law_450 ⟨Nat.le_of_ble_eq_true rfl, Nat.le_of_ble_eq_true rfl⟩) hP hD hS hA [0, 1, 2, 3, 4, 5, 6, 7, 8, 9, 10, 11] [12, 13, 14, 15, 16, 17, 18, 19] [8, 9, 10, 11, 12, 13, 14, 15, 16, 17, 18, 19, 0, 1, 2, 3, 4, 5, 6, 7] rfl rfl (by decide) (by decide) (fun _ => rfl) (by decide) (fun r1 u1 H locs hp1 hP hD hS => ?_)
        refine W.widen (k := 20) (n := 36748) (Nat.le_refl _) (Nat.le_refl _) ?_
        obtain ⟨snw1, fnd1⟩ := u1
        have hP : va_P D vwCl ((cW cI cL h0 ad n B nb tp ob co rd rts offs fnd1 mem frs btw snw1 stw) ++ (mW cI cZ h1 am th n B tp ob co lv wrd mfr bgs fbs mrt wnt far)) H := hP
        have hD : va_D (lwA s) ((cW cI cL h0 ad n B nb tp ob co rd rts offs fnd1 mem frs btw snw1 stw) ++ (mW cI cZ h1 am th n B tp ob co lv wrd mfr bgs fbs mrt wnt far)) := hD
        refine lv_aload_n hx hb dL_law_453 rfl (lv_at hl 2 rfl) ?_
        refine lv_aload_n hx hb dL_law_454 rfl (lv_at hl 0 rfl) ?_
        refine lv_iload_n hx hb dL_law_455 rfl (lv_at hl 3 rfl) ?_
        refine lv_iconst (v := nI 1) hx hb dL_law_456 (by decide +kernel) ?_
        refine lv_iadd hx hb dL_law_457 ?_
        refine xk_top (nI_add _ _) ?_
        refine xk_sld hx hb hX hbl hbA hS (by omega) (by omega) dL_law_458 ?_
        refine xk_afti (wr := cW cI cL h0 ad n B nb tp ob co rd rts offs fnd1 mem frs btw snw1 stw) (ws' := fun u => (cW cI cL h0 ad n B nb tp ob co rd rts offs fnd1 mem frs btw snw1 stw) ++ (mW cI cZ h1 am th n B tp ob co lv wrd mfr bgs fbs mrt wnt u)) (va_runV (As := [.int (xs (i + 1))]) (rest := [.int r1]) ⟨hx, hb, hml, hown, hts⟩ (c_mnear l D cI cZ h1 am th n B tp ob co lv wrd mfr bgs fbs mrt wnt far H.size (bo stw) (xs (i + 1)) hokM) (cwV 1 hts gL_law_X2_near rfl rfl rfl (by decide +kernel) ⟨Nat.le_of_ble_eq_true rfl, Nat.le_of_ble_eq_true rfl⟩) (xk_preV (va_recv hK hP (ci := 2) (q0 := 12) rfl rfl) rfl (hP.sub [12, 13, 14, 15, 16, 17, 18, 19] rfl) (hK.sub [0, 2] rfl) ((hD.sub [12, 13, 14, 15, 16, 17, 18, 19] (by decide) rfl).weaken (fun _ _ _ _ => trivial))) rfl rfl hl.1 rfl (lv_room (Nat.le_of_ble_eq_true rfl)) dL_law_459 ⟨Nat.le_of_ble_eq_true rfl, Nat.le_of_ble_eq_true rfl⟩) hP hD hS hA [12, 13, 14, 15, 16, 17, 18, 19] [0, 1, 2, 3, 4, 5, 6, 7, 8, 9, 10, 11] [0, 1, 2, 3, 4, 5, 6, 7, 8, 9, 10, 11, 12, 13, 14, 15, 16, 17, 18, 19] rfl rfl (by decide) (by decide) (fun _ => rfl) (by decide) (fun r2 u2 H locs hp2 hP hD hS => ?_)
        refine W.widen (k := 20) (n := 36748) (Nat.le_refl _) (Nat.le_refl _) ?_
        have hP : va_P D vwCl ((cW cI cL h0 ad n B nb tp ob co rd rts offs fnd1 mem frs btw snw1 stw) ++ (mW cI cZ h1 am th n B tp ob co lv wrd mfr bgs fbs mrt wnt u2)) H := hP
        have hD : va_D (lwA s) ((cW cI cL h0 ad n B nb tp ob co rd rts offs fnd1 mem frs btw snw1 stw) ++ (mW cI cZ h1 am th n B tp ob co lv wrd mfr bgs fbs mrt wnt u2)) := hD
        refine lv_icmp_eq (tgt := 503) hx hb dL_law_462 (by decide) (fun c462 => ?_) (fun c462 => absurd (rl_near hR hp1 hp2) c462)
        refine lv_iinc (v := nI (i + 4)) (lv' := [(3, .int (nI (i + 4))), (0, .ref b), (1, .ref h0), (2, .ref h1)]) hx hb dL_law_503 hl (k := 3) rfl (xk_inc4 i) (by decide) rfl (fun ls hl => ?_)
        refine lv_goto (tgt := 38) hx hb dL_law_506 (by decide) ?_
        exact ih (i + 4) h0 h1 ad am n B nb tp ob co rd th lv rts offs fnd1 mem frs btw snw1 stw wrd mfr bgs fbs mrt wnt u2 H locs ls (by omega) (by omega) hR hP hD hS (lv_sub hl [1, 2, 3, 0] rfl)
      | 13, _ =>
        refine lv_tableIn (tgt := 467) (off := 415) hx hb dL_law_52 (by decide) (by decide) (by decide) (by decide) ?_
        refine lv_aload_n hx hb dL_law_467 rfl (lv_at hl 1 rfl) ?_
        refine xk_roV (As := []) (rest := []) ⟨hx, hb, hml, hown, hts⟩ (c_sound l D cI cL h0 ad n B nb tp ob co rd rts offs fnd mem frs btw snw stw hn hok hB hnb hof) (cwV 0 hts gL_law_X1_sound rfl rfl rfl (by decide +kernel) ⟨Nat.le_of_ble_eq_true rfl, Nat.le_of_ble_eq_true rfl⟩) (va_recv hK hP (ci := 1) (q0 := 0) rfl rfl) (hP.sub [0, 1, 2, 3, 4, 5, 6, 7, 8, 9, 10, 11] rfl) (hK.sub [0, 1] rfl) rfl hl.1 rfl (Nat.le_of_ble_eq_true rfl) dL_law_468 ⟨Nat.le_of_ble_eq_true rfl, Nat.le_of_ble_eq_true rfl⟩ ?_
        refine lv_aload_n hx hb dL_law_471 rfl (lv_at hl 2 rfl) ?_
        refine xk_roV (As := []) (rest := [.int (nI 1)]) ⟨hx, hb, hml, hown, hts⟩ (c_msound l D cI cZ h1 am th n B tp ob co lv wrd mfr bgs fbs mrt wnt far (bo stw) hokM hbg eob) (cwV 0 hts gL_law_X2_sound rfl rfl rfl (by decide +kernel) ⟨Nat.le_of_ble_eq_true rfl, Nat.le_of_ble_eq_true rfl⟩) (va_recv hK hP (ci := 2) (q0 := 12) rfl rfl) (hP.sub [12, 13, 14, 15, 16, 17, 18, 19] rfl) (hK.sub [0, 2] rfl) rfl hl.1 rfl (Nat.le_of_ble_eq_true rfl) dL_law_472 ⟨Nat.le_of_ble_eq_true rfl, Nat.le_of_ble_eq_true rfl⟩ ?_
        refine xk_icmp_eq (tgt := 503) hx hb (by omega) (by omega) dL_law_475 (by decide) (fun c475 => ?_) (fun c475 => by exfalso; omega)
        refine lv_iinc (v := nI (i + 4)) (lv' := [(3, .int (nI (i + 4))), (0, .ref b), (1, .ref h0), (2, .ref h1)]) hx hb dL_law_503 hl (k := 3) rfl (xk_inc4 i) (by decide) rfl (fun ls hl => ?_)
        refine lv_goto (tgt := 38) hx hb dL_law_506 (by decide) ?_
        exact ih (i + 4) h0 h1 ad am n B nb tp ob co rd th lv rts offs fnd mem frs btw snw stw wrd mfr bgs fbs mrt wnt far H locs ls (by omega) (by omega) hR hP hD hS (lv_sub hl [1, 2, 3, 0] rfl)
      | 14, _ =>
        refine lv_tableIn (tgt := 480) (off := 428) hx hb dL_law_52 (by decide) (by decide) (by decide) (by decide) ?_
        refine lv_aload_n hx hb dL_law_480 rfl (lv_at hl 1 rfl) ?_
        refine lv_aload_n hx hb dL_law_481 rfl (lv_at hl 0 rfl) ?_
        refine lv_iload_n hx hb dL_law_482 rfl (lv_at hl 3 rfl) ?_
        refine lv_iconst (v := nI 1) hx hb dL_law_483 (by decide +kernel) ?_
        refine lv_iadd hx hb dL_law_484 ?_
        refine xk_top (nI_add _ _) ?_
        refine xk_sld hx hb hX hbl hbA hS (by omega) (by omega) dL_law_485 ?_
        refine xk_roV (As := [.int (xs (i + 1))]) (rest := []) ⟨hx, hb, hml, hown, hts⟩ (c_count l D cI cL h0 ad n B nb tp ob co rd rts offs fnd mem frs btw snw stw (xs (i + 1))) (cwV 1 hts gL_law_X1_count rfl rfl rfl (by decide +kernel) ⟨Nat.le_of_ble_eq_true rfl, Nat.le_of_ble_eq_true rfl⟩) (va_recv hK hP (ci := 1) (q0 := 0) rfl rfl) (hP.sub [0, 1, 2, 3, 4, 5, 6, 7, 8, 9, 10, 11] rfl) (hK.sub [0, 1] rfl) rfl hl.1 rfl (Nat.le_of_ble_eq_true rfl) dL_law_486 ⟨Nat.le_of_ble_eq_true rfl, Nat.le_of_ble_eq_true rfl⟩ ?_
        refine lv_aload_n hx hb dL_law_489 rfl (lv_at hl 2 rfl) ?_
        refine lv_aload_n hx hb dL_law_490 rfl (lv_at hl 0 rfl) ?_
        refine lv_iload_n hx hb dL_law_491 rfl (lv_at hl 3 rfl) ?_
        refine lv_iconst (v := nI 1) hx hb dL_law_492 (by decide +kernel) ?_
        refine lv_iadd hx hb dL_law_493 ?_
        refine xk_top (nI_add _ _) ?_
        refine xk_sld hx hb hX hbl hbA hS (by omega) (by omega) dL_law_494 ?_
        refine xk_roV (As := [.int (xs (i + 1))]) (rest := [.int (cntA tp ob co n nb (xs (i + 1)))]) ⟨hx, hb, hml, hown, hts⟩ (c_mcount l D cI cZ h1 am th n B tp ob co lv wrd mfr bgs fbs mrt wnt far (xs (i + 1)) hn hB) (cwV 1 hts gL_law_X2_count rfl rfl rfl (by decide +kernel) ⟨Nat.le_of_ble_eq_true rfl, Nat.le_of_ble_eq_true rfl⟩) (va_recv hK hP (ci := 2) (q0 := 12) rfl rfl) (hP.sub [12, 13, 14, 15, 16, 17, 18, 19] rfl) (hK.sub [0, 2] rfl) rfl hl.1 rfl (Nat.le_of_ble_eq_true rfl) dL_law_495 ⟨Nat.le_of_ble_eq_true rfl, Nat.le_of_ble_eq_true rfl⟩ ?_
        refine lv_icmp_eq (tgt := 503) hx hb dL_law_498 (by decide) (fun c498 => ?_) (fun c498 => absurd (by rw [hnb]) c498)
        refine lv_iinc (v := nI (i + 4)) (lv' := [(3, .int (nI (i + 4))), (0, .ref b), (1, .ref h0), (2, .ref h1)]) hx hb dL_law_503 hl (k := 3) rfl (xk_inc4 i) (by decide) rfl (fun ls hl => ?_)
        refine lv_goto (tgt := 38) hx hb dL_law_506 (by decide) ?_
        exact ih (i + 4) h0 h1 ad am n B nb tp ob co rd th lv rts offs fnd mem frs btw snw stw wrd mfr bgs fbs mrt wnt far H locs ls (by omega) (by omega) hR hP hD hS (lv_sub hl [1, 2, 3, 0] rfl)
      | 15, _ =>
        refine lv_tableOut (tgt := 503) hx hb dL_law_52 (by decide) (by decide) ?_
        refine lv_iinc (v := nI (i + 4)) (lv' := [(3, .int (nI (i + 4))), (0, .ref b), (1, .ref h0), (2, .ref h1)]) hx hb dL_law_503 hl (k := 3) rfl (xk_inc4 i) (by decide) rfl (fun ls hl => ?_)
        refine lv_goto (tgt := 38) hx hb dL_law_506 (by decide) ?_
        exact ih (i + 4) h0 h1 ad am n B nb tp ob co rd th lv rts offs fnd mem frs btw snw stw wrd mfr bgs fbs mrt wnt far H locs ls (by omega) (by omega) hR hP hD hS (lv_sub hl [1, 2, 3, 0] rfl)
      | t + 16, h => exact absurd h (by omega)
