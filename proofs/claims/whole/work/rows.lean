section
-- ===== PART A: goes FIRST, ahead of the names: the tables' words, and 'selects' of the private methods out of them =====
/-- a private method of a class that the tables say can be made, by its rows of tables_1 -/
def lw_okq (q : MethodName × Nat) : Prop := (q.1.cls ≠ "java/lang/invoke/MethodHandle" ∧ q.1.cls ≠ "java/lang/invoke/VarHandle") ∧ Cond.instantiable q.1.cls q.2 ∈ tables_1 ∧ Cond.privateMethod q.1 ∈ tables_1 ∧ Cond.instanceMethod q.1 ∈ tables_1
theorem lw_p0 : lw_okq (⟨"OffsetHeap", "isObjectOrNone", "(I)Z"⟩, 16) := ⟨⟨by decide +kernel, by decide +kernel⟩, List.mem_of_getElem? (i := 8) (by decide +kernel), List.mem_of_getElem? (i := 118) (by decide +kernel), List.mem_of_getElem? (i := 119) (by decide +kernel)⟩
theorem lw_p1 : lw_okq (⟨"OffsetHeap", "markLiving", "()V"⟩, 16) := ⟨⟨by decide +kernel, by decide +kernel⟩, List.mem_of_getElem? (i := 8) (by decide +kernel), List.mem_of_getElem? (i := 137) (by decide +kernel), List.mem_of_getElem? (i := 138) (by decide +kernel)⟩
theorem lw_p2 : lw_okq (⟨"OffsetHeap", "findWithin", "(I)I"⟩, 16) := ⟨⟨by decide +kernel, by decide +kernel⟩, List.mem_of_getElem? (i := 8) (by decide +kernel), List.mem_of_getElem? (i := 141) (by decide +kernel), List.mem_of_getElem? (i := 142) (by decide +kernel)⟩
theorem lw_p3 : lw_okq (⟨"OffsetHeap", "find", "(II)I"⟩, 16) := ⟨⟨by decide +kernel, by decide +kernel⟩, List.mem_of_getElem? (i := 8) (by decide +kernel), List.mem_of_getElem? (i := 152) (by decide +kernel), List.mem_of_getElem? (i := 153) (by decide +kernel)⟩
theorem lw_p4 : lw_okq (⟨"OffsetHeap", "findReferred", "(II)I"⟩, 16) := ⟨⟨by decide +kernel, by decide +kernel⟩, List.mem_of_getElem? (i := 8) (by decide +kernel), List.mem_of_getElem? (i := 156) (by decide +kernel), List.mem_of_getElem? (i := 157) (by decide +kernel)⟩
theorem lw_p5 : lw_okq (⟨"OffsetHeap", "fillOffsets", "()I"⟩, 16) := ⟨⟨by decide +kernel, by decide +kernel⟩, List.mem_of_getElem? (i := 8) (by decide +kernel), List.mem_of_getElem? (i := 160) (by decide +kernel), List.mem_of_getElem? (i := 161) (by decide +kernel)⟩
theorem lw_p6 : lw_okq (⟨"OffsetHeap", "copyLiving", "()V"⟩, 16) := ⟨⟨by decide +kernel, by decide +kernel⟩, List.mem_of_getElem? (i := 8) (by decide +kernel), List.mem_of_getElem? (i := 164) (by decide +kernel), List.mem_of_getElem? (i := 165) (by decide +kernel)⟩
theorem lw_p7 : lw_okq (⟨"OffsetHeap", "newAddress", "(I)I"⟩, 16) := ⟨⟨by decide +kernel, by decide +kernel⟩, List.mem_of_getElem? (i := 8) (by decide +kernel), List.mem_of_getElem? (i := 171) (by decide +kernel), List.mem_of_getElem? (i := 172) (by decide +kernel)⟩
theorem lw_p8 : lw_okq (⟨"OffsetHeap", "newAddressOrNone", "(I)I"⟩, 16) := ⟨⟨by decide +kernel, by decide +kernel⟩, List.mem_of_getElem? (i := 8) (by decide +kernel), List.mem_of_getElem? (i := 186) (by decide +kernel), List.mem_of_getElem? (i := 187) (by decide +kernel)⟩
theorem lw_p9 : lw_okq (⟨"OffsetHeap", "leadRootsAnew", "()V"⟩, 16) := ⟨⟨by decide +kernel, by decide +kernel⟩, List.mem_of_getElem? (i := 8) (by decide +kernel), List.mem_of_getElem? (i := 190) (by decide +kernel), List.mem_of_getElem? (i := 191) (by decide +kernel)⟩
theorem lw_p10 : lw_okq (⟨"OffsetHeap", "swapSpaces", "()V"⟩, 16) := ⟨⟨by decide +kernel, by decide +kernel⟩, List.mem_of_getElem? (i := 8) (by decide +kernel), List.mem_of_getElem? (i := 194) (by decide +kernel), List.mem_of_getElem? (i := 195) (by decide +kernel)⟩
theorem lw_p11 : lw_okq (⟨"OffsetHeap", "isWord", "(I)Z"⟩, 16) := ⟨⟨by decide +kernel, by decide +kernel⟩, List.mem_of_getElem? (i := 8) (by decide +kernel), List.mem_of_getElem? (i := 202) (by decide +kernel), List.mem_of_getElem? (i := 203) (by decide +kernel)⟩
theorem lw_p12 : lw_okq (⟨"OffsetHeap", "objectsLieInARow", "()Z"⟩, 16) := ⟨⟨by decide +kernel, by decide +kernel⟩, List.mem_of_getElem? (i := 8) (by decide +kernel), List.mem_of_getElem? (i := 235) (by decide +kernel), List.mem_of_getElem? (i := 236) (by decide +kernel)⟩
theorem lw_p13 : lw_okq (⟨"OffsetHeap", "rootsLeadToHeaders", "()Z"⟩, 16) := ⟨⟨by decide +kernel, by decide +kernel⟩, List.mem_of_getElem? (i := 8) (by decide +kernel), List.mem_of_getElem? (i := 239) (by decide +kernel), List.mem_of_getElem? (i := 240) (by decide +kernel)⟩
theorem lw_p14 : lw_okq (⟨"OffsetHeap", "referencesLeadToHeaders", "()Z"⟩, 16) := ⟨⟨by decide +kernel, by decide +kernel⟩, List.mem_of_getElem? (i := 8) (by decide +kernel), List.mem_of_getElem? (i := 243) (by decide +kernel), List.mem_of_getElem? (i := 244) (by decide +kernel)⟩
theorem lw_p15 : lw_okq (⟨"OffsetHeap", "referencesOfLeadToHeaders", "(I)Z"⟩, 16) := ⟨⟨by decide +kernel, by decide +kernel⟩, List.mem_of_getElem? (i := 8) (by decide +kernel), List.mem_of_getElem? (i := 247) (by decide +kernel), List.mem_of_getElem? (i := 248) (by decide +kernel)⟩
def lw_privs_1 : List (MethodName × Nat) := [(⟨"OffsetHeap", "isObjectOrNone", "(I)Z"⟩, 16), (⟨"OffsetHeap", "markLiving", "()V"⟩, 16), (⟨"OffsetHeap", "findWithin", "(I)I"⟩, 16), (⟨"OffsetHeap", "find", "(II)I"⟩, 16), (⟨"OffsetHeap", "findReferred", "(II)I"⟩, 16), (⟨"OffsetHeap", "fillOffsets", "()I"⟩, 16), (⟨"OffsetHeap", "copyLiving", "()V"⟩, 16), (⟨"OffsetHeap", "newAddress", "(I)I"⟩, 16), (⟨"OffsetHeap", "newAddressOrNone", "(I)I"⟩, 16), (⟨"OffsetHeap", "leadRootsAnew", "()V"⟩, 16), (⟨"OffsetHeap", "swapSpaces", "()V"⟩, 16), (⟨"OffsetHeap", "isWord", "(I)Z"⟩, 16), (⟨"OffsetHeap", "objectsLieInARow", "()Z"⟩, 16), (⟨"OffsetHeap", "rootsLeadToHeaders", "()Z"⟩, 16), (⟨"OffsetHeap", "referencesLeadToHeaders", "()Z"⟩, 16), (⟨"OffsetHeap", "referencesOfLeadToHeaders", "(I)Z"⟩, 16)]
theorem lw_r1 : ∀ q ∈ lw_privs_1, lw_okq q := List.forall_mem_cons.mpr ⟨lw_p0, List.forall_mem_cons.mpr ⟨lw_p1, List.forall_mem_cons.mpr ⟨lw_p2, List.forall_mem_cons.mpr ⟨lw_p3, List.forall_mem_cons.mpr ⟨lw_p4, List.forall_mem_cons.mpr ⟨lw_p5, List.forall_mem_cons.mpr ⟨lw_p6, List.forall_mem_cons.mpr ⟨lw_p7, List.forall_mem_cons.mpr ⟨lw_p8, List.forall_mem_cons.mpr ⟨lw_p9, List.forall_mem_cons.mpr ⟨lw_p10, List.forall_mem_cons.mpr ⟨lw_p11, List.forall_mem_cons.mpr ⟨lw_p12, List.forall_mem_cons.mpr ⟨lw_p13, List.forall_mem_cons.mpr ⟨lw_p14, List.forall_mem_cons.mpr ⟨lw_p15, fun _ h => absurd h List.not_mem_nil⟩⟩⟩⟩⟩⟩⟩⟩⟩⟩⟩⟩⟩⟩⟩⟩
theorem lw_p16 : lw_okq (⟨"OffsetHeap", "newAddressesFollowFromBits", "()Z"⟩, 16) := ⟨⟨by decide +kernel, by decide +kernel⟩, List.mem_of_getElem? (i := 8) (by decide +kernel), List.mem_of_getElem? (i := 251) (by decide +kernel), List.mem_of_getElem? (i := 252) (by decide +kernel)⟩
theorem lw_p17 : lw_okq (⟨"OffsetHeapModel", "isLead", "(I)Z"⟩, 14) := ⟨⟨by decide +kernel, by decide +kernel⟩, List.mem_of_getElem? (i := 262) (by decide +kernel), List.mem_of_getElem? (i := 327) (by decide +kernel), List.mem_of_getElem? (i := 328) (by decide +kernel)⟩
theorem lw_p18 : lw_okq (⟨"OffsetHeapModel", "references", "(I)I"⟩, 14) := ⟨⟨by decide +kernel, by decide +kernel⟩, List.mem_of_getElem? (i := 262) (by decide +kernel), List.mem_of_getElem? (i := 331) (by decide +kernel), List.mem_of_getElem? (i := 332) (by decide +kernel)⟩
theorem lw_p19 : lw_okq (⟨"OffsetHeapModel", "plain", "(I)I"⟩, 14) := ⟨⟨by decide +kernel, by decide +kernel⟩, List.mem_of_getElem? (i := 262) (by decide +kernel), List.mem_of_getElem? (i := 339) (by decide +kernel), List.mem_of_getElem? (i := 340) (by decide +kernel)⟩
theorem lw_p20 : lw_okq (⟨"OffsetHeapModel", "measure", "()V"⟩, 14) := ⟨⟨by decide +kernel, by decide +kernel⟩, List.mem_of_getElem? (i := 262) (by decide +kernel), List.mem_of_getElem? (i := 351) (by decide +kernel), List.mem_of_getElem? (i := 352) (by decide +kernel)⟩
theorem lw_p21 : lw_okq (⟨"OffsetHeapModel", "length", "(I)I"⟩, 14) := ⟨⟨by decide +kernel, by decide +kernel⟩, List.mem_of_getElem? (i := 262) (by decide +kernel), List.mem_of_getElem? (i := 356) (by decide +kernel), List.mem_of_getElem? (i := 357) (by decide +kernel)⟩
theorem lw_p22 : lw_okq (⟨"OffsetHeapModel", "isWord", "(I)Z"⟩, 14) := ⟨⟨by decide +kernel, by decide +kernel⟩, List.mem_of_getElem? (i := 262) (by decide +kernel), List.mem_of_getElem? (i := 364) (by decide +kernel), List.mem_of_getElem? (i := 365) (by decide +kernel)⟩
theorem lw_p23 : lw_okq (⟨"OffsetHeapModel", "blocks", "()I"⟩, 14) := ⟨⟨by decide +kernel, by decide +kernel⟩, List.mem_of_getElem? (i := 262) (by decide +kernel), List.mem_of_getElem? (i := 380) (by decide +kernel), List.mem_of_getElem? (i := 381) (by decide +kernel)⟩
def lw_privs_2 : List (MethodName × Nat) := [(⟨"OffsetHeap", "newAddressesFollowFromBits", "()Z"⟩, 16), (⟨"OffsetHeapModel", "isLead", "(I)Z"⟩, 14), (⟨"OffsetHeapModel", "references", "(I)I"⟩, 14), (⟨"OffsetHeapModel", "plain", "(I)I"⟩, 14), (⟨"OffsetHeapModel", "measure", "()V"⟩, 14), (⟨"OffsetHeapModel", "length", "(I)I"⟩, 14), (⟨"OffsetHeapModel", "isWord", "(I)Z"⟩, 14), (⟨"OffsetHeapModel", "blocks", "()I"⟩, 14)]
theorem lw_r2 : ∀ q ∈ lw_privs_2, lw_okq q := List.forall_mem_cons.mpr ⟨lw_p16, List.forall_mem_cons.mpr ⟨lw_p17, List.forall_mem_cons.mpr ⟨lw_p18, List.forall_mem_cons.mpr ⟨lw_p19, List.forall_mem_cons.mpr ⟨lw_p20, List.forall_mem_cons.mpr ⟨lw_p21, List.forall_mem_cons.mpr ⟨lw_p22, List.forall_mem_cons.mpr ⟨lw_p23, fun _ h => absurd h List.not_mem_nil⟩⟩⟩⟩⟩⟩⟩⟩
def lw_privs : List (MethodName × Nat) := lw_privs_1 ++ (lw_privs_2)
def lw_tbl : List Cond := k2_sels lw_privs ++ tables_1
theorem lw_privs_ok : ∀ q ∈ lw_privs, lw_okq q := by
  show ∀ q ∈ lw_privs_1 ++ (lw_privs_2), lw_okq q
  exact List.forall_mem_append.mpr ⟨lw_r1, lw_r2⟩
end
section
/-! ===== BEGIN words of one list among another's, by their places ===== -/
theorem goodIn_r {big : List Cond} (ws : List Cond) (ps : List Nat) (hp : ws = ps.filterMap (fun i => big[i]?)) (h : ws.all goodWord = true) : GoodIn big ws := by
  intro w hw
  have h1 := List.all_eq_true.mp h w hw
  rw [hp] at hw
  obtain ⟨i, -, hi⟩ := List.mem_filterMap.mp hw
  have hm : w ∈ big := by first | exact List.mem_of_getElem? hi | exact List.getElem?_mem hi
  exact ⟨hm, good_of_word h1⟩
theorem goodIn_app {big a b : List Cond} (ha : GoodIn big a) (hb : GoodIn big b) : GoodIn big (a ++ b) := fun w h => (List.mem_append.mp h).elim (ha w) (hb w)
theorem goodIn_ca {big a b : List Cond} {c : Cond} (ha : GoodIn big (c :: a)) (hb : GoodIn big b) : GoodIn big (c :: (a ++ b)) := fun w h => (List.mem_cons.mp h).elim (fun e => ha w (List.mem_cons.mpr (Or.inl e))) (fun h => (List.mem_append.mp h).elim (fun h => ha w (List.mem_cons.mpr (Or.inr h))) (hb w))
theorem goodIn_sub {big ws : List Cond} (hm : ∀ w ∈ ws, w ∈ big) (h : ws.all goodWord = true) : GoodIn big ws := fun w hw => ⟨hm w hw, good_of_word (List.all_eq_true.mp h w hw)⟩
/-! ===== END ===== -/

/-! ===== BEGIN printed: names, fields, word lists, decode rows ===== -/
def RX0 : String := "OffsetHeap$BitRow"
def TX0 : u_T := fun k => match k with
  | _ => ("OffsetHeap$BitRow", "row", "[J", true)
def tyX0 : Nat → FieldType := fun k => match k with
  | _ => .array .long
abbrev wsX00 : List Cond := u_ws RX0 TX0 1
theorem nmX0 : ∀ a, a < 1 → ∀ b, b < 1 → a ≠ b → (TX0 a).2.1 ≠ (TX0 b).2.1 := by decide +kernel
theorem tyX0_ok : ∀ k, k < 1 → parseFieldDescriptor (TX0 k).2.2.1 = some (tyX0 k) := by decide +kernel
abbrev cX0_init : ByteArray := prog_2_method_1_code
def yX0_init : MethodName := ⟨RX0, "<init>", "(I)V"⟩
abbrev cX0_has : ByteArray := prog_2_method_2_code
def yX0_has : MethodName := ⟨RX0, "has", "(I)Z"⟩
abbrev cX0_put : ByteArray := prog_2_method_3_code
def yX0_put : MethodName := ⟨RX0, "put", "(I)V"⟩
abbrev cX0_clear : ByteArray := prog_2_method_4_code
def yX0_clear : MethodName := ⟨RX0, "clear", "()V"⟩
abbrev cX0_between : ByteArray := prog_2_method_5_code
def yX0_between : MethodName := ⟨RX0, "between", "(II)I"⟩
def RX1 : String := "OffsetHeap"
def TX1 : u_T := fun k => match k with
  | 0 => ("OffsetHeap", "last", "I", true)
  | 1 => ("OffsetHeap", "blockWords", "I", true)
  | 2 => ("OffsetHeap", "blocks", "I", true)
  | 3 => ("OffsetHeap", "roots", "[I", true)
  | 4 => ("OffsetHeap", "bits", "LOffsetHeap$BitRow;", true)
  | 5 => ("OffsetHeap", "offsets", "[I", true)
  | 6 => ("OffsetHeap", "found", "[I", true)
  | 7 => ("OffsetHeap", "seen", "LOffsetHeap$BitRow;", true)
  | 8 => ("OffsetHeap", "space", "[I", false)
  | 9 => ("OffsetHeap", "fresh", "[I", false)
  | 10 => ("OffsetHeap", "starts", "LOffsetHeap$BitRow;", false)
  | 11 => ("OffsetHeap", "freshStarts", "LOffsetHeap$BitRow;", false)
  | 12 => ("OffsetHeap", "top", "I", false)
  | 13 => ("OffsetHeap", "objects", "I", false)
  | 14 => ("OffsetHeap", "collectings", "I", false)
  | _ => ("OffsetHeap", "wordsRead", "I", false)
def tyX1 : Nat → FieldType := fun k => match k with
  | 0 => .int
  | 1 => .int
  | 2 => .int
  | 3 => .array .int
  | 4 => .object "OffsetHeap$BitRow"
  | 5 => .array .int
  | 6 => .array .int
  | 7 => .object "OffsetHeap$BitRow"
  | 8 => .array .int
  | 9 => .array .int
  | 10 => .object "OffsetHeap$BitRow"
  | 11 => .object "OffsetHeap$BitRow"
  | 12 => .int
  | 13 => .int
  | 14 => .int
  | _ => .int
abbrev wsX10 : List Cond := u_ws RX1 TX1 16
theorem nmX1 : ∀ a, a < 16 → ∀ b, b < 16 → a ≠ b → (TX1 a).2.1 ≠ (TX1 b).2.1 := by decide +kernel
theorem tyX1_ok : ∀ k, k < 16 → parseFieldDescriptor (TX1 k).2.2.1 = some (tyX1 k) := by decide +kernel
abbrev cX1_init : ByteArray := prog_1_method_1_code
def yX1_init : MethodName := ⟨RX1, "<init>", "(II)V"⟩
abbrev cX1_make : ByteArray := prog_1_method_2_code
def yX1_make : MethodName := ⟨RX1, "make", "(II)I"⟩
abbrev cX1_refer : ByteArray := prog_1_method_3_code
def yX1_refer : MethodName := ⟨RX1, "refer", "(III)Z"⟩
abbrev cX1_set : ByteArray := prog_1_method_4_code
def yX1_set : MethodName := ⟨RX1, "set", "(III)Z"⟩
abbrev cX1_root : ByteArray := prog_1_method_5_code
def yX1_root : MethodName := ⟨RX1, "root", "(II)Z"⟩
abbrev cX1_collect : ByteArray := prog_1_method_6_code
def yX1_collect : MethodName := ⟨RX1, "collect", "()I"⟩
abbrev cX1_word : ByteArray := prog_1_method_7_code
def yX1_word : MethodName := ⟨RX1, "word", "(I)I"⟩
abbrev cX1_isObject : ByteArray := prog_1_method_8_code
def yX1_isObject : MethodName := ⟨RX1, "isObject", "(I)Z"⟩
abbrev cX1_rootOf : ByteArray := prog_1_method_9_code
def yX1_rootOf : MethodName := ⟨RX1, "rootOf", "(I)I"⟩
abbrev cX1_bit : ByteArray := prog_1_method_10_code
def yX1_bit : MethodName := ⟨RX1, "bit", "(I)I"⟩
abbrev cX1_offset : ByteArray := prog_1_method_11_code
def yX1_offset : MethodName := ⟨RX1, "offset", "(I)I"⟩
abbrev cX1_moved : ByteArray := prog_1_method_12_code
def yX1_moved : MethodName := ⟨RX1, "moved", "(I)I"⟩
abbrev cX1_reads : ByteArray := prog_1_method_13_code
def yX1_reads : MethodName := ⟨RX1, "reads", "()I"⟩
abbrev cX1_near : ByteArray := prog_1_method_14_code
def yX1_near : MethodName := ⟨RX1, "near", "(I)I"⟩
abbrev cX1_sound : ByteArray := prog_1_method_15_code
def yX1_sound : MethodName := ⟨RX1, "sound", "()Z"⟩
abbrev cX1_count : ByteArray := prog_1_method_16_code
def yX1_count : MethodName := ⟨RX1, "count", "(I)I"⟩
abbrev cX1_isBlockSize : ByteArray := prog_1_method_17_code
def yX1_isBlockSize : MethodName := ⟨RX1, "isBlockSize", "(I)Z"⟩
abbrev cX1_headerOf : ByteArray := prog_1_method_18_code
def yX1_headerOf : MethodName := ⟨RX1, "headerOf", "(II)I"⟩
abbrev cX1_referencesBy : ByteArray := prog_1_method_19_code
def yX1_referencesBy : MethodName := ⟨RX1, "referencesBy", "(I)I"⟩
abbrev cX1_plainBy : ByteArray := prog_1_method_20_code
def yX1_plainBy : MethodName := ⟨RX1, "plainBy", "(I)I"⟩
abbrev cX1_sizeBy : ByteArray := prog_1_method_21_code
def yX1_sizeBy : MethodName := ⟨RX1, "sizeBy", "(I)I"⟩
abbrev cX1_isWord : ByteArray := prog_1_method_22_code
def yX1_isWord : MethodName := ⟨RX1, "isWord", "(I)Z"⟩
abbrev cX1_isRoot : ByteArray := prog_1_method_23_code
def yX1_isRoot : MethodName := ⟨RX1, "isRoot", "(I)Z"⟩
abbrev cX1_isObjectOrNone : ByteArray := prog_1_method_24_code
def yX1_isObjectOrNone : MethodName := ⟨RX1, "isObjectOrNone", "(I)Z"⟩
abbrev cX1_findWithin : ByteArray := prog_1_method_25_code
def yX1_findWithin : MethodName := ⟨RX1, "findWithin", "(I)I"⟩
abbrev cX1_findReferred : ByteArray := prog_1_method_26_code
def yX1_findReferred : MethodName := ⟨RX1, "findReferred", "(II)I"⟩
abbrev cX1_find : ByteArray := prog_1_method_27_code
def yX1_find : MethodName := ⟨RX1, "find", "(II)I"⟩
abbrev cX1_markLiving : ByteArray := prog_1_method_28_code
def yX1_markLiving : MethodName := ⟨RX1, "markLiving", "()V"⟩
abbrev cX1_fillOffsets : ByteArray := prog_1_method_29_code
def yX1_fillOffsets : MethodName := ⟨RX1, "fillOffsets", "()I"⟩
abbrev cX1_newAddress : ByteArray := prog_1_method_30_code
def yX1_newAddress : MethodName := ⟨RX1, "newAddress", "(I)I"⟩
abbrev cX1_newAddressOrNone : ByteArray := prog_1_method_31_code
def yX1_newAddressOrNone : MethodName := ⟨RX1, "newAddressOrNone", "(I)I"⟩
abbrev cX1_copyLiving : ByteArray := prog_1_method_32_code
def yX1_copyLiving : MethodName := ⟨RX1, "copyLiving", "()V"⟩
abbrev cX1_leadRootsAnew : ByteArray := prog_1_method_33_code
def yX1_leadRootsAnew : MethodName := ⟨RX1, "leadRootsAnew", "()V"⟩
abbrev cX1_swapSpaces : ByteArray := prog_1_method_34_code
def yX1_swapSpaces : MethodName := ⟨RX1, "swapSpaces", "()V"⟩
abbrev cX1_objectsLieInARow : ByteArray := prog_1_method_35_code
def yX1_objectsLieInARow : MethodName := ⟨RX1, "objectsLieInARow", "()Z"⟩
abbrev cX1_rootsLeadToHeaders : ByteArray := prog_1_method_36_code
def yX1_rootsLeadToHeaders : MethodName := ⟨RX1, "rootsLeadToHeaders", "()Z"⟩
abbrev cX1_referencesLeadToHeaders : ByteArray := prog_1_method_37_code
def yX1_referencesLeadToHeaders : MethodName := ⟨RX1, "referencesLeadToHeaders", "()Z"⟩
abbrev cX1_referencesOfLeadToHeaders : ByteArray := prog_1_method_38_code
def yX1_referencesOfLeadToHeaders : MethodName := ⟨RX1, "referencesOfLeadToHeaders", "(I)Z"⟩
abbrev cX1_newAddressesFollowFromBits : ByteArray := prog_1_method_39_code
def yX1_newAddressesFollowFromBits : MethodName := ⟨RX1, "newAddressesFollowFromBits", "()Z"⟩
def RX2 : String := "OffsetHeapModel"
def TX2 : u_T := fun k => match k with
  | 0 => ("OffsetHeapModel", "thrown", "I", false)
  | 1 => ("OffsetHeapModel", "most", "I", false)
  | 2 => ("OffsetHeapModel", "block", "I", false)
  | 3 => ("OffsetHeapModel", "top", "I", false)
  | 4 => ("OffsetHeapModel", "objects", "I", false)
  | 5 => ("OffsetHeapModel", "collected", "I", false)
  | 6 => ("OffsetHeapModel", "lived", "I", false)
  | 7 => ("OffsetHeapModel", "words", "[I", true)
  | 8 => ("OffsetHeapModel", "fresh", "[I", true)
  | 9 => ("OffsetHeapModel", "begins", "[Z", true)
  | 10 => ("OffsetHeapModel", "freshBegins", "[Z", true)
  | 11 => ("OffsetHeapModel", "roots", "[I", true)
  | 12 => ("OffsetHeapModel", "went", "[I", true)
  | _ => ("OffsetHeapModel", "far", "[I", true)
def tyX2 : Nat → FieldType := fun k => match k with
  | 0 => .int
  | 1 => .int
  | 2 => .int
  | 3 => .int
  | 4 => .int
  | 5 => .int
  | 6 => .int
  | 7 => .array .int
  | 8 => .array .int
  | 9 => .array .boolean
  | 10 => .array .boolean
  | 11 => .array .int
  | 12 => .array .int
  | _ => .array .int
abbrev wsX20 : List Cond := u_ws RX2 TX2 14
theorem nmX2 : ∀ a, a < 14 → ∀ b, b < 14 → a ≠ b → (TX2 a).2.1 ≠ (TX2 b).2.1 := by decide +kernel
theorem tyX2_ok : ∀ k, k < 14 → parseFieldDescriptor (TX2 k).2.2.1 = some (tyX2 k) := by decide +kernel
abbrev cX2_init : ByteArray := prog_4_method_1_code
def yX2_init : MethodName := ⟨RX2, "<init>", "(II)V"⟩
abbrev cX2_isIn : ByteArray := prog_4_method_3_code
def yX2_isIn : MethodName := ⟨RX2, "isIn", "(III)Z"⟩
abbrev cX2_plain : ByteArray := prog_4_method_4_code
def yX2_plain : MethodName := ⟨RX2, "plain", "(I)I"⟩
abbrev cX2_references : ByteArray := prog_4_method_5_code
def yX2_references : MethodName := ⟨RX2, "references", "(I)I"⟩
abbrev cX2_length : ByteArray := prog_4_method_6_code
def yX2_length : MethodName := ⟨RX2, "length", "(I)I"⟩
abbrev cX2_make : ByteArray := prog_4_method_7_code
def yX2_make : MethodName := ⟨RX2, "make", "(II)I"⟩
abbrev cX2_isObject : ByteArray := prog_4_method_8_code
def yX2_isObject : MethodName := ⟨RX2, "isObject", "(I)Z"⟩
abbrev cX2_isLead : ByteArray := prog_4_method_9_code
def yX2_isLead : MethodName := ⟨RX2, "isLead", "(I)Z"⟩
abbrev cX2_refer : ByteArray := prog_4_method_10_code
def yX2_refer : MethodName := ⟨RX2, "refer", "(III)Z"⟩
abbrev cX2_set : ByteArray := prog_4_method_11_code
def yX2_set : MethodName := ⟨RX2, "set", "(III)Z"⟩
abbrev cX2_root : ByteArray := prog_4_method_12_code
def yX2_root : MethodName := ⟨RX2, "root", "(II)Z"⟩
abbrev cX2_measure : ByteArray := prog_4_method_13_code
def yX2_measure : MethodName := ⟨RX2, "measure", "()V"⟩
abbrev cX2_collect : ByteArray := prog_4_method_14_code
def yX2_collect : MethodName := ⟨RX2, "collect", "()I"⟩
abbrev cX2_isWord : ByteArray := prog_4_method_15_code
def yX2_isWord : MethodName := ⟨RX2, "isWord", "(I)Z"⟩
abbrev cX2_word : ByteArray := prog_4_method_16_code
def yX2_word : MethodName := ⟨RX2, "word", "(I)I"⟩
abbrev cX2_rootOf : ByteArray := prog_4_method_17_code
def yX2_rootOf : MethodName := ⟨RX2, "rootOf", "(I)I"⟩
abbrev cX2_bit : ByteArray := prog_4_method_18_code
def yX2_bit : MethodName := ⟨RX2, "bit", "(I)I"⟩
abbrev cX2_blocks : ByteArray := prog_4_method_19_code
def yX2_blocks : MethodName := ⟨RX2, "blocks", "()I"⟩
abbrev cX2_offset : ByteArray := prog_4_method_20_code
def yX2_offset : MethodName := ⟨RX2, "offset", "(I)I"⟩
abbrev cX2_moved : ByteArray := prog_4_method_21_code
def yX2_moved : MethodName := ⟨RX2, "moved", "(I)I"⟩
abbrev cX2_reads : ByteArray := prog_4_method_22_code
def yX2_reads : MethodName := ⟨RX2, "reads", "()I"⟩
abbrev cX2_near : ByteArray := prog_4_method_23_code
def yX2_near : MethodName := ⟨RX2, "near", "(I)I"⟩
abbrev cX2_sound : ByteArray := prog_4_method_24_code
def yX2_sound : MethodName := ⟨RX2, "sound", "()Z"⟩
abbrev cX2_count : ByteArray := prog_4_method_25_code
def yX2_count : MethodName := ⟨RX2, "count", "(I)I"⟩
def RJ13 : String := "java/lang/Long"
def TJ13 : u_T := fun k => match k with
  | _ => ("", "", "", false)
def tyJ13 : Nat → FieldType := fun k => match k with
  | _ => .int
abbrev wsJ130 : List Cond := u_ws RJ13 TJ13 0
theorem nmJ13 : ∀ a, a < 0 → ∀ b, b < 0 → a ≠ b → (TJ13 a).2.1 ≠ (TJ13 b).2.1 := by decide +kernel
theorem tyJ13_ok : ∀ k, k < 0 → parseFieldDescriptor (TJ13 k).2.2.1 = some (tyJ13 k) := by decide +kernel
abbrev cJ13_bitCount_95d88 : ByteArray := prog_5_method_50_code
def yJ13_bitCount_95d88 : MethodName := ⟨RJ13, "bitCount", "(J)I"⟩
def RJ9 : String := "java/lang/Math"
def TJ9 : u_T := fun k => match k with
  | _ => ("", "", "", false)
def tyJ9 : Nat → FieldType := fun k => match k with
  | _ => .int
abbrev wsJ90 : List Cond := u_ws RJ9 TJ9 0
theorem nmJ9 : ∀ a, a < 0 → ∀ b, b < 0 → a ≠ b → (TJ9 a).2.1 ≠ (TJ9 b).2.1 := by decide +kernel
theorem tyJ9_ok : ∀ k, k < 0 → parseFieldDescriptor (TJ9 k).2.2.1 = some (tyJ9 k) := by decide +kernel
abbrev cJ9_max_7cf53 : ByteArray := prog_6_method_65_code
def yJ9_max_7cf53 : MethodName := ⟨RJ9, "max", "(II)I"⟩
abbrev cJ9_min_7cf53 : ByteArray := prog_6_method_69_code
def yJ9_min_7cf53 : MethodName := ⟨RJ9, "min", "(II)I"⟩
def RJ7 : String := "java/util/Arrays"
def TJ7 : u_T := fun k => match k with
  | _ => ("", "", "", false)
def tyJ7 : Nat → FieldType := fun k => match k with
  | _ => .int
abbrev wsJ70 : List Cond := u_ws RJ7 TJ7 0
theorem nmJ7 : ∀ a, a < 0 → ∀ b, b < 0 → a ≠ b → (TJ7 a).2.1 ≠ (TJ7 b).2.1 := by decide +kernel
theorem tyJ7_ok : ∀ k, k < 0 → parseFieldDescriptor (TJ7 k).2.2.1 = some (tyJ7 k) := by decide +kernel
abbrev cJ7_fill_d0a16 : ByteArray := prog_7_method_101_code
def yJ7_fill_d0a16 : MethodName := ⟨RJ7, "fill", "([JJ)V"⟩
abbrev cJ7_fill_53178 : ByteArray := prog_7_method_103_code
def yJ7_fill_53178 : MethodName := ⟨RJ7, "fill", "([II)V"⟩
def RL : String := "OffsetHeapLaw"
abbrev cL_cell : ByteArray := method_2_code
def yL_cell : MethodName := ⟨RL, "cell", "([II)I"⟩
abbrev cL_law : ByteArray := code
def yL_law : MethodName := ⟨RL, "law", "([I)Z"⟩
def wsX0_init : List Cond := .code yX0_init cX0_init 2 none :: ([.methodLink RX0 1 objectInit, .instanceMethod objectInit, .code objectInit ⟨#[0xb1]⟩ 1 none, .arrayClass .long, .fieldLink RX0 7 "OffsetHeap$BitRow" "row" "[J"] ++ wsX00)
def wsX0_has : List Cond := .code yX0_has cX0_has 2 (some .boolean) :: ([.fieldLink RX0 7 "OffsetHeap$BitRow" "row" "[J"] ++ wsX00)
def wsX0_put : List Cond := .code yX0_put cX0_put 2 none :: ([.fieldLink RX0 7 "OffsetHeap$BitRow" "row" "[J"] ++ wsX00)
def wsJ7_fill_d0a16 : List Cond := .code yJ7_fill_d0a16 cJ7_fill_d0a16 5 none :: ([])
def wsX0_clear : List Cond := .code yX0_clear cX0_clear 1 none :: ([.fieldLink RX0 7 "OffsetHeap$BitRow" "row" "[J", .methodLink RX0 13 yJ7_fill_d0a16, .static yJ7_fill_d0a16, .initialized RJ7, .code yJ7_fill_d0a16 cJ7_fill_d0a16 5 none] ++ wsX00)
def wsJ13_bitCount_95d88 : List Cond := .code yJ13_bitCount_95d88 cJ13_bitCount_95d88 2 (some .int) :: ([.constantLong RJ13 314 (6148914691236517205), .constantLong RJ13 316 (3689348814741910323), .constantLong RJ13 318 (1085102592571150095)])
def wsX0_between : List Cond := .code yX0_between cX0_between 7 (some .int) :: ([.constantLong RX0 19 (-1), .fieldLink RX0 7 "OffsetHeap$BitRow" "row" "[J", .methodLink RX0 21 yJ13_bitCount_95d88, .static yJ13_bitCount_95d88, .initialized RJ13, .code yJ13_bitCount_95d88 cJ13_bitCount_95d88 2 (some .int), .constantLong RJ13 314 (6148914691236517205), .constantLong RJ13 316 (3689348814741910323), .constantLong RJ13 318 (1085102592571150095)] ++ wsX00)
def wsX1_isBlockSize : List Cond := .code yX1_isBlockSize cX1_isBlockSize 1 (some .boolean) :: ([])
def wsX1_init_r1 : List Cond := [Cond.methodLink RX1 1 objectInit, Cond.instanceMethod objectInit, Cond.code objectInit ⟨#[0xb1]⟩ 1 none, Cond.methodLink RX1 9 Lib.Math.min.name, Cond.static Lib.Math.min.name, Cond.initialized "java/lang/Math", Cond.code Lib.Math.min.name Lib.Math.min.code 2 (some .int), Cond.methodLink RX1 15 Lib.Math.max.name, Cond.static Lib.Math.max.name, Cond.code Lib.Math.max.name Lib.Math.max.code 2 (some .int), Cond.fieldLink RX1 18 "OffsetHeap" "last" "I", Cond.fieldLink RX1 26 "OffsetHeap" "blockWords" "I", Cond.fieldLink RX1 29 "OffsetHeap" "blocks" "I", Cond.arrayClass .int, Cond.fieldLink RX1 32 "OffsetHeap" "roots" "[I", Cond.classLink RX1 36 RX0, Cond.instantiable RX0 1, Cond.initialized RX0, Cond.fieldLink RX1 41 "OffsetHeap" "bits" "LOffsetHeap$BitRow;", Cond.fieldLink RX1 45 "OffsetHeap" "offsets" "[I", Cond.fieldLink RX1 48 "OffsetHeap" "found" "[I", Cond.fieldLink RX1 51 "OffsetHeap" "seen" "LOffsetHeap$BitRow;", Cond.fieldLink RX1 54 "OffsetHeap" "space" "[I", Cond.fieldLink RX1 57 "OffsetHeap" "fresh" "[I"]
def wsX1_init_r2 : List Cond := [Cond.fieldLink RX1 60 "OffsetHeap" "starts" "LOffsetHeap$BitRow;", Cond.fieldLink RX1 63 "OffsetHeap" "freshStarts" "LOffsetHeap$BitRow;", Cond.fieldLink RX1 66 "OffsetHeap" "top" "I", Cond.methodLink RX1 22 yX1_isBlockSize, Cond.static yX1_isBlockSize, Cond.initialized RX1, Cond.code yX1_isBlockSize cX1_isBlockSize 1 (some .boolean), Cond.methodLink RX1 38 yX0_init, Cond.instanceMethod yX0_init, Cond.code yX0_init cX0_init 2 none, Cond.methodLink RX0 1 objectInit, Cond.arrayClass .long, Cond.fieldLink RX0 7 "OffsetHeap$BitRow" "row" "[J"]
def wsX1_init : List Cond := .code yX1_init cX1_init 3 none :: ((wsX1_init_r1 ++ wsX1_init_r2) ++ wsX10 ++ wsX00)
def wsX1_headerOf : List Cond := .code yX1_headerOf cX1_headerOf 2 (some .int) :: ([])
def wsX1_referencesBy : List Cond := .code yX1_referencesBy cX1_referencesBy 1 (some .int) :: ([])
def wsX1_plainBy : List Cond := .code yX1_plainBy cX1_plainBy 1 (some .int) :: ([])
def wsX1_sizeBy : List Cond := .code yX1_sizeBy cX1_sizeBy 1 (some .int) :: ([.methodLink RX1 85 yX1_referencesBy, .static yX1_referencesBy, .initialized RX1, .code yX1_referencesBy cX1_referencesBy 1 (some .int), .methodLink RX1 91 yX1_plainBy, .static yX1_plainBy, .code yX1_plainBy cX1_plainBy 1 (some .int)])
def wsX1_make : List Cond := .code yX1_make cX1_make 5 (some .int) :: ([.fieldLink RX1 18 "OffsetHeap" "last" "I", .fieldLink RX1 66 "OffsetHeap" "top" "I", .fieldLink RX1 54 "OffsetHeap" "space" "[I", .fieldLink RX1 60 "OffsetHeap" "starts" "LOffsetHeap$BitRow;", .fieldLink RX1 79 "OffsetHeap" "objects" "I", .methodLink RX1 69 yX1_headerOf, .static yX1_headerOf, .initialized RX1, .code yX1_headerOf cX1_headerOf 2 (some .int), .methodLink RX1 72 yX1_sizeBy, .static yX1_sizeBy, .code yX1_sizeBy cX1_sizeBy 1 (some .int), .methodLink RX1 85 yX1_referencesBy, .static yX1_referencesBy, .code yX1_referencesBy cX1_referencesBy 1 (some .int), .methodLink RX1 91 yX1_plainBy, .static yX1_plainBy, .code yX1_plainBy cX1_plainBy 1 (some .int), .methodLink RX1 76 yX0_put, .instanceMethod yX0_put, .selects RX0 yX0_put yX0_put, .initialized RX0, .code yX0_put cX0_put 2 none, .fieldLink RX0 7 "OffsetHeap$BitRow" "row" "[J"] ++ wsX10 ++ wsX00)
def wsX1_isObject : List Cond := .code yX1_isObject cX1_isObject 2 (some .boolean) :: ([.fieldLink RX1 66 "OffsetHeap" "top" "I", .fieldLink RX1 60 "OffsetHeap" "starts" "LOffsetHeap$BitRow;", .methodLink RX1 119 yX0_has, .instanceMethod yX0_has, .selects RX0 yX0_has yX0_has, .initialized RX0, .code yX0_has cX0_has 2 (some .boolean), .fieldLink RX0 7 "OffsetHeap$BitRow" "row" "[J"] ++ wsX10 ++ wsX00)
def wsX1_isObjectOrNone : List Cond := .code yX1_isObjectOrNone cX1_isObjectOrNone 2 (some .boolean) :: ([.methodLink RX1 82 yX1_isObject, .instanceMethod yX1_isObject, .selects RX1 yX1_isObject yX1_isObject, .initialized RX1, .code yX1_isObject cX1_isObject 2 (some .boolean), .fieldLink RX1 66 "OffsetHeap" "top" "I", .fieldLink RX1 60 "OffsetHeap" "starts" "LOffsetHeap$BitRow;", .methodLink RX1 119 yX0_has, .instanceMethod yX0_has, .selects RX0 yX0_has yX0_has, .initialized RX0, .code yX0_has cX0_has 2 (some .boolean), .fieldLink RX0 7 "OffsetHeap$BitRow" "row" "[J"] ++ wsX10 ++ wsX00)
def wsX1_refer : List Cond := .code yX1_refer cX1_refer 4 (some .boolean) :: ([.fieldLink RX1 54 "OffsetHeap" "space" "[I", .methodLink RX1 82 yX1_isObject, .instanceMethod yX1_isObject, .selects RX1 yX1_isObject yX1_isObject, .initialized RX1, .code yX1_isObject cX1_isObject 2 (some .boolean), .fieldLink RX1 66 "OffsetHeap" "top" "I", .fieldLink RX1 60 "OffsetHeap" "starts" "LOffsetHeap$BitRow;", .methodLink RX1 119 yX0_has, .instanceMethod yX0_has, .selects RX0 yX0_has yX0_has, .initialized RX0, .code yX0_has cX0_has 2 (some .boolean), .fieldLink RX0 7 "OffsetHeap$BitRow" "row" "[J", .methodLink RX1 85 yX1_referencesBy, .static yX1_referencesBy, .code yX1_referencesBy cX1_referencesBy 1 (some .int), .methodLink RX1 88 yX1_isObjectOrNone, .instanceMethod yX1_isObjectOrNone, .selects RX1 yX1_isObjectOrNone yX1_isObjectOrNone, .code yX1_isObjectOrNone cX1_isObjectOrNone 2 (some .boolean)] ++ wsX10 ++ wsX00)
def wsX1_set : List Cond := .code yX1_set cX1_set 4 (some .boolean) :: ([.fieldLink RX1 54 "OffsetHeap" "space" "[I", .methodLink RX1 82 yX1_isObject, .instanceMethod yX1_isObject, .selects RX1 yX1_isObject yX1_isObject, .initialized RX1, .code yX1_isObject cX1_isObject 2 (some .boolean), .fieldLink RX1 66 "OffsetHeap" "top" "I", .fieldLink RX1 60 "OffsetHeap" "starts" "LOffsetHeap$BitRow;", .methodLink RX1 119 yX0_has, .instanceMethod yX0_has, .selects RX0 yX0_has yX0_has, .initialized RX0, .code yX0_has cX0_has 2 (some .boolean), .fieldLink RX0 7 "OffsetHeap$BitRow" "row" "[J", .methodLink RX1 91 yX1_plainBy, .static yX1_plainBy, .code yX1_plainBy cX1_plainBy 1 (some .int), .methodLink RX1 85 yX1_referencesBy, .static yX1_referencesBy, .code yX1_referencesBy cX1_referencesBy 1 (some .int)] ++ wsX10 ++ wsX00)
def wsX1_isRoot : List Cond := .code yX1_isRoot cX1_isRoot 1 (some .boolean) :: ([])
def wsX1_root : List Cond := .code yX1_root cX1_root 3 (some .boolean) :: ([.fieldLink RX1 32 "OffsetHeap" "roots" "[I", .methodLink RX1 94 yX1_isRoot, .static yX1_isRoot, .initialized RX1, .code yX1_isRoot cX1_isRoot 1 (some .boolean), .methodLink RX1 88 yX1_isObjectOrNone, .instanceMethod yX1_isObjectOrNone, .selects RX1 yX1_isObjectOrNone yX1_isObjectOrNone, .code yX1_isObjectOrNone cX1_isObjectOrNone 2 (some .boolean), .methodLink RX1 82 yX1_isObject, .instanceMethod yX1_isObject, .selects RX1 yX1_isObject yX1_isObject, .code yX1_isObject cX1_isObject 2 (some .boolean), .fieldLink RX1 66 "OffsetHeap" "top" "I", .fieldLink RX1 60 "OffsetHeap" "starts" "LOffsetHeap$BitRow;", .methodLink RX1 119 yX0_has, .instanceMethod yX0_has, .selects RX0 yX0_has yX0_has, .initialized RX0, .code yX0_has cX0_has 2 (some .boolean), .fieldLink RX0 7 "OffsetHeap$BitRow" "row" "[J"] ++ wsX10 ++ wsX00)
def wsX1_find : List Cond := .code yX1_find cX1_find 3 (some .int) :: ([.fieldLink RX1 51 "OffsetHeap" "seen" "LOffsetHeap$BitRow;", .fieldLink RX1 48 "OffsetHeap" "found" "[I", .methodLink RX1 119 yX0_has, .instanceMethod yX0_has, .selects RX0 yX0_has yX0_has, .initialized RX0, .code yX0_has cX0_has 2 (some .boolean), .fieldLink RX0 7 "OffsetHeap$BitRow" "row" "[J", .methodLink RX1 76 yX0_put, .instanceMethod yX0_put, .selects RX0 yX0_put yX0_put, .code yX0_put cX0_put 2 none] ++ wsX10 ++ wsX00)
def wsX1_findReferred : List Cond := .code yX1_findReferred cX1_findReferred 6 (some .int) :: ([.fieldLink RX1 54 "OffsetHeap" "space" "[I", .methodLink RX1 85 yX1_referencesBy, .static yX1_referencesBy, .initialized RX1, .code yX1_referencesBy cX1_referencesBy 1 (some .int), .methodLink RX1 147 yX1_find, .instanceMethod yX1_find, .selects RX1 yX1_find yX1_find, .code yX1_find cX1_find 3 (some .int), .fieldLink RX1 51 "OffsetHeap" "seen" "LOffsetHeap$BitRow;", .fieldLink RX1 48 "OffsetHeap" "found" "[I", .methodLink RX1 119 yX0_has, .instanceMethod yX0_has, .selects RX0 yX0_has yX0_has, .initialized RX0, .code yX0_has cX0_has 2 (some .boolean), .fieldLink RX0 7 "OffsetHeap$BitRow" "row" "[J", .methodLink RX1 76 yX0_put, .instanceMethod yX0_put, .selects RX0 yX0_put yX0_put, .code yX0_put cX0_put 2 none] ++ wsX10 ++ wsX00)
def wsX1_findWithin_r1 : List Cond := [Cond.fieldLink RX1 51 "OffsetHeap" "seen" "LOffsetHeap$BitRow;", Cond.fieldLink RX1 32 "OffsetHeap" "roots" "[I", Cond.fieldLink RX1 48 "OffsetHeap" "found" "[I", Cond.methodLink RX1 144 yX0_clear, Cond.instanceMethod yX0_clear, Cond.selects RX0 yX0_clear yX0_clear, Cond.initialized RX0, Cond.code yX0_clear cX0_clear 1 none, Cond.fieldLink RX0 7 "OffsetHeap$BitRow" "row" "[J", Cond.methodLink RX0 13 yJ7_fill_d0a16, Cond.static yJ7_fill_d0a16, Cond.initialized RJ7, Cond.code yJ7_fill_d0a16 cJ7_fill_d0a16 5 none, Cond.methodLink RX1 147 yX1_find, Cond.instanceMethod yX1_find, Cond.selects RX1 yX1_find yX1_find, Cond.initialized RX1, Cond.code yX1_find cX1_find 3 (some .int), Cond.methodLink RX1 119 yX0_has, Cond.instanceMethod yX0_has, Cond.selects RX0 yX0_has yX0_has, Cond.code yX0_has cX0_has 2 (some .boolean), Cond.methodLink RX1 76 yX0_put, Cond.instanceMethod yX0_put]
def wsX1_findWithin_r2 : List Cond := [Cond.selects RX0 yX0_put yX0_put, Cond.code yX0_put cX0_put 2 none, Cond.methodLink RX1 150 yX1_findReferred, Cond.instanceMethod yX1_findReferred, Cond.selects RX1 yX1_findReferred yX1_findReferred, Cond.code yX1_findReferred cX1_findReferred 6 (some .int), Cond.fieldLink RX1 54 "OffsetHeap" "space" "[I", Cond.methodLink RX1 85 yX1_referencesBy, Cond.static yX1_referencesBy, Cond.code yX1_referencesBy cX1_referencesBy 1 (some .int)]
def wsX1_findWithin : List Cond := .code yX1_findWithin cX1_findWithin 7 (some .int) :: ((wsX1_findWithin_r1 ++ wsX1_findWithin_r2) ++ wsX10 ++ wsX00)
def wsX1_markLiving_r1 : List Cond := [Cond.fieldLink RX1 18 "OffsetHeap" "last" "I", Cond.fieldLink RX1 41 "OffsetHeap" "bits" "LOffsetHeap$BitRow;", Cond.fieldLink RX1 48 "OffsetHeap" "found" "[I", Cond.fieldLink RX1 54 "OffsetHeap" "space" "[I", Cond.methodLink RX1 128 yX1_findWithin, Cond.instanceMethod yX1_findWithin, Cond.selects RX1 yX1_findWithin yX1_findWithin, Cond.initialized RX1, Cond.code yX1_findWithin cX1_findWithin 7 (some .int), Cond.fieldLink RX1 51 "OffsetHeap" "seen" "LOffsetHeap$BitRow;", Cond.fieldLink RX1 32 "OffsetHeap" "roots" "[I", Cond.methodLink RX1 144 yX0_clear, Cond.instanceMethod yX0_clear, Cond.selects RX0 yX0_clear yX0_clear, Cond.initialized RX0, Cond.code yX0_clear cX0_clear 1 none, Cond.fieldLink RX0 7 "OffsetHeap$BitRow" "row" "[J", Cond.methodLink RX0 13 yJ7_fill_d0a16, Cond.static yJ7_fill_d0a16, Cond.initialized RJ7, Cond.code yJ7_fill_d0a16 cJ7_fill_d0a16 5 none, Cond.methodLink RX1 147 yX1_find, Cond.instanceMethod yX1_find, Cond.selects RX1 yX1_find yX1_find]
def wsX1_markLiving_r2 : List Cond := [Cond.code yX1_find cX1_find 3 (some .int), Cond.methodLink RX1 119 yX0_has, Cond.instanceMethod yX0_has, Cond.selects RX0 yX0_has yX0_has, Cond.code yX0_has cX0_has 2 (some .boolean), Cond.methodLink RX1 76 yX0_put, Cond.instanceMethod yX0_put, Cond.selects RX0 yX0_put yX0_put, Cond.code yX0_put cX0_put 2 none, Cond.methodLink RX1 150 yX1_findReferred, Cond.instanceMethod yX1_findReferred, Cond.selects RX1 yX1_findReferred yX1_findReferred, Cond.code yX1_findReferred cX1_findReferred 6 (some .int), Cond.methodLink RX1 85 yX1_referencesBy, Cond.static yX1_referencesBy, Cond.code yX1_referencesBy cX1_referencesBy 1 (some .int), Cond.methodLink RX1 72 yX1_sizeBy, Cond.static yX1_sizeBy, Cond.code yX1_sizeBy cX1_sizeBy 1 (some .int), Cond.methodLink RX1 91 yX1_plainBy, Cond.static yX1_plainBy, Cond.code yX1_plainBy cX1_plainBy 1 (some .int)]
def wsX1_markLiving : List Cond := .code yX1_markLiving cX1_markLiving 5 none :: ((wsX1_markLiving_r1 ++ wsX1_markLiving_r2) ++ wsX10 ++ wsX00)
def wsX1_fillOffsets : List Cond := .code yX1_fillOffsets cX1_fillOffsets 3 (some .int) :: ([.fieldLink RX1 18 "OffsetHeap" "last" "I", .fieldLink RX1 26 "OffsetHeap" "blockWords" "I", .fieldLink RX1 45 "OffsetHeap" "offsets" "[I", .fieldLink RX1 41 "OffsetHeap" "bits" "LOffsetHeap$BitRow;", .methodLink RX1 119 yX0_has, .instanceMethod yX0_has, .selects RX0 yX0_has yX0_has, .initialized RX0, .code yX0_has cX0_has 2 (some .boolean), .fieldLink RX0 7 "OffsetHeap$BitRow" "row" "[J"] ++ wsX10 ++ wsX00)
def wsJ7_fill_53178 : List Cond := .code yJ7_fill_53178 cJ7_fill_53178 4 none :: ([])
def wsX1_newAddress : List Cond := .code yX1_newAddress cX1_newAddress 3 (some .int) :: ([.fieldLink RX1 26 "OffsetHeap" "blockWords" "I", .fieldLink RX1 45 "OffsetHeap" "offsets" "[I", .fieldLink RX1 41 "OffsetHeap" "bits" "LOffsetHeap$BitRow;", .methodLink RX1 153 yX0_between, .instanceMethod yX0_between, .selects RX0 yX0_between yX0_between, .initialized RX0, .code yX0_between cX0_between 7 (some .int), .constantLong RX0 19 (-1), .fieldLink RX0 7 "OffsetHeap$BitRow" "row" "[J", .methodLink RX0 21 yJ13_bitCount_95d88, .static yJ13_bitCount_95d88, .initialized RJ13, .code yJ13_bitCount_95d88 cJ13_bitCount_95d88 2 (some .int), .constantLong RJ13 314 (6148914691236517205), .constantLong RJ13 316 (3689348814741910323), .constantLong RJ13 318 (1085102592571150095)] ++ wsX10 ++ wsX00)
def wsX1_newAddressOrNone : List Cond := .code yX1_newAddressOrNone cX1_newAddressOrNone 2 (some .int) :: ([.methodLink RX1 122 yX1_newAddress, .instanceMethod yX1_newAddress, .selects RX1 yX1_newAddress yX1_newAddress, .initialized RX1, .code yX1_newAddress cX1_newAddress 3 (some .int), .fieldLink RX1 26 "OffsetHeap" "blockWords" "I", .fieldLink RX1 45 "OffsetHeap" "offsets" "[I", .fieldLink RX1 41 "OffsetHeap" "bits" "LOffsetHeap$BitRow;", .methodLink RX1 153 yX0_between, .instanceMethod yX0_between, .selects RX0 yX0_between yX0_between, .initialized RX0, .code yX0_between cX0_between 7 (some .int), .constantLong RX0 19 (-1), .fieldLink RX0 7 "OffsetHeap$BitRow" "row" "[J", .methodLink RX0 21 yJ13_bitCount_95d88, .static yJ13_bitCount_95d88, .initialized RJ13, .code yJ13_bitCount_95d88 cJ13_bitCount_95d88 2 (some .int), .constantLong RJ13 314 (6148914691236517205), .constantLong RJ13 316 (3689348814741910323), .constantLong RJ13 318 (1085102592571150095)] ++ wsX10 ++ wsX00)
def wsX1_copyLiving_r1 : List Cond := [Cond.fieldLink RX1 57 "OffsetHeap" "fresh" "[I", Cond.fieldLink RX1 63 "OffsetHeap" "freshStarts" "LOffsetHeap$BitRow;", Cond.fieldLink RX1 125 "OffsetHeap" "wordsRead" "I", Cond.fieldLink RX1 79 "OffsetHeap" "objects" "I", Cond.fieldLink RX1 66 "OffsetHeap" "top" "I", Cond.fieldLink RX1 41 "OffsetHeap" "bits" "LOffsetHeap$BitRow;", Cond.fieldLink RX1 54 "OffsetHeap" "space" "[I", Cond.methodLink RX1 156 yJ7_fill_53178, Cond.static yJ7_fill_53178, Cond.initialized RJ7, Cond.code yJ7_fill_53178 cJ7_fill_53178 4 none, Cond.methodLink RX1 144 yX0_clear, Cond.instanceMethod yX0_clear, Cond.selects RX0 yX0_clear yX0_clear, Cond.initialized RX0, Cond.code yX0_clear cX0_clear 1 none, Cond.fieldLink RX0 7 "OffsetHeap$BitRow" "row" "[J", Cond.methodLink RX0 13 yJ7_fill_d0a16, Cond.static yJ7_fill_d0a16, Cond.code yJ7_fill_d0a16 cJ7_fill_d0a16 5 none, Cond.methodLink RX1 119 yX0_has, Cond.instanceMethod yX0_has, Cond.selects RX0 yX0_has yX0_has, Cond.code yX0_has cX0_has 2 (some .boolean)]
def wsX1_copyLiving_r2 : List Cond := [Cond.methodLink RX1 122 yX1_newAddress, Cond.instanceMethod yX1_newAddress, Cond.selects RX1 yX1_newAddress yX1_newAddress, Cond.initialized RX1, Cond.code yX1_newAddress cX1_newAddress 3 (some .int), Cond.fieldLink RX1 26 "OffsetHeap" "blockWords" "I", Cond.fieldLink RX1 45 "OffsetHeap" "offsets" "[I", Cond.methodLink RX1 153 yX0_between, Cond.instanceMethod yX0_between, Cond.selects RX0 yX0_between yX0_between, Cond.code yX0_between cX0_between 7 (some .int), Cond.constantLong RX0 19 (-1), Cond.methodLink RX0 21 yJ13_bitCount_95d88, Cond.static yJ13_bitCount_95d88, Cond.initialized RJ13, Cond.code yJ13_bitCount_95d88 cJ13_bitCount_95d88 2 (some .int), Cond.constantLong RJ13 314 (6148914691236517205), Cond.constantLong RJ13 316 (3689348814741910323), Cond.constantLong RJ13 318 (1085102592571150095), Cond.methodLink RX1 162 yX1_newAddressOrNone, Cond.instanceMethod yX1_newAddressOrNone, Cond.selects RX1 yX1_newAddressOrNone yX1_newAddressOrNone, Cond.code yX1_newAddressOrNone cX1_newAddressOrNone 2 (some .int), Cond.methodLink RX1 85 yX1_referencesBy]
def wsX1_copyLiving_r3 : List Cond := [Cond.static yX1_referencesBy, Cond.code yX1_referencesBy cX1_referencesBy 1 (some .int), Cond.methodLink RX1 91 yX1_plainBy, Cond.static yX1_plainBy, Cond.code yX1_plainBy cX1_plainBy 1 (some .int), Cond.methodLink RX1 76 yX0_put, Cond.instanceMethod yX0_put, Cond.selects RX0 yX0_put yX0_put, Cond.code yX0_put cX0_put 2 none]
def wsX1_copyLiving : List Cond := .code yX1_copyLiving cX1_copyLiving 6 none :: ((wsX1_copyLiving_r1 ++ (wsX1_copyLiving_r2 ++ wsX1_copyLiving_r3)) ++ wsX10 ++ wsX00)
def wsX1_leadRootsAnew_r1 : List Cond := [Cond.fieldLink RX1 32 "OffsetHeap" "roots" "[I", Cond.methodLink RX1 162 yX1_newAddressOrNone, Cond.instanceMethod yX1_newAddressOrNone, Cond.selects RX1 yX1_newAddressOrNone yX1_newAddressOrNone, Cond.initialized RX1, Cond.code yX1_newAddressOrNone cX1_newAddressOrNone 2 (some .int), Cond.methodLink RX1 122 yX1_newAddress, Cond.instanceMethod yX1_newAddress, Cond.selects RX1 yX1_newAddress yX1_newAddress, Cond.code yX1_newAddress cX1_newAddress 3 (some .int), Cond.fieldLink RX1 26 "OffsetHeap" "blockWords" "I", Cond.fieldLink RX1 45 "OffsetHeap" "offsets" "[I", Cond.fieldLink RX1 41 "OffsetHeap" "bits" "LOffsetHeap$BitRow;", Cond.methodLink RX1 153 yX0_between, Cond.instanceMethod yX0_between, Cond.selects RX0 yX0_between yX0_between, Cond.initialized RX0, Cond.code yX0_between cX0_between 7 (some .int), Cond.constantLong RX0 19 (-1), Cond.fieldLink RX0 7 "OffsetHeap$BitRow" "row" "[J", Cond.methodLink RX0 21 yJ13_bitCount_95d88, Cond.static yJ13_bitCount_95d88, Cond.initialized RJ13, Cond.code yJ13_bitCount_95d88 cJ13_bitCount_95d88 2 (some .int)]
def wsX1_leadRootsAnew_r2 : List Cond := [Cond.constantLong RJ13 314 (6148914691236517205), Cond.constantLong RJ13 316 (3689348814741910323), Cond.constantLong RJ13 318 (1085102592571150095)]
def wsX1_leadRootsAnew : List Cond := .code yX1_leadRootsAnew cX1_leadRootsAnew 2 none :: ((wsX1_leadRootsAnew_r1 ++ wsX1_leadRootsAnew_r2) ++ wsX10 ++ wsX00)
def wsX1_swapSpaces : List Cond := .code yX1_swapSpaces cX1_swapSpaces 3 none :: ([.fieldLink RX1 54 "OffsetHeap" "space" "[I", .fieldLink RX1 57 "OffsetHeap" "fresh" "[I", .fieldLink RX1 60 "OffsetHeap" "starts" "LOffsetHeap$BitRow;", .fieldLink RX1 63 "OffsetHeap" "freshStarts" "LOffsetHeap$BitRow;"] ++ wsX10)
def wsX1_collect_r1 : List Cond := [Cond.fieldLink RX1 66 "OffsetHeap" "top" "I", Cond.fieldLink RX1 113 "OffsetHeap" "collectings" "I", Cond.methodLink RX1 97 yX1_markLiving, Cond.instanceMethod yX1_markLiving, Cond.selects RX1 yX1_markLiving yX1_markLiving, Cond.initialized RX1, Cond.code yX1_markLiving cX1_markLiving 5 none, Cond.fieldLink RX1 18 "OffsetHeap" "last" "I", Cond.fieldLink RX1 41 "OffsetHeap" "bits" "LOffsetHeap$BitRow;", Cond.fieldLink RX1 48 "OffsetHeap" "found" "[I", Cond.fieldLink RX1 54 "OffsetHeap" "space" "[I", Cond.methodLink RX1 128 yX1_findWithin, Cond.instanceMethod yX1_findWithin, Cond.selects RX1 yX1_findWithin yX1_findWithin, Cond.code yX1_findWithin cX1_findWithin 7 (some .int), Cond.fieldLink RX1 51 "OffsetHeap" "seen" "LOffsetHeap$BitRow;", Cond.fieldLink RX1 32 "OffsetHeap" "roots" "[I", Cond.methodLink RX1 144 yX0_clear, Cond.instanceMethod yX0_clear, Cond.selects RX0 yX0_clear yX0_clear, Cond.initialized RX0, Cond.code yX0_clear cX0_clear 1 none, Cond.fieldLink RX0 7 "OffsetHeap$BitRow" "row" "[J", Cond.methodLink RX0 13 yJ7_fill_d0a16]
def wsX1_collect_r2 : List Cond := [Cond.static yJ7_fill_d0a16, Cond.initialized RJ7, Cond.code yJ7_fill_d0a16 cJ7_fill_d0a16 5 none, Cond.methodLink RX1 147 yX1_find, Cond.instanceMethod yX1_find, Cond.selects RX1 yX1_find yX1_find, Cond.code yX1_find cX1_find 3 (some .int), Cond.methodLink RX1 119 yX0_has, Cond.instanceMethod yX0_has, Cond.selects RX0 yX0_has yX0_has, Cond.code yX0_has cX0_has 2 (some .boolean), Cond.methodLink RX1 76 yX0_put, Cond.instanceMethod yX0_put, Cond.selects RX0 yX0_put yX0_put, Cond.code yX0_put cX0_put 2 none, Cond.methodLink RX1 150 yX1_findReferred, Cond.instanceMethod yX1_findReferred, Cond.selects RX1 yX1_findReferred yX1_findReferred, Cond.code yX1_findReferred cX1_findReferred 6 (some .int), Cond.methodLink RX1 85 yX1_referencesBy, Cond.static yX1_referencesBy, Cond.code yX1_referencesBy cX1_referencesBy 1 (some .int), Cond.methodLink RX1 72 yX1_sizeBy, Cond.static yX1_sizeBy]
def wsX1_collect_r3 : List Cond := [Cond.code yX1_sizeBy cX1_sizeBy 1 (some .int), Cond.methodLink RX1 91 yX1_plainBy, Cond.static yX1_plainBy, Cond.code yX1_plainBy cX1_plainBy 1 (some .int), Cond.methodLink RX1 100 yX1_fillOffsets, Cond.instanceMethod yX1_fillOffsets, Cond.selects RX1 yX1_fillOffsets yX1_fillOffsets, Cond.code yX1_fillOffsets cX1_fillOffsets 3 (some .int), Cond.fieldLink RX1 26 "OffsetHeap" "blockWords" "I", Cond.fieldLink RX1 45 "OffsetHeap" "offsets" "[I", Cond.methodLink RX1 104 yX1_copyLiving, Cond.instanceMethod yX1_copyLiving, Cond.selects RX1 yX1_copyLiving yX1_copyLiving, Cond.code yX1_copyLiving cX1_copyLiving 6 none, Cond.fieldLink RX1 57 "OffsetHeap" "fresh" "[I", Cond.fieldLink RX1 63 "OffsetHeap" "freshStarts" "LOffsetHeap$BitRow;", Cond.fieldLink RX1 125 "OffsetHeap" "wordsRead" "I", Cond.fieldLink RX1 79 "OffsetHeap" "objects" "I", Cond.methodLink RX1 156 yJ7_fill_53178, Cond.static yJ7_fill_53178, Cond.code yJ7_fill_53178 cJ7_fill_53178 4 none, Cond.methodLink RX1 122 yX1_newAddress, Cond.instanceMethod yX1_newAddress, Cond.selects RX1 yX1_newAddress yX1_newAddress]
def wsX1_collect_r4 : List Cond := [Cond.code yX1_newAddress cX1_newAddress 3 (some .int), Cond.methodLink RX1 153 yX0_between, Cond.instanceMethod yX0_between, Cond.selects RX0 yX0_between yX0_between, Cond.code yX0_between cX0_between 7 (some .int), Cond.constantLong RX0 19 (-1), Cond.methodLink RX0 21 yJ13_bitCount_95d88, Cond.static yJ13_bitCount_95d88, Cond.initialized RJ13, Cond.code yJ13_bitCount_95d88 cJ13_bitCount_95d88 2 (some .int), Cond.constantLong RJ13 314 (6148914691236517205), Cond.constantLong RJ13 316 (3689348814741910323), Cond.constantLong RJ13 318 (1085102592571150095), Cond.methodLink RX1 162 yX1_newAddressOrNone, Cond.instanceMethod yX1_newAddressOrNone, Cond.selects RX1 yX1_newAddressOrNone yX1_newAddressOrNone, Cond.code yX1_newAddressOrNone cX1_newAddressOrNone 2 (some .int), Cond.methodLink RX1 107 yX1_leadRootsAnew, Cond.instanceMethod yX1_leadRootsAnew, Cond.selects RX1 yX1_leadRootsAnew yX1_leadRootsAnew, Cond.code yX1_leadRootsAnew cX1_leadRootsAnew 2 none, Cond.methodLink RX1 110 yX1_swapSpaces, Cond.instanceMethod yX1_swapSpaces, Cond.selects RX1 yX1_swapSpaces yX1_swapSpaces]
def wsX1_collect_r5 : List Cond := [Cond.code yX1_swapSpaces cX1_swapSpaces 3 none, Cond.fieldLink RX1 60 "OffsetHeap" "starts" "LOffsetHeap$BitRow;"]
def wsX1_collect : List Cond := .code yX1_collect cX1_collect 2 (some .int) :: ((wsX1_collect_r1 ++ (wsX1_collect_r2 ++ (wsX1_collect_r3 ++ (wsX1_collect_r4 ++ wsX1_collect_r5)))) ++ wsX10 ++ wsX00)
def wsX1_isWord : List Cond := .code yX1_isWord cX1_isWord 2 (some .boolean) :: ([.fieldLink RX1 18 "OffsetHeap" "last" "I"] ++ wsX10)
def wsX1_word : List Cond := .code yX1_word cX1_word 2 (some .int) :: ([.fieldLink RX1 54 "OffsetHeap" "space" "[I", .methodLink RX1 116 yX1_isWord, .instanceMethod yX1_isWord, .selects RX1 yX1_isWord yX1_isWord, .initialized RX1, .code yX1_isWord cX1_isWord 2 (some .boolean), .fieldLink RX1 18 "OffsetHeap" "last" "I"] ++ wsX10)
def wsX1_rootOf : List Cond := .code yX1_rootOf cX1_rootOf 2 (some .int) :: ([.fieldLink RX1 32 "OffsetHeap" "roots" "[I", .methodLink RX1 94 yX1_isRoot, .static yX1_isRoot, .initialized RX1, .code yX1_isRoot cX1_isRoot 1 (some .boolean)] ++ wsX10)
def wsX1_bit : List Cond := .code yX1_bit cX1_bit 2 (some .int) :: ([.fieldLink RX1 41 "OffsetHeap" "bits" "LOffsetHeap$BitRow;", .methodLink RX1 116 yX1_isWord, .instanceMethod yX1_isWord, .selects RX1 yX1_isWord yX1_isWord, .initialized RX1, .code yX1_isWord cX1_isWord 2 (some .boolean), .fieldLink RX1 18 "OffsetHeap" "last" "I", .methodLink RX1 119 yX0_has, .instanceMethod yX0_has, .selects RX0 yX0_has yX0_has, .initialized RX0, .code yX0_has cX0_has 2 (some .boolean), .fieldLink RX0 7 "OffsetHeap$BitRow" "row" "[J"] ++ wsX10 ++ wsX00)
def wsX1_offset : List Cond := .code yX1_offset cX1_offset 2 (some .int) :: ([.fieldLink RX1 29 "OffsetHeap" "blocks" "I", .fieldLink RX1 45 "OffsetHeap" "offsets" "[I"] ++ wsX10)
def wsX1_moved_r1 : List Cond := [Cond.fieldLink RX1 41 "OffsetHeap" "bits" "LOffsetHeap$BitRow;", Cond.methodLink RX1 116 yX1_isWord, Cond.instanceMethod yX1_isWord, Cond.selects RX1 yX1_isWord yX1_isWord, Cond.initialized RX1, Cond.code yX1_isWord cX1_isWord 2 (some .boolean), Cond.fieldLink RX1 18 "OffsetHeap" "last" "I", Cond.methodLink RX1 119 yX0_has, Cond.instanceMethod yX0_has, Cond.selects RX0 yX0_has yX0_has, Cond.initialized RX0, Cond.code yX0_has cX0_has 2 (some .boolean), Cond.fieldLink RX0 7 "OffsetHeap$BitRow" "row" "[J", Cond.methodLink RX1 122 yX1_newAddress, Cond.instanceMethod yX1_newAddress, Cond.selects RX1 yX1_newAddress yX1_newAddress, Cond.code yX1_newAddress cX1_newAddress 3 (some .int), Cond.fieldLink RX1 26 "OffsetHeap" "blockWords" "I", Cond.fieldLink RX1 45 "OffsetHeap" "offsets" "[I", Cond.methodLink RX1 153 yX0_between, Cond.instanceMethod yX0_between, Cond.selects RX0 yX0_between yX0_between, Cond.code yX0_between cX0_between 7 (some .int), Cond.constantLong RX0 19 (-1)]
def wsX1_moved_r2 : List Cond := [Cond.methodLink RX0 21 yJ13_bitCount_95d88, Cond.static yJ13_bitCount_95d88, Cond.initialized RJ13, Cond.code yJ13_bitCount_95d88 cJ13_bitCount_95d88 2 (some .int), Cond.constantLong RJ13 314 (6148914691236517205), Cond.constantLong RJ13 316 (3689348814741910323), Cond.constantLong RJ13 318 (1085102592571150095)]
def wsX1_moved : List Cond := .code yX1_moved cX1_moved 2 (some .int) :: ((wsX1_moved_r1 ++ wsX1_moved_r2) ++ wsX10 ++ wsX00)
def wsX1_reads : List Cond := .code yX1_reads cX1_reads 1 (some .int) :: ([.fieldLink RX1 125 "OffsetHeap" "wordsRead" "I"] ++ wsX10)
def wsX1_near_r1 : List Cond := [Cond.methodLink RX1 128 yX1_findWithin, Cond.instanceMethod yX1_findWithin, Cond.selects RX1 yX1_findWithin yX1_findWithin, Cond.initialized RX1, Cond.code yX1_findWithin cX1_findWithin 7 (some .int), Cond.fieldLink RX1 51 "OffsetHeap" "seen" "LOffsetHeap$BitRow;", Cond.fieldLink RX1 32 "OffsetHeap" "roots" "[I", Cond.fieldLink RX1 48 "OffsetHeap" "found" "[I", Cond.methodLink RX1 144 yX0_clear, Cond.instanceMethod yX0_clear, Cond.selects RX0 yX0_clear yX0_clear, Cond.initialized RX0, Cond.code yX0_clear cX0_clear 1 none, Cond.fieldLink RX0 7 "OffsetHeap$BitRow" "row" "[J", Cond.methodLink RX0 13 yJ7_fill_d0a16, Cond.static yJ7_fill_d0a16, Cond.initialized RJ7, Cond.code yJ7_fill_d0a16 cJ7_fill_d0a16 5 none, Cond.methodLink RX1 147 yX1_find, Cond.instanceMethod yX1_find, Cond.selects RX1 yX1_find yX1_find, Cond.code yX1_find cX1_find 3 (some .int), Cond.methodLink RX1 119 yX0_has, Cond.instanceMethod yX0_has]
def wsX1_near_r2 : List Cond := [Cond.selects RX0 yX0_has yX0_has, Cond.code yX0_has cX0_has 2 (some .boolean), Cond.methodLink RX1 76 yX0_put, Cond.instanceMethod yX0_put, Cond.selects RX0 yX0_put yX0_put, Cond.code yX0_put cX0_put 2 none, Cond.methodLink RX1 150 yX1_findReferred, Cond.instanceMethod yX1_findReferred, Cond.selects RX1 yX1_findReferred yX1_findReferred, Cond.code yX1_findReferred cX1_findReferred 6 (some .int), Cond.fieldLink RX1 54 "OffsetHeap" "space" "[I", Cond.methodLink RX1 85 yX1_referencesBy, Cond.static yX1_referencesBy, Cond.code yX1_referencesBy cX1_referencesBy 1 (some .int)]
def wsX1_near : List Cond := .code yX1_near cX1_near 2 (some .int) :: ((wsX1_near_r1 ++ wsX1_near_r2) ++ wsX10 ++ wsX00)
def wsX1_objectsLieInARow : List Cond := .code yX1_objectsLieInARow cX1_objectsLieInARow 3 (some .boolean) :: ([.fieldLink RX1 66 "OffsetHeap" "top" "I", .fieldLink RX1 60 "OffsetHeap" "starts" "LOffsetHeap$BitRow;", .fieldLink RX1 54 "OffsetHeap" "space" "[I", .methodLink RX1 119 yX0_has, .instanceMethod yX0_has, .selects RX0 yX0_has yX0_has, .initialized RX0, .code yX0_has cX0_has 2 (some .boolean), .fieldLink RX0 7 "OffsetHeap$BitRow" "row" "[J", .methodLink RX1 72 yX1_sizeBy, .static yX1_sizeBy, .initialized RX1, .code yX1_sizeBy cX1_sizeBy 1 (some .int), .methodLink RX1 85 yX1_referencesBy, .static yX1_referencesBy, .code yX1_referencesBy cX1_referencesBy 1 (some .int), .methodLink RX1 91 yX1_plainBy, .static yX1_plainBy, .code yX1_plainBy cX1_plainBy 1 (some .int)] ++ wsX10 ++ wsX00)
def wsX1_rootsLeadToHeaders : List Cond := .code yX1_rootsLeadToHeaders cX1_rootsLeadToHeaders 2 (some .boolean) :: ([.fieldLink RX1 32 "OffsetHeap" "roots" "[I", .methodLink RX1 88 yX1_isObjectOrNone, .instanceMethod yX1_isObjectOrNone, .selects RX1 yX1_isObjectOrNone yX1_isObjectOrNone, .initialized RX1, .code yX1_isObjectOrNone cX1_isObjectOrNone 2 (some .boolean), .methodLink RX1 82 yX1_isObject, .instanceMethod yX1_isObject, .selects RX1 yX1_isObject yX1_isObject, .code yX1_isObject cX1_isObject 2 (some .boolean), .fieldLink RX1 66 "OffsetHeap" "top" "I", .fieldLink RX1 60 "OffsetHeap" "starts" "LOffsetHeap$BitRow;", .methodLink RX1 119 yX0_has, .instanceMethod yX0_has, .selects RX0 yX0_has yX0_has, .initialized RX0, .code yX0_has cX0_has 2 (some .boolean), .fieldLink RX0 7 "OffsetHeap$BitRow" "row" "[J"] ++ wsX10 ++ wsX00)
def wsX1_referencesOfLeadToHeaders : List Cond := .code yX1_referencesOfLeadToHeaders cX1_referencesOfLeadToHeaders 4 (some .boolean) :: ([.fieldLink RX1 54 "OffsetHeap" "space" "[I", .methodLink RX1 85 yX1_referencesBy, .static yX1_referencesBy, .initialized RX1, .code yX1_referencesBy cX1_referencesBy 1 (some .int), .methodLink RX1 88 yX1_isObjectOrNone, .instanceMethod yX1_isObjectOrNone, .selects RX1 yX1_isObjectOrNone yX1_isObjectOrNone, .code yX1_isObjectOrNone cX1_isObjectOrNone 2 (some .boolean), .methodLink RX1 82 yX1_isObject, .instanceMethod yX1_isObject, .selects RX1 yX1_isObject yX1_isObject, .code yX1_isObject cX1_isObject 2 (some .boolean), .fieldLink RX1 66 "OffsetHeap" "top" "I", .fieldLink RX1 60 "OffsetHeap" "starts" "LOffsetHeap$BitRow;", .methodLink RX1 119 yX0_has, .instanceMethod yX0_has, .selects RX0 yX0_has yX0_has, .initialized RX0, .code yX0_has cX0_has 2 (some .boolean), .fieldLink RX0 7 "OffsetHeap$BitRow" "row" "[J"] ++ wsX10 ++ wsX00)
def wsX1_referencesLeadToHeaders_r1 : List Cond := [Cond.fieldLink RX1 66 "OffsetHeap" "top" "I", Cond.fieldLink RX1 60 "OffsetHeap" "starts" "LOffsetHeap$BitRow;", Cond.methodLink RX1 119 yX0_has, Cond.instanceMethod yX0_has, Cond.selects RX0 yX0_has yX0_has, Cond.initialized RX0, Cond.code yX0_has cX0_has 2 (some .boolean), Cond.fieldLink RX0 7 "OffsetHeap$BitRow" "row" "[J", Cond.methodLink RX1 165 yX1_referencesOfLeadToHeaders, Cond.instanceMethod yX1_referencesOfLeadToHeaders, Cond.selects RX1 yX1_referencesOfLeadToHeaders yX1_referencesOfLeadToHeaders, Cond.initialized RX1, Cond.code yX1_referencesOfLeadToHeaders cX1_referencesOfLeadToHeaders 4 (some .boolean), Cond.fieldLink RX1 54 "OffsetHeap" "space" "[I", Cond.methodLink RX1 85 yX1_referencesBy, Cond.static yX1_referencesBy, Cond.code yX1_referencesBy cX1_referencesBy 1 (some .int), Cond.methodLink RX1 88 yX1_isObjectOrNone, Cond.instanceMethod yX1_isObjectOrNone, Cond.selects RX1 yX1_isObjectOrNone yX1_isObjectOrNone, Cond.code yX1_isObjectOrNone cX1_isObjectOrNone 2 (some .boolean), Cond.methodLink RX1 82 yX1_isObject, Cond.instanceMethod yX1_isObject, Cond.selects RX1 yX1_isObject yX1_isObject]
def wsX1_referencesLeadToHeaders_r2 : List Cond := [Cond.code yX1_isObject cX1_isObject 2 (some .boolean)]
def wsX1_referencesLeadToHeaders : List Cond := .code yX1_referencesLeadToHeaders cX1_referencesLeadToHeaders 2 (some .boolean) :: ((wsX1_referencesLeadToHeaders_r1 ++ wsX1_referencesLeadToHeaders_r2) ++ wsX10 ++ wsX00)
def wsX1_newAddressesFollowFromBits_r1 : List Cond := [Cond.fieldLink RX1 18 "OffsetHeap" "last" "I", Cond.fieldLink RX1 41 "OffsetHeap" "bits" "LOffsetHeap$BitRow;", Cond.methodLink RX1 119 yX0_has, Cond.instanceMethod yX0_has, Cond.selects RX0 yX0_has yX0_has, Cond.initialized RX0, Cond.code yX0_has cX0_has 2 (some .boolean), Cond.fieldLink RX0 7 "OffsetHeap$BitRow" "row" "[J", Cond.methodLink RX1 122 yX1_newAddress, Cond.instanceMethod yX1_newAddress, Cond.selects RX1 yX1_newAddress yX1_newAddress, Cond.initialized RX1, Cond.code yX1_newAddress cX1_newAddress 3 (some .int), Cond.fieldLink RX1 26 "OffsetHeap" "blockWords" "I", Cond.fieldLink RX1 45 "OffsetHeap" "offsets" "[I", Cond.methodLink RX1 153 yX0_between, Cond.instanceMethod yX0_between, Cond.selects RX0 yX0_between yX0_between, Cond.code yX0_between cX0_between 7 (some .int), Cond.constantLong RX0 19 (-1), Cond.methodLink RX0 21 yJ13_bitCount_95d88, Cond.static yJ13_bitCount_95d88, Cond.initialized RJ13, Cond.code yJ13_bitCount_95d88 cJ13_bitCount_95d88 2 (some .int)]
def wsX1_newAddressesFollowFromBits_r2 : List Cond := [Cond.constantLong RJ13 314 (6148914691236517205), Cond.constantLong RJ13 316 (3689348814741910323), Cond.constantLong RJ13 318 (1085102592571150095)]
def wsX1_newAddressesFollowFromBits : List Cond := .code yX1_newAddressesFollowFromBits cX1_newAddressesFollowFromBits 3 (some .boolean) :: ((wsX1_newAddressesFollowFromBits_r1 ++ wsX1_newAddressesFollowFromBits_r2) ++ wsX10 ++ wsX00)
def wsX1_sound_r1 : List Cond := [Cond.methodLink RX1 131 yX1_objectsLieInARow, Cond.instanceMethod yX1_objectsLieInARow, Cond.selects RX1 yX1_objectsLieInARow yX1_objectsLieInARow, Cond.initialized RX1, Cond.code yX1_objectsLieInARow cX1_objectsLieInARow 3 (some .boolean), Cond.fieldLink RX1 66 "OffsetHeap" "top" "I", Cond.fieldLink RX1 60 "OffsetHeap" "starts" "LOffsetHeap$BitRow;", Cond.fieldLink RX1 54 "OffsetHeap" "space" "[I", Cond.methodLink RX1 119 yX0_has, Cond.instanceMethod yX0_has, Cond.selects RX0 yX0_has yX0_has, Cond.initialized RX0, Cond.code yX0_has cX0_has 2 (some .boolean), Cond.fieldLink RX0 7 "OffsetHeap$BitRow" "row" "[J", Cond.methodLink RX1 72 yX1_sizeBy, Cond.static yX1_sizeBy, Cond.code yX1_sizeBy cX1_sizeBy 1 (some .int), Cond.methodLink RX1 85 yX1_referencesBy, Cond.static yX1_referencesBy, Cond.code yX1_referencesBy cX1_referencesBy 1 (some .int), Cond.methodLink RX1 91 yX1_plainBy, Cond.static yX1_plainBy, Cond.code yX1_plainBy cX1_plainBy 1 (some .int), Cond.methodLink RX1 135 yX1_rootsLeadToHeaders]
def wsX1_sound_r2 : List Cond := [Cond.instanceMethod yX1_rootsLeadToHeaders, Cond.selects RX1 yX1_rootsLeadToHeaders yX1_rootsLeadToHeaders, Cond.code yX1_rootsLeadToHeaders cX1_rootsLeadToHeaders 2 (some .boolean), Cond.fieldLink RX1 32 "OffsetHeap" "roots" "[I", Cond.methodLink RX1 88 yX1_isObjectOrNone, Cond.instanceMethod yX1_isObjectOrNone, Cond.selects RX1 yX1_isObjectOrNone yX1_isObjectOrNone, Cond.code yX1_isObjectOrNone cX1_isObjectOrNone 2 (some .boolean), Cond.methodLink RX1 82 yX1_isObject, Cond.instanceMethod yX1_isObject, Cond.selects RX1 yX1_isObject yX1_isObject, Cond.code yX1_isObject cX1_isObject 2 (some .boolean), Cond.methodLink RX1 138 yX1_referencesLeadToHeaders, Cond.instanceMethod yX1_referencesLeadToHeaders, Cond.selects RX1 yX1_referencesLeadToHeaders yX1_referencesLeadToHeaders, Cond.code yX1_referencesLeadToHeaders cX1_referencesLeadToHeaders 2 (some .boolean), Cond.methodLink RX1 165 yX1_referencesOfLeadToHeaders, Cond.instanceMethod yX1_referencesOfLeadToHeaders, Cond.selects RX1 yX1_referencesOfLeadToHeaders yX1_referencesOfLeadToHeaders, Cond.code yX1_referencesOfLeadToHeaders cX1_referencesOfLeadToHeaders 4 (some .boolean), Cond.methodLink RX1 141 yX1_newAddressesFollowFromBits, Cond.instanceMethod yX1_newAddressesFollowFromBits, Cond.selects RX1 yX1_newAddressesFollowFromBits yX1_newAddressesFollowFromBits, Cond.code yX1_newAddressesFollowFromBits cX1_newAddressesFollowFromBits 3 (some .boolean)]
def wsX1_sound_r3 : List Cond := [Cond.fieldLink RX1 18 "OffsetHeap" "last" "I", Cond.fieldLink RX1 41 "OffsetHeap" "bits" "LOffsetHeap$BitRow;", Cond.methodLink RX1 122 yX1_newAddress, Cond.instanceMethod yX1_newAddress, Cond.selects RX1 yX1_newAddress yX1_newAddress, Cond.code yX1_newAddress cX1_newAddress 3 (some .int), Cond.fieldLink RX1 26 "OffsetHeap" "blockWords" "I", Cond.fieldLink RX1 45 "OffsetHeap" "offsets" "[I", Cond.methodLink RX1 153 yX0_between, Cond.instanceMethod yX0_between, Cond.selects RX0 yX0_between yX0_between, Cond.code yX0_between cX0_between 7 (some .int), Cond.constantLong RX0 19 (-1), Cond.methodLink RX0 21 yJ13_bitCount_95d88, Cond.static yJ13_bitCount_95d88, Cond.initialized RJ13, Cond.code yJ13_bitCount_95d88 cJ13_bitCount_95d88 2 (some .int), Cond.constantLong RJ13 314 (6148914691236517205), Cond.constantLong RJ13 316 (3689348814741910323), Cond.constantLong RJ13 318 (1085102592571150095)]
def wsX1_sound : List Cond := .code yX1_sound cX1_sound 1 (some .boolean) :: ((wsX1_sound_r1 ++ (wsX1_sound_r2 ++ wsX1_sound_r3)) ++ wsX10 ++ wsX00)
def wsX1_count : List Cond := .code yX1_count cX1_count 2 (some .int) :: ([.fieldLink RX1 66 "OffsetHeap" "top" "I", .fieldLink RX1 79 "OffsetHeap" "objects" "I", .fieldLink RX1 113 "OffsetHeap" "collectings" "I", .fieldLink RX1 18 "OffsetHeap" "last" "I", .fieldLink RX1 29 "OffsetHeap" "blocks" "I"] ++ wsX10)
def wsX2_init : List Cond := .code yX2_init cX2_init 3 none :: ([.methodLink RX2 1 objectInit, .instanceMethod objectInit, .code objectInit ⟨#[0xb1]⟩ 1 none, .fieldLink RX2 7 "OffsetHeapModel" "top" "I", .arrayClass .int, .fieldLink RX2 13 "OffsetHeapModel" "words" "[I", .fieldLink RX2 17 "OffsetHeapModel" "fresh" "[I", .arrayClass .boolean, .fieldLink RX2 20 "OffsetHeapModel" "begins" "[Z", .fieldLink RX2 24 "OffsetHeapModel" "freshBegins" "[Z", .fieldLink RX2 27 "OffsetHeapModel" "roots" "[I", .fieldLink RX2 30 "OffsetHeapModel" "went" "[I", .fieldLink RX2 33 "OffsetHeapModel" "far" "[I", .fieldLink RX2 36 "OffsetHeapModel" "most" "I", .fieldLink RX2 39 "OffsetHeapModel" "block" "I"] ++ wsX20)
def wsX2_isIn : List Cond := .code yX2_isIn cX2_isIn 3 (some .boolean) :: ([])
def wsX2_plain : List Cond := .code yX2_plain cX2_plain 2 (some .int) :: ([.fieldLink RX2 13 "OffsetHeapModel" "words" "[I"] ++ wsX20)
def wsX2_references : List Cond := .code yX2_references cX2_references 2 (some .int) :: ([.fieldLink RX2 13 "OffsetHeapModel" "words" "[I"] ++ wsX20)
def wsX2_length : List Cond := .code yX2_length cX2_length 2 (some .int) :: ([.methodLink RX2 45 yX2_references, .instanceMethod yX2_references, .selects RX2 yX2_references yX2_references, .initialized RX2, .code yX2_references cX2_references 2 (some .int), .fieldLink RX2 13 "OffsetHeapModel" "words" "[I", .methodLink RX2 49 yX2_plain, .instanceMethod yX2_plain, .selects RX2 yX2_plain yX2_plain, .code yX2_plain cX2_plain 2 (some .int)] ++ wsX20)
def wsX2_make : List Cond := .code yX2_make cX2_make 5 (some .int) :: ([.fieldLink RX2 7 "OffsetHeapModel" "top" "I", .fieldLink RX2 36 "OffsetHeapModel" "most" "I", .fieldLink RX2 13 "OffsetHeapModel" "words" "[I", .fieldLink RX2 20 "OffsetHeapModel" "begins" "[Z", .fieldLink RX2 56 "OffsetHeapModel" "objects" "I", .methodLink RX2 52 yX2_isIn, .static yX2_isIn, .initialized RX2, .code yX2_isIn cX2_isIn 3 (some .boolean)] ++ wsX20)
def wsX2_isObject : List Cond := .code yX2_isObject cX2_isObject 2 (some .boolean) :: ([.fieldLink RX2 36 "OffsetHeapModel" "most" "I", .fieldLink RX2 20 "OffsetHeapModel" "begins" "[Z", .methodLink RX2 52 yX2_isIn, .static yX2_isIn, .initialized RX2, .code yX2_isIn cX2_isIn 3 (some .boolean)] ++ wsX20)
def wsX2_isLead : List Cond := .code yX2_isLead cX2_isLead 2 (some .boolean) :: ([.methodLink RX2 59 yX2_isObject, .instanceMethod yX2_isObject, .selects RX2 yX2_isObject yX2_isObject, .initialized RX2, .code yX2_isObject cX2_isObject 2 (some .boolean), .fieldLink RX2 36 "OffsetHeapModel" "most" "I", .fieldLink RX2 20 "OffsetHeapModel" "begins" "[Z", .methodLink RX2 52 yX2_isIn, .static yX2_isIn, .code yX2_isIn cX2_isIn 3 (some .boolean)] ++ wsX20)
def wsX2_refer : List Cond := .code yX2_refer cX2_refer 4 (some .boolean) :: ([.fieldLink RX2 13 "OffsetHeapModel" "words" "[I", .methodLink RX2 59 yX2_isObject, .instanceMethod yX2_isObject, .selects RX2 yX2_isObject yX2_isObject, .initialized RX2, .code yX2_isObject cX2_isObject 2 (some .boolean), .fieldLink RX2 36 "OffsetHeapModel" "most" "I", .fieldLink RX2 20 "OffsetHeapModel" "begins" "[Z", .methodLink RX2 52 yX2_isIn, .static yX2_isIn, .code yX2_isIn cX2_isIn 3 (some .boolean), .methodLink RX2 63 yX2_isLead, .instanceMethod yX2_isLead, .selects RX2 yX2_isLead yX2_isLead, .code yX2_isLead cX2_isLead 2 (some .boolean), .methodLink RX2 45 yX2_references, .instanceMethod yX2_references, .selects RX2 yX2_references yX2_references, .code yX2_references cX2_references 2 (some .int)] ++ wsX20)
def wsX2_set : List Cond := .code yX2_set cX2_set 4 (some .boolean) :: ([.fieldLink RX2 13 "OffsetHeapModel" "words" "[I", .methodLink RX2 59 yX2_isObject, .instanceMethod yX2_isObject, .selects RX2 yX2_isObject yX2_isObject, .initialized RX2, .code yX2_isObject cX2_isObject 2 (some .boolean), .fieldLink RX2 36 "OffsetHeapModel" "most" "I", .fieldLink RX2 20 "OffsetHeapModel" "begins" "[Z", .methodLink RX2 52 yX2_isIn, .static yX2_isIn, .code yX2_isIn cX2_isIn 3 (some .boolean), .methodLink RX2 49 yX2_plain, .instanceMethod yX2_plain, .selects RX2 yX2_plain yX2_plain, .code yX2_plain cX2_plain 2 (some .int), .methodLink RX2 45 yX2_references, .instanceMethod yX2_references, .selects RX2 yX2_references yX2_references, .code yX2_references cX2_references 2 (some .int)] ++ wsX20)
def wsX2_root : List Cond := .code yX2_root cX2_root 3 (some .boolean) :: ([.fieldLink RX2 27 "OffsetHeapModel" "roots" "[I", .methodLink RX2 52 yX2_isIn, .static yX2_isIn, .initialized RX2, .code yX2_isIn cX2_isIn 3 (some .boolean), .methodLink RX2 63 yX2_isLead, .instanceMethod yX2_isLead, .selects RX2 yX2_isLead yX2_isLead, .code yX2_isLead cX2_isLead 2 (some .boolean), .methodLink RX2 59 yX2_isObject, .instanceMethod yX2_isObject, .selects RX2 yX2_isObject yX2_isObject, .code yX2_isObject cX2_isObject 2 (some .boolean), .fieldLink RX2 36 "OffsetHeapModel" "most" "I", .fieldLink RX2 20 "OffsetHeapModel" "begins" "[Z"] ++ wsX20)
def wsX2_measure : List Cond := .code yX2_measure cX2_measure 5 none :: ([.fieldLink RX2 36 "OffsetHeapModel" "most" "I", .fieldLink RX2 33 "OffsetHeapModel" "far" "[I", .constant RX2 66 (1000000), .fieldLink RX2 27 "OffsetHeapModel" "roots" "[I", .fieldLink RX2 7 "OffsetHeapModel" "top" "I", .fieldLink RX2 13 "OffsetHeapModel" "words" "[I", .methodLink RX2 45 yX2_references, .instanceMethod yX2_references, .selects RX2 yX2_references yX2_references, .initialized RX2, .code yX2_references cX2_references 2 (some .int), .methodLink RX2 67 yX2_length, .instanceMethod yX2_length, .selects RX2 yX2_length yX2_length, .code yX2_length cX2_length 2 (some .int), .methodLink RX2 49 yX2_plain, .instanceMethod yX2_plain, .selects RX2 yX2_plain yX2_plain, .code yX2_plain cX2_plain 2 (some .int)] ++ wsX20)
def wsX2_collect_r1 : List Cond := [Cond.fieldLink RX2 36 "OffsetHeapModel" "most" "I", Cond.fieldLink RX2 30 "OffsetHeapModel" "went" "[I", Cond.fieldLink RX2 24 "OffsetHeapModel" "freshBegins" "[Z", Cond.fieldLink RX2 7 "OffsetHeapModel" "top" "I", Cond.fieldLink RX2 33 "OffsetHeapModel" "far" "[I", Cond.constant RX2 66 (1000000), Cond.fieldLink RX2 17 "OffsetHeapModel" "fresh" "[I", Cond.fieldLink RX2 56 "OffsetHeapModel" "objects" "I", Cond.fieldLink RX2 13 "OffsetHeapModel" "words" "[I", Cond.fieldLink RX2 20 "OffsetHeapModel" "begins" "[Z", Cond.fieldLink RX2 27 "OffsetHeapModel" "roots" "[I", Cond.fieldLink RX2 73 "OffsetHeapModel" "lived" "I", Cond.fieldLink RX2 76 "OffsetHeapModel" "collected" "I", Cond.methodLink RX2 70 yX2_measure, Cond.instanceMethod yX2_measure, Cond.selects RX2 yX2_measure yX2_measure, Cond.initialized RX2, Cond.code yX2_measure cX2_measure 5 none, Cond.methodLink RX2 45 yX2_references, Cond.instanceMethod yX2_references, Cond.selects RX2 yX2_references yX2_references, Cond.code yX2_references cX2_references 2 (some .int), Cond.methodLink RX2 67 yX2_length, Cond.instanceMethod yX2_length]
def wsX2_collect_r2 : List Cond := [Cond.selects RX2 yX2_length yX2_length, Cond.code yX2_length cX2_length 2 (some .int), Cond.methodLink RX2 49 yX2_plain, Cond.instanceMethod yX2_plain, Cond.selects RX2 yX2_plain yX2_plain, Cond.code yX2_plain cX2_plain 2 (some .int)]
def wsX2_collect : List Cond := .code yX2_collect cX2_collect 5 (some .int) :: ((wsX2_collect_r1 ++ wsX2_collect_r2) ++ wsX20)
def wsX2_isWord : List Cond := .code yX2_isWord cX2_isWord 2 (some .boolean) :: ([.fieldLink RX2 36 "OffsetHeapModel" "most" "I", .methodLink RX2 52 yX2_isIn, .static yX2_isIn, .initialized RX2, .code yX2_isIn cX2_isIn 3 (some .boolean)] ++ wsX20)
def wsX2_word : List Cond := .code yX2_word cX2_word 2 (some .int) :: ([.fieldLink RX2 13 "OffsetHeapModel" "words" "[I", .methodLink RX2 79 yX2_isWord, .instanceMethod yX2_isWord, .selects RX2 yX2_isWord yX2_isWord, .initialized RX2, .code yX2_isWord cX2_isWord 2 (some .boolean), .fieldLink RX2 36 "OffsetHeapModel" "most" "I", .methodLink RX2 52 yX2_isIn, .static yX2_isIn, .code yX2_isIn cX2_isIn 3 (some .boolean)] ++ wsX20)
def wsX2_rootOf : List Cond := .code yX2_rootOf cX2_rootOf 2 (some .int) :: ([.fieldLink RX2 27 "OffsetHeapModel" "roots" "[I", .methodLink RX2 52 yX2_isIn, .static yX2_isIn, .initialized RX2, .code yX2_isIn cX2_isIn 3 (some .boolean)] ++ wsX20)
def wsX2_bit : List Cond := .code yX2_bit cX2_bit 2 (some .int) :: ([.fieldLink RX2 30 "OffsetHeapModel" "went" "[I", .methodLink RX2 79 yX2_isWord, .instanceMethod yX2_isWord, .selects RX2 yX2_isWord yX2_isWord, .initialized RX2, .code yX2_isWord cX2_isWord 2 (some .boolean), .fieldLink RX2 36 "OffsetHeapModel" "most" "I", .methodLink RX2 52 yX2_isIn, .static yX2_isIn, .code yX2_isIn cX2_isIn 3 (some .boolean)] ++ wsX20)
def wsX2_blocks : List Cond := .code yX2_blocks cX2_blocks 1 (some .int) :: ([.fieldLink RX2 36 "OffsetHeapModel" "most" "I", .fieldLink RX2 39 "OffsetHeapModel" "block" "I"] ++ wsX20)
def wsX2_offset : List Cond := .code yX2_offset cX2_offset 4 (some .int) :: ([.fieldLink RX2 39 "OffsetHeapModel" "block" "I", .fieldLink RX2 30 "OffsetHeapModel" "went" "[I", .methodLink RX2 82 yX2_blocks, .instanceMethod yX2_blocks, .selects RX2 yX2_blocks yX2_blocks, .initialized RX2, .code yX2_blocks cX2_blocks 1 (some .int), .fieldLink RX2 36 "OffsetHeapModel" "most" "I", .methodLink RX2 52 yX2_isIn, .static yX2_isIn, .code yX2_isIn cX2_isIn 3 (some .boolean)] ++ wsX20)
def wsX2_moved : List Cond := .code yX2_moved cX2_moved 2 (some .int) :: ([.fieldLink RX2 30 "OffsetHeapModel" "went" "[I", .methodLink RX2 79 yX2_isWord, .instanceMethod yX2_isWord, .selects RX2 yX2_isWord yX2_isWord, .initialized RX2, .code yX2_isWord cX2_isWord 2 (some .boolean), .fieldLink RX2 36 "OffsetHeapModel" "most" "I", .methodLink RX2 52 yX2_isIn, .static yX2_isIn, .code yX2_isIn cX2_isIn 3 (some .boolean)] ++ wsX20)
def wsX2_reads : List Cond := .code yX2_reads cX2_reads 1 (some .int) :: ([.fieldLink RX2 73 "OffsetHeapModel" "lived" "I"] ++ wsX20)
def wsX2_near_r1 : List Cond := [Cond.fieldLink RX2 7 "OffsetHeapModel" "top" "I", Cond.fieldLink RX2 33 "OffsetHeapModel" "far" "[I", Cond.methodLink RX2 52 yX2_isIn, Cond.static yX2_isIn, Cond.initialized RX2, Cond.code yX2_isIn cX2_isIn 3 (some .boolean), Cond.methodLink RX2 70 yX2_measure, Cond.instanceMethod yX2_measure, Cond.selects RX2 yX2_measure yX2_measure, Cond.code yX2_measure cX2_measure 5 none, Cond.fieldLink RX2 36 "OffsetHeapModel" "most" "I", Cond.constant RX2 66 (1000000), Cond.fieldLink RX2 27 "OffsetHeapModel" "roots" "[I", Cond.fieldLink RX2 13 "OffsetHeapModel" "words" "[I", Cond.methodLink RX2 45 yX2_references, Cond.instanceMethod yX2_references, Cond.selects RX2 yX2_references yX2_references, Cond.code yX2_references cX2_references 2 (some .int), Cond.methodLink RX2 67 yX2_length, Cond.instanceMethod yX2_length, Cond.selects RX2 yX2_length yX2_length, Cond.code yX2_length cX2_length 2 (some .int), Cond.methodLink RX2 49 yX2_plain, Cond.instanceMethod yX2_plain]
def wsX2_near_r2 : List Cond := [Cond.selects RX2 yX2_plain yX2_plain, Cond.code yX2_plain cX2_plain 2 (some .int)]
def wsX2_near : List Cond := .code yX2_near cX2_near 4 (some .int) :: ((wsX2_near_r1 ++ wsX2_near_r2) ++ wsX20)
def wsX2_sound_r1 : List Cond := [Cond.fieldLink RX2 7 "OffsetHeapModel" "top" "I", Cond.fieldLink RX2 20 "OffsetHeapModel" "begins" "[Z", Cond.fieldLink RX2 13 "OffsetHeapModel" "words" "[I", Cond.fieldLink RX2 27 "OffsetHeapModel" "roots" "[I", Cond.fieldLink RX2 56 "OffsetHeapModel" "objects" "I", Cond.methodLink RX2 45 yX2_references, Cond.instanceMethod yX2_references, Cond.selects RX2 yX2_references yX2_references, Cond.initialized RX2, Cond.code yX2_references cX2_references 2 (some .int), Cond.methodLink RX2 63 yX2_isLead, Cond.instanceMethod yX2_isLead, Cond.selects RX2 yX2_isLead yX2_isLead, Cond.code yX2_isLead cX2_isLead 2 (some .boolean), Cond.methodLink RX2 59 yX2_isObject, Cond.instanceMethod yX2_isObject, Cond.selects RX2 yX2_isObject yX2_isObject, Cond.code yX2_isObject cX2_isObject 2 (some .boolean), Cond.fieldLink RX2 36 "OffsetHeapModel" "most" "I", Cond.methodLink RX2 52 yX2_isIn, Cond.static yX2_isIn, Cond.code yX2_isIn cX2_isIn 3 (some .boolean), Cond.methodLink RX2 67 yX2_length, Cond.instanceMethod yX2_length]
def wsX2_sound_r2 : List Cond := [Cond.selects RX2 yX2_length yX2_length, Cond.code yX2_length cX2_length 2 (some .int), Cond.methodLink RX2 49 yX2_plain, Cond.instanceMethod yX2_plain, Cond.selects RX2 yX2_plain yX2_plain, Cond.code yX2_plain cX2_plain 2 (some .int)]
def wsX2_sound : List Cond := .code yX2_sound cX2_sound 5 (some .boolean) :: ((wsX2_sound_r1 ++ wsX2_sound_r2) ++ wsX20)
def wsX2_count : List Cond := .code yX2_count cX2_count 2 (some .int) :: ([.fieldLink RX2 7 "OffsetHeapModel" "top" "I", .fieldLink RX2 56 "OffsetHeapModel" "objects" "I", .fieldLink RX2 76 "OffsetHeapModel" "collected" "I", .fieldLink RX2 36 "OffsetHeapModel" "most" "I", .methodLink RX2 82 yX2_blocks, .instanceMethod yX2_blocks, .selects RX2 yX2_blocks yX2_blocks, .initialized RX2, .code yX2_blocks cX2_blocks 1 (some .int), .fieldLink RX2 39 "OffsetHeapModel" "block" "I"] ++ wsX20)
def wsJ9_max_7cf53 : List Cond := .code yJ9_max_7cf53 cJ9_max_7cf53 2 (some .int) :: ([])
def wsJ9_min_7cf53 : List Cond := .code yJ9_min_7cf53 cJ9_min_7cf53 2 (some .int) :: ([])
def wsL_cell : List Cond := .code yL_cell cL_cell 2 (some .int) :: ([])
def wsL_law_r1 : List Cond := [Cond.classLink RL 7 RX1, Cond.instantiable RX1 16, Cond.initialized RX1, Cond.classLink RL 18 RX2, Cond.instantiable RX2 14, Cond.initialized RX2, Cond.methodLink RL 9 yL_cell, Cond.static yL_cell, Cond.initialized RL, Cond.code yL_cell cL_cell 2 (some .int), Cond.methodLink RL 15 yX1_init, Cond.instanceMethod yX1_init, Cond.code yX1_init cX1_init 3 none, Cond.methodLink RX1 1 objectInit, Cond.instanceMethod objectInit, Cond.code objectInit ⟨#[0xb1]⟩ 1 none, Cond.methodLink RX1 9 Lib.Math.min.name, Cond.static Lib.Math.min.name, Cond.initialized "java/lang/Math", Cond.code Lib.Math.min.name Lib.Math.min.code 2 (some .int), Cond.methodLink RX1 15 Lib.Math.max.name, Cond.static Lib.Math.max.name, Cond.code Lib.Math.max.name Lib.Math.max.code 2 (some .int), Cond.fieldLink RX1 18 "OffsetHeap" "last" "I"]
def wsL_law_r2 : List Cond := [Cond.fieldLink RX1 26 "OffsetHeap" "blockWords" "I", Cond.fieldLink RX1 29 "OffsetHeap" "blocks" "I", Cond.arrayClass .int, Cond.fieldLink RX1 32 "OffsetHeap" "roots" "[I", Cond.classLink RX1 36 RX0, Cond.instantiable RX0 1, Cond.initialized RX0, Cond.fieldLink RX1 41 "OffsetHeap" "bits" "LOffsetHeap$BitRow;", Cond.fieldLink RX1 45 "OffsetHeap" "offsets" "[I", Cond.fieldLink RX1 48 "OffsetHeap" "found" "[I", Cond.fieldLink RX1 51 "OffsetHeap" "seen" "LOffsetHeap$BitRow;", Cond.fieldLink RX1 54 "OffsetHeap" "space" "[I", Cond.fieldLink RX1 57 "OffsetHeap" "fresh" "[I", Cond.fieldLink RX1 60 "OffsetHeap" "starts" "LOffsetHeap$BitRow;", Cond.fieldLink RX1 63 "OffsetHeap" "freshStarts" "LOffsetHeap$BitRow;", Cond.fieldLink RX1 66 "OffsetHeap" "top" "I", Cond.methodLink RX1 22 yX1_isBlockSize, Cond.static yX1_isBlockSize, Cond.code yX1_isBlockSize cX1_isBlockSize 1 (some .boolean), Cond.methodLink RX1 38 yX0_init, Cond.instanceMethod yX0_init, Cond.code yX0_init cX0_init 2 none, Cond.methodLink RX0 1 objectInit, Cond.arrayClass .long]
def wsL_law_r3 : List Cond := [Cond.fieldLink RX0 7 "OffsetHeap$BitRow" "row" "[J", Cond.methodLink RL 20 yX2_init, Cond.instanceMethod yX2_init, Cond.code yX2_init cX2_init 3 none, Cond.methodLink RX2 1 objectInit, Cond.fieldLink RX2 7 "OffsetHeapModel" "top" "I", Cond.fieldLink RX2 13 "OffsetHeapModel" "words" "[I", Cond.fieldLink RX2 17 "OffsetHeapModel" "fresh" "[I", Cond.arrayClass .boolean, Cond.fieldLink RX2 20 "OffsetHeapModel" "begins" "[Z", Cond.fieldLink RX2 24 "OffsetHeapModel" "freshBegins" "[Z", Cond.fieldLink RX2 27 "OffsetHeapModel" "roots" "[I", Cond.fieldLink RX2 30 "OffsetHeapModel" "went" "[I", Cond.fieldLink RX2 33 "OffsetHeapModel" "far" "[I", Cond.fieldLink RX2 36 "OffsetHeapModel" "most" "I", Cond.fieldLink RX2 39 "OffsetHeapModel" "block" "I", Cond.methodLink RL 21 yX1_make, Cond.instanceMethod yX1_make, Cond.selects RX1 yX1_make yX1_make, Cond.code yX1_make cX1_make 5 (some .int), Cond.fieldLink RX1 79 "OffsetHeap" "objects" "I", Cond.methodLink RX1 69 yX1_headerOf, Cond.static yX1_headerOf, Cond.code yX1_headerOf cX1_headerOf 2 (some .int)]
def wsL_law_r4 : List Cond := [Cond.methodLink RX1 72 yX1_sizeBy, Cond.static yX1_sizeBy, Cond.code yX1_sizeBy cX1_sizeBy 1 (some .int), Cond.methodLink RX1 85 yX1_referencesBy, Cond.static yX1_referencesBy, Cond.code yX1_referencesBy cX1_referencesBy 1 (some .int), Cond.methodLink RX1 91 yX1_plainBy, Cond.static yX1_plainBy, Cond.code yX1_plainBy cX1_plainBy 1 (some .int), Cond.methodLink RX1 76 yX0_put, Cond.instanceMethod yX0_put, Cond.selects RX0 yX0_put yX0_put, Cond.code yX0_put cX0_put 2 none, Cond.methodLink RL 25 yX2_make, Cond.instanceMethod yX2_make, Cond.selects RX2 yX2_make yX2_make, Cond.code yX2_make cX2_make 5 (some .int), Cond.fieldLink RX2 56 "OffsetHeapModel" "objects" "I", Cond.methodLink RX2 52 yX2_isIn, Cond.static yX2_isIn, Cond.code yX2_isIn cX2_isIn 3 (some .boolean), Cond.methodLink RL 26 yX1_refer, Cond.instanceMethod yX1_refer, Cond.selects RX1 yX1_refer yX1_refer]
def wsL_law_r5 : List Cond := [Cond.code yX1_refer cX1_refer 4 (some .boolean), Cond.methodLink RX1 82 yX1_isObject, Cond.instanceMethod yX1_isObject, Cond.selects RX1 yX1_isObject yX1_isObject, Cond.code yX1_isObject cX1_isObject 2 (some .boolean), Cond.methodLink RX1 119 yX0_has, Cond.instanceMethod yX0_has, Cond.selects RX0 yX0_has yX0_has, Cond.code yX0_has cX0_has 2 (some .boolean), Cond.methodLink RX1 88 yX1_isObjectOrNone, Cond.instanceMethod yX1_isObjectOrNone, Cond.selects RX1 yX1_isObjectOrNone yX1_isObjectOrNone, Cond.code yX1_isObjectOrNone cX1_isObjectOrNone 2 (some .boolean), Cond.methodLink RL 30 yX2_refer, Cond.instanceMethod yX2_refer, Cond.selects RX2 yX2_refer yX2_refer, Cond.code yX2_refer cX2_refer 4 (some .boolean), Cond.methodLink RX2 59 yX2_isObject, Cond.instanceMethod yX2_isObject, Cond.selects RX2 yX2_isObject yX2_isObject, Cond.code yX2_isObject cX2_isObject 2 (some .boolean), Cond.methodLink RX2 63 yX2_isLead, Cond.instanceMethod yX2_isLead, Cond.selects RX2 yX2_isLead yX2_isLead]
def wsL_law_r6 : List Cond := [Cond.code yX2_isLead cX2_isLead 2 (some .boolean), Cond.methodLink RX2 45 yX2_references, Cond.instanceMethod yX2_references, Cond.selects RX2 yX2_references yX2_references, Cond.code yX2_references cX2_references 2 (some .int), Cond.methodLink RL 31 yX1_set, Cond.instanceMethod yX1_set, Cond.selects RX1 yX1_set yX1_set, Cond.code yX1_set cX1_set 4 (some .boolean), Cond.methodLink RL 34 yX2_set, Cond.instanceMethod yX2_set, Cond.selects RX2 yX2_set yX2_set, Cond.code yX2_set cX2_set 4 (some .boolean), Cond.methodLink RX2 49 yX2_plain, Cond.instanceMethod yX2_plain, Cond.selects RX2 yX2_plain yX2_plain, Cond.code yX2_plain cX2_plain 2 (some .int), Cond.methodLink RL 35 yX1_root, Cond.instanceMethod yX1_root, Cond.selects RX1 yX1_root yX1_root, Cond.code yX1_root cX1_root 3 (some .boolean), Cond.methodLink RX1 94 yX1_isRoot, Cond.static yX1_isRoot, Cond.code yX1_isRoot cX1_isRoot 1 (some .boolean)]
def wsL_law_r7 : List Cond := [Cond.methodLink RL 39 yX2_root, Cond.instanceMethod yX2_root, Cond.selects RX2 yX2_root yX2_root, Cond.code yX2_root cX2_root 3 (some .boolean), Cond.methodLink RL 40 yX1_collect, Cond.instanceMethod yX1_collect, Cond.selects RX1 yX1_collect yX1_collect, Cond.code yX1_collect cX1_collect 2 (some .int), Cond.fieldLink RX1 113 "OffsetHeap" "collectings" "I", Cond.methodLink RX1 97 yX1_markLiving, Cond.instanceMethod yX1_markLiving, Cond.selects RX1 yX1_markLiving yX1_markLiving, Cond.code yX1_markLiving cX1_markLiving 5 none, Cond.methodLink RX1 128 yX1_findWithin, Cond.instanceMethod yX1_findWithin, Cond.selects RX1 yX1_findWithin yX1_findWithin, Cond.code yX1_findWithin cX1_findWithin 7 (some .int), Cond.methodLink RX1 144 yX0_clear, Cond.instanceMethod yX0_clear, Cond.selects RX0 yX0_clear yX0_clear, Cond.code yX0_clear cX0_clear 1 none, Cond.methodLink RX0 13 yJ7_fill_d0a16, Cond.static yJ7_fill_d0a16, Cond.initialized RJ7]
def wsL_law_r8 : List Cond := [Cond.code yJ7_fill_d0a16 cJ7_fill_d0a16 5 none, Cond.methodLink RX1 147 yX1_find, Cond.instanceMethod yX1_find, Cond.selects RX1 yX1_find yX1_find, Cond.code yX1_find cX1_find 3 (some .int), Cond.methodLink RX1 150 yX1_findReferred, Cond.instanceMethod yX1_findReferred, Cond.selects RX1 yX1_findReferred yX1_findReferred, Cond.code yX1_findReferred cX1_findReferred 6 (some .int), Cond.methodLink RX1 100 yX1_fillOffsets, Cond.instanceMethod yX1_fillOffsets, Cond.selects RX1 yX1_fillOffsets yX1_fillOffsets, Cond.code yX1_fillOffsets cX1_fillOffsets 3 (some .int), Cond.methodLink RX1 104 yX1_copyLiving, Cond.instanceMethod yX1_copyLiving, Cond.selects RX1 yX1_copyLiving yX1_copyLiving, Cond.code yX1_copyLiving cX1_copyLiving 6 none, Cond.fieldLink RX1 125 "OffsetHeap" "wordsRead" "I", Cond.methodLink RX1 156 yJ7_fill_53178, Cond.static yJ7_fill_53178, Cond.code yJ7_fill_53178 cJ7_fill_53178 4 none, Cond.methodLink RX1 122 yX1_newAddress, Cond.instanceMethod yX1_newAddress, Cond.selects RX1 yX1_newAddress yX1_newAddress]
def wsL_law_r9 : List Cond := [Cond.code yX1_newAddress cX1_newAddress 3 (some .int), Cond.methodLink RX1 153 yX0_between, Cond.instanceMethod yX0_between, Cond.selects RX0 yX0_between yX0_between, Cond.code yX0_between cX0_between 7 (some .int), Cond.constantLong RX0 19 (-1), Cond.methodLink RX0 21 yJ13_bitCount_95d88, Cond.static yJ13_bitCount_95d88, Cond.initialized RJ13, Cond.code yJ13_bitCount_95d88 cJ13_bitCount_95d88 2 (some .int), Cond.constantLong RJ13 314 (6148914691236517205), Cond.constantLong RJ13 316 (3689348814741910323), Cond.constantLong RJ13 318 (1085102592571150095), Cond.methodLink RX1 162 yX1_newAddressOrNone, Cond.instanceMethod yX1_newAddressOrNone, Cond.selects RX1 yX1_newAddressOrNone yX1_newAddressOrNone, Cond.code yX1_newAddressOrNone cX1_newAddressOrNone 2 (some .int), Cond.methodLink RX1 107 yX1_leadRootsAnew, Cond.instanceMethod yX1_leadRootsAnew, Cond.selects RX1 yX1_leadRootsAnew yX1_leadRootsAnew, Cond.code yX1_leadRootsAnew cX1_leadRootsAnew 2 none, Cond.methodLink RX1 110 yX1_swapSpaces, Cond.instanceMethod yX1_swapSpaces, Cond.selects RX1 yX1_swapSpaces yX1_swapSpaces]
def wsL_law_r10 : List Cond := [Cond.code yX1_swapSpaces cX1_swapSpaces 3 none, Cond.methodLink RL 44 yX2_collect, Cond.instanceMethod yX2_collect, Cond.selects RX2 yX2_collect yX2_collect, Cond.code yX2_collect cX2_collect 5 (some .int), Cond.constant RX2 66 (1000000), Cond.fieldLink RX2 73 "OffsetHeapModel" "lived" "I", Cond.fieldLink RX2 76 "OffsetHeapModel" "collected" "I", Cond.methodLink RX2 70 yX2_measure, Cond.instanceMethod yX2_measure, Cond.selects RX2 yX2_measure yX2_measure, Cond.code yX2_measure cX2_measure 5 none, Cond.methodLink RX2 67 yX2_length, Cond.instanceMethod yX2_length, Cond.selects RX2 yX2_length yX2_length, Cond.code yX2_length cX2_length 2 (some .int), Cond.methodLink RL 45 yX1_word, Cond.instanceMethod yX1_word, Cond.selects RX1 yX1_word yX1_word, Cond.code yX1_word cX1_word 2 (some .int), Cond.methodLink RX1 116 yX1_isWord, Cond.instanceMethod yX1_isWord, Cond.selects RX1 yX1_isWord yX1_isWord, Cond.code yX1_isWord cX1_isWord 2 (some .boolean)]
def wsL_law_r11 : List Cond := [Cond.methodLink RL 49 yX2_word, Cond.instanceMethod yX2_word, Cond.selects RX2 yX2_word yX2_word, Cond.code yX2_word cX2_word 2 (some .int), Cond.methodLink RX2 79 yX2_isWord, Cond.instanceMethod yX2_isWord, Cond.selects RX2 yX2_isWord yX2_isWord, Cond.code yX2_isWord cX2_isWord 2 (some .boolean), Cond.methodLink RL 50 yX1_isObject, Cond.methodLink RL 54 yX2_isObject, Cond.methodLink RL 55 yX1_rootOf, Cond.instanceMethod yX1_rootOf, Cond.selects RX1 yX1_rootOf yX1_rootOf, Cond.code yX1_rootOf cX1_rootOf 2 (some .int), Cond.methodLink RL 58 yX2_rootOf, Cond.instanceMethod yX2_rootOf, Cond.selects RX2 yX2_rootOf yX2_rootOf, Cond.code yX2_rootOf cX2_rootOf 2 (some .int), Cond.methodLink RL 59 yX1_bit, Cond.instanceMethod yX1_bit, Cond.selects RX1 yX1_bit yX1_bit, Cond.code yX1_bit cX1_bit 2 (some .int), Cond.methodLink RL 62 yX2_bit, Cond.instanceMethod yX2_bit]
def wsL_law_r12 : List Cond := [Cond.selects RX2 yX2_bit yX2_bit, Cond.code yX2_bit cX2_bit 2 (some .int), Cond.methodLink RL 63 yX1_offset, Cond.instanceMethod yX1_offset, Cond.selects RX1 yX1_offset yX1_offset, Cond.code yX1_offset cX1_offset 2 (some .int), Cond.methodLink RL 66 yX2_offset, Cond.instanceMethod yX2_offset, Cond.selects RX2 yX2_offset yX2_offset, Cond.code yX2_offset cX2_offset 4 (some .int), Cond.methodLink RX2 82 yX2_blocks, Cond.instanceMethod yX2_blocks, Cond.selects RX2 yX2_blocks yX2_blocks, Cond.code yX2_blocks cX2_blocks 1 (some .int), Cond.methodLink RL 67 yX1_moved, Cond.instanceMethod yX1_moved, Cond.selects RX1 yX1_moved yX1_moved, Cond.code yX1_moved cX1_moved 2 (some .int), Cond.methodLink RL 70 yX2_moved, Cond.instanceMethod yX2_moved, Cond.selects RX2 yX2_moved yX2_moved, Cond.code yX2_moved cX2_moved 2 (some .int), Cond.methodLink RL 71 yX1_reads, Cond.instanceMethod yX1_reads]
def wsL_law_r13 : List Cond := [Cond.selects RX1 yX1_reads yX1_reads, Cond.code yX1_reads cX1_reads 1 (some .int), Cond.methodLink RL 74 yX2_reads, Cond.instanceMethod yX2_reads, Cond.selects RX2 yX2_reads yX2_reads, Cond.code yX2_reads cX2_reads 1 (some .int), Cond.methodLink RL 75 yX1_near, Cond.instanceMethod yX1_near, Cond.selects RX1 yX1_near yX1_near, Cond.code yX1_near cX1_near 2 (some .int), Cond.methodLink RL 78 yX2_near, Cond.instanceMethod yX2_near, Cond.selects RX2 yX2_near yX2_near, Cond.code yX2_near cX2_near 4 (some .int), Cond.methodLink RL 79 yX1_sound, Cond.instanceMethod yX1_sound, Cond.selects RX1 yX1_sound yX1_sound, Cond.code yX1_sound cX1_sound 1 (some .boolean), Cond.methodLink RX1 131 yX1_objectsLieInARow, Cond.instanceMethod yX1_objectsLieInARow, Cond.selects RX1 yX1_objectsLieInARow yX1_objectsLieInARow, Cond.code yX1_objectsLieInARow cX1_objectsLieInARow 3 (some .boolean), Cond.methodLink RX1 135 yX1_rootsLeadToHeaders, Cond.instanceMethod yX1_rootsLeadToHeaders]
def wsL_law_r14 : List Cond := [Cond.selects RX1 yX1_rootsLeadToHeaders yX1_rootsLeadToHeaders, Cond.code yX1_rootsLeadToHeaders cX1_rootsLeadToHeaders 2 (some .boolean), Cond.methodLink RX1 138 yX1_referencesLeadToHeaders, Cond.instanceMethod yX1_referencesLeadToHeaders, Cond.selects RX1 yX1_referencesLeadToHeaders yX1_referencesLeadToHeaders, Cond.code yX1_referencesLeadToHeaders cX1_referencesLeadToHeaders 2 (some .boolean), Cond.methodLink RX1 165 yX1_referencesOfLeadToHeaders, Cond.instanceMethod yX1_referencesOfLeadToHeaders, Cond.selects RX1 yX1_referencesOfLeadToHeaders yX1_referencesOfLeadToHeaders, Cond.code yX1_referencesOfLeadToHeaders cX1_referencesOfLeadToHeaders 4 (some .boolean), Cond.methodLink RX1 141 yX1_newAddressesFollowFromBits, Cond.instanceMethod yX1_newAddressesFollowFromBits, Cond.selects RX1 yX1_newAddressesFollowFromBits yX1_newAddressesFollowFromBits, Cond.code yX1_newAddressesFollowFromBits cX1_newAddressesFollowFromBits 3 (some .boolean), Cond.methodLink RL 83 yX2_sound, Cond.instanceMethod yX2_sound, Cond.selects RX2 yX2_sound yX2_sound, Cond.code yX2_sound cX2_sound 5 (some .boolean), Cond.methodLink RL 84 yX1_count, Cond.instanceMethod yX1_count, Cond.selects RX1 yX1_count yX1_count, Cond.code yX1_count cX1_count 2 (some .int), Cond.methodLink RL 87 yX2_count, Cond.instanceMethod yX2_count]
def wsL_law_r15 : List Cond := [Cond.selects RX2 yX2_count yX2_count, Cond.code yX2_count cX2_count 2 (some .int)]
def wsL_law : List Cond := (wsL_law_r1 ++ (wsL_law_r2 ++ (wsL_law_r3 ++ (wsL_law_r4 ++ (wsL_law_r5 ++ (wsL_law_r6 ++ (wsL_law_r7 ++ (wsL_law_r8 ++ (wsL_law_r9 ++ (wsL_law_r10 ++ (wsL_law_r11 ++ (wsL_law_r12 ++ (wsL_law_r13 ++ (wsL_law_r14 ++ wsL_law_r15)))))))))))))) ++ wsX10 ++ wsX20 ++ wsX00 ++ ([] : List Cond)
set_option maxRecDepth 20000 in
theorem wsL_law_in : ∀ w ∈ wsL_law, w ∈ lw_tbl := fun w h => (goodIn_p wsL_law [284, 35, 38, 41, 44, 47, 52, 289, 112, 115, 118, 121, 124, 128, 337, 340, 132, 136, 140, 144, 348, 344, 353, 357, 148, 361, 365, 152, 155, 369, 159, 163, 167, 171, 174, 178, 182, 186, 190, 193, 197, 201, 205, 212, 216, 220, 373, 377, 382, 224, 228, 386, 390, 233, 394, 237, 398, 241, 402, 406, 245, 410, 249, 414, 253, 418, 257, 261, 265, 269, 273, 277, 422, 281, 426] (by decide +kernel) (by decide +kernel) w h).1
theorem inlX0 : ∀ w ∈ wsX00, w ∈ wsL_law := fun _ h => List.mem_append_left _ (List.mem_append_right _ h)
theorem inX0 : ∀ w ∈ wsX00, w ∈ lw_tbl := fun w h => wsL_law_in w (inlX0 w h)
theorem inlX1 : ∀ w ∈ wsX10, w ∈ wsL_law := fun _ h => List.mem_append_left _ (List.mem_append_left _ (List.mem_append_left _ (List.mem_append_right _ h)))
theorem inX1 : ∀ w ∈ wsX10, w ∈ lw_tbl := fun w h => wsL_law_in w (inlX1 w h)
theorem inlX2 : ∀ w ∈ wsX20, w ∈ wsL_law := fun _ h => List.mem_append_left _ (List.mem_append_left _ (List.mem_append_right _ h))
theorem inX2 : ∀ w ∈ wsX20, w ∈ lw_tbl := fun w h => wsL_law_in w (inlX2 w h)
theorem inJ13 : ∀ w ∈ wsJ130, w ∈ lw_tbl := by decide +kernel
theorem inJ9 : ∀ w ∈ wsJ90, w ∈ lw_tbl := by decide +kernel
theorem inJ7 : ∀ w ∈ wsJ70, w ∈ lw_tbl := by decide +kernel
end
section
theorem dX0_init_0 : decode cX0_init 0 = .ok (.aload_n 0, 1) := by decide +kernel
theorem dX0_init_1 : decode cX0_init 1 = .ok (.invokespecial 1, 3) := by decide +kernel
theorem dX0_init_4 : decode cX0_init 4 = .ok (.aload_n 0, 1) := by decide +kernel
theorem dX0_init_5 : decode cX0_init 5 = .ok (.iload_n 1, 1) := by decide +kernel
theorem dX0_init_6 : decode cX0_init 6 = .ok (.bipush 64, 2) := by decide +kernel
theorem dX0_init_8 : decode cX0_init 8 = .ok (.idiv, 1) := by decide +kernel
theorem dX0_init_9 : decode cX0_init 9 = .ok (.iconst 1, 1) := by decide +kernel
theorem dX0_init_10 : decode cX0_init 10 = .ok (.iadd, 1) := by decide +kernel
theorem dX0_init_11 : decode cX0_init 11 = .ok (.newarray .long, 2) := by decide +kernel
theorem dX0_init_13 : decode cX0_init 13 = .ok (.putfield 7, 3) := by decide +kernel
theorem dX0_init_16 : decode cX0_init 16 = .ok (.return_, 1) := by decide +kernel
theorem dX0_has_0 : decode cX0_has 0 = .ok (.aload_n 0, 1) := by decide +kernel
theorem dX0_has_1 : decode cX0_has 1 = .ok (.getfield 7, 3) := by decide +kernel
theorem dX0_has_4 : decode cX0_has 4 = .ok (.iload_n 1, 1) := by decide +kernel
theorem dX0_has_5 : decode cX0_has 5 = .ok (.bipush 6, 2) := by decide +kernel
theorem dX0_has_7 : decode cX0_has 7 = .ok (.ishr, 1) := by decide +kernel
theorem dX0_has_8 : decode cX0_has 8 = .ok (.laload, 1) := by decide +kernel
theorem dX0_has_9 : decode cX0_has 9 = .ok (.iload_n 1, 1) := by decide +kernel
theorem dX0_has_10 : decode cX0_has 10 = .ok (.bipush 63, 2) := by decide +kernel
theorem dX0_has_12 : decode cX0_has 12 = .ok (.iand, 1) := by decide +kernel
theorem dX0_has_13 : decode cX0_has 13 = .ok (.lushr, 1) := by decide +kernel
theorem dX0_has_14 : decode cX0_has 14 = .ok (.lconst 1, 1) := by decide +kernel
theorem dX0_has_15 : decode cX0_has 15 = .ok (.land, 1) := by decide +kernel
theorem dX0_has_16 : decode cX0_has 16 = .ok (.lconst 0, 1) := by decide +kernel
theorem dX0_has_17 : decode cX0_has 17 = .ok (.lcmp, 1) := by decide +kernel
theorem dX0_has_18 : decode cX0_has 18 = .ok (.ifCond .eq 7, 3) := by decide +kernel
theorem dX0_has_21 : decode cX0_has 21 = .ok (.iconst 1, 1) := by decide +kernel
theorem dX0_has_22 : decode cX0_has 22 = .ok (.goto 4, 3) := by decide +kernel
theorem dX0_has_25 : decode cX0_has 25 = .ok (.iconst 0, 1) := by decide +kernel
theorem dX0_has_26 : decode cX0_has 26 = .ok (.ireturn, 1) := by decide +kernel
theorem dX0_put_0 : decode cX0_put 0 = .ok (.aload_n 0, 1) := by decide +kernel
theorem dX0_put_1 : decode cX0_put 1 = .ok (.getfield 7, 3) := by decide +kernel
theorem dX0_put_4 : decode cX0_put 4 = .ok (.iload_n 1, 1) := by decide +kernel
theorem dX0_put_5 : decode cX0_put 5 = .ok (.bipush 6, 2) := by decide +kernel
theorem dX0_put_7 : decode cX0_put 7 = .ok (.ishr, 1) := by decide +kernel
theorem dX0_put_8 : decode cX0_put 8 = .ok (.dup2, 1) := by decide +kernel
theorem dX0_put_9 : decode cX0_put 9 = .ok (.laload, 1) := by decide +kernel
theorem dX0_put_10 : decode cX0_put 10 = .ok (.lconst 1, 1) := by decide +kernel
theorem dX0_put_11 : decode cX0_put 11 = .ok (.iload_n 1, 1) := by decide +kernel
theorem dX0_put_12 : decode cX0_put 12 = .ok (.bipush 63, 2) := by decide +kernel
theorem dX0_put_14 : decode cX0_put 14 = .ok (.iand, 1) := by decide +kernel
theorem dX0_put_15 : decode cX0_put 15 = .ok (.lshl, 1) := by decide +kernel
theorem dX0_put_16 : decode cX0_put 16 = .ok (.lor, 1) := by decide +kernel
theorem dX0_put_17 : decode cX0_put 17 = .ok (.lastore, 1) := by decide +kernel
theorem dX0_put_18 : decode cX0_put 18 = .ok (.return_, 1) := by decide +kernel
set_option maxRecDepth 20000 in
theorem ggX0_clear_J7_fill_d0a16 : GoodIn wsX0_clear wsJ7_fill_d0a16 := goodIn_r _ [5] (by decide +kernel) (by decide +kernel)
set_option maxRecDepth 20000 in
theorem gX0_clear_J7_fill_d0a16 : GoodIn wsX0_clear (va_wsS RX0 13 yJ7_fill_d0a16 wsJ7_fill_d0a16) := goodIn_app (goodIn_of _ (by decide +kernel)) ggX0_clear_J7_fill_d0a16
theorem dX0_clear_0 : decode cX0_clear 0 = .ok (.aload_n 0, 1) := by decide +kernel
theorem dX0_clear_1 : decode cX0_clear 1 = .ok (.getfield 7, 3) := by decide +kernel
theorem dX0_clear_4 : decode cX0_clear 4 = .ok (.lconst 0, 1) := by decide +kernel
theorem dX0_clear_5 : decode cX0_clear 5 = .ok (.invokestatic 13, 3) := by decide +kernel
theorem dX0_clear_8 : decode cX0_clear 8 = .ok (.return_, 1) := by decide +kernel
set_option maxRecDepth 20000 in
theorem ggX0_between_J13_bitCount_95d88 : GoodIn wsX0_between wsJ13_bitCount_95d88 := goodIn_r _ [6, 7, 8, 9] (by decide +kernel) (by decide +kernel)
set_option maxRecDepth 20000 in
theorem gX0_between_J13_bitCount_95d88 : GoodIn wsX0_between (va_wsS RX0 21 yJ13_bitCount_95d88 wsJ13_bitCount_95d88) := goodIn_app (goodIn_of _ (by decide +kernel)) ggX0_between_J13_bitCount_95d88
theorem dX0_between_0 : decode cX0_between 0 = .ok (.ldc2_w 19, 3) := by decide +kernel
theorem dX0_between_3 : decode cX0_between 3 = .ok (.iload_n 1, 1) := by decide +kernel
theorem dX0_between_4 : decode cX0_between 4 = .ok (.bipush 63, 2) := by decide +kernel
theorem dX0_between_6 : decode cX0_between 6 = .ok (.iand, 1) := by decide +kernel
theorem dX0_between_7 : decode cX0_between 7 = .ok (.lshl, 1) := by decide +kernel
theorem dX0_between_8 : decode cX0_between 8 = .ok (.lstore_n 3, 1) := by decide +kernel
theorem dX0_between_9 : decode cX0_between 9 = .ok (.lconst 1, 1) := by decide +kernel
theorem dX0_between_10 : decode cX0_between 10 = .ok (.iload_n 2, 1) := by decide +kernel
theorem dX0_between_11 : decode cX0_between 11 = .ok (.bipush 63, 2) := by decide +kernel
theorem dX0_between_13 : decode cX0_between 13 = .ok (.iand, 1) := by decide +kernel
theorem dX0_between_14 : decode cX0_between 14 = .ok (.lshl, 1) := by decide +kernel
theorem dX0_between_15 : decode cX0_between 15 = .ok (.lconst 1, 1) := by decide +kernel
theorem dX0_between_16 : decode cX0_between 16 = .ok (.lsub, 1) := by decide +kernel
theorem dX0_between_17 : decode cX0_between 17 = .ok (.lstore 5, 2) := by decide +kernel
theorem dX0_between_19 : decode cX0_between 19 = .ok (.aload_n 0, 1) := by decide +kernel
theorem dX0_between_20 : decode cX0_between 20 = .ok (.getfield 7, 3) := by decide +kernel
theorem dX0_between_23 : decode cX0_between 23 = .ok (.iload_n 2, 1) := by decide +kernel
theorem dX0_between_24 : decode cX0_between 24 = .ok (.bipush 6, 2) := by decide +kernel
theorem dX0_between_26 : decode cX0_between 26 = .ok (.ishr, 1) := by decide +kernel
theorem dX0_between_27 : decode cX0_between 27 = .ok (.laload, 1) := by decide +kernel
theorem dX0_between_28 : decode cX0_between 28 = .ok (.lload_n 3, 1) := by decide +kernel
theorem dX0_between_29 : decode cX0_between 29 = .ok (.land, 1) := by decide +kernel
theorem dX0_between_30 : decode cX0_between 30 = .ok (.lload 5, 2) := by decide +kernel
theorem dX0_between_32 : decode cX0_between 32 = .ok (.land, 1) := by decide +kernel
theorem dX0_between_33 : decode cX0_between 33 = .ok (.invokestatic 21, 3) := by decide +kernel
theorem dX0_between_36 : decode cX0_between 36 = .ok (.ireturn, 1) := by decide +kernel
set_option maxRecDepth 20000 in
theorem ggX1_init_X1_isBlockSize : GoodIn wsX1_init wsX1_isBlockSize := goodIn_r _ [31] (by decide +kernel) (by decide +kernel)
set_option maxRecDepth 20000 in
theorem gX1_init_X1_isBlockSize : GoodIn wsX1_init (va_wsS RX1 22 yX1_isBlockSize wsX1_isBlockSize) := goodIn_app (goodIn_of _ (by decide +kernel)) ggX1_init_X1_isBlockSize
set_option maxRecDepth 20000 in
theorem ggX1_init_X0_init : GoodIn wsX1_init wsX0_init := goodIn_r _ [34, 35, 2, 3, 36, 37, 54] (by decide +kernel) (by decide +kernel)
set_option maxRecDepth 20000 in
theorem gX1_init_X0_init : GoodIn wsX1_init (wsX0_init) := ggX1_init_X0_init
theorem dX1_init_0 : decode cX1_init 0 = .ok (.aload_n 0, 1) := by decide +kernel
theorem dX1_init_1 : decode cX1_init 1 = .ok (.invokespecial 1, 3) := by decide +kernel
theorem dX1_init_4 : decode cX1_init 4 = .ok (.aload_n 0, 1) := by decide +kernel
theorem dX1_init_5 : decode cX1_init 5 = .ok (.bipush 16, 2) := by decide +kernel
theorem dX1_init_7 : decode cX1_init 7 = .ok (.sipush 4000, 3) := by decide +kernel
theorem dX1_init_10 : decode cX1_init 10 = .ok (.iload_n 1, 1) := by decide +kernel
theorem dX1_init_11 : decode cX1_init 11 = .ok (.invokestatic 9, 3) := by decide +kernel
theorem dX1_init_14 : decode cX1_init 14 = .ok (.invokestatic 15, 3) := by decide +kernel
theorem dX1_init_17 : decode cX1_init 17 = .ok (.putfield 18, 3) := by decide +kernel
theorem dX1_init_20 : decode cX1_init 20 = .ok (.aload_n 0, 1) := by decide +kernel
theorem dX1_init_21 : decode cX1_init 21 = .ok (.iload_n 2, 1) := by decide +kernel
theorem dX1_init_22 : decode cX1_init 22 = .ok (.invokestatic 22, 3) := by decide +kernel
theorem dX1_init_25 : decode cX1_init 25 = .ok (.ifCond .eq 7, 3) := by decide +kernel
theorem dX1_init_28 : decode cX1_init 28 = .ok (.iload_n 2, 1) := by decide +kernel
theorem dX1_init_29 : decode cX1_init 29 = .ok (.goto 5, 3) := by decide +kernel
theorem dX1_init_32 : decode cX1_init 32 = .ok (.bipush 32, 2) := by decide +kernel
theorem dX1_init_34 : decode cX1_init 34 = .ok (.putfield 26, 3) := by decide +kernel
theorem dX1_init_37 : decode cX1_init 37 = .ok (.aload_n 0, 1) := by decide +kernel
theorem dX1_init_38 : decode cX1_init 38 = .ok (.aload_n 0, 1) := by decide +kernel
theorem dX1_init_39 : decode cX1_init 39 = .ok (.getfield 18, 3) := by decide +kernel
theorem dX1_init_42 : decode cX1_init 42 = .ok (.aload_n 0, 1) := by decide +kernel
theorem dX1_init_43 : decode cX1_init 43 = .ok (.getfield 26, 3) := by decide +kernel
theorem dX1_init_46 : decode cX1_init 46 = .ok (.idiv, 1) := by decide +kernel
theorem dX1_init_47 : decode cX1_init 47 = .ok (.iconst 1, 1) := by decide +kernel
theorem dX1_init_48 : decode cX1_init 48 = .ok (.iadd, 1) := by decide +kernel
theorem dX1_init_49 : decode cX1_init 49 = .ok (.putfield 29, 3) := by decide +kernel
theorem dX1_init_52 : decode cX1_init 52 = .ok (.aload_n 0, 1) := by decide +kernel
theorem dX1_init_53 : decode cX1_init 53 = .ok (.bipush 8, 2) := by decide +kernel
theorem dX1_init_55 : decode cX1_init 55 = .ok (.newarray .int, 2) := by decide +kernel
theorem dX1_init_57 : decode cX1_init 57 = .ok (.putfield 32, 3) := by decide +kernel
theorem dX1_init_60 : decode cX1_init 60 = .ok (.aload_n 0, 1) := by decide +kernel
theorem dX1_init_61 : decode cX1_init 61 = .ok (.new 36, 3) := by decide +kernel
theorem dX1_init_64 : decode cX1_init 64 = .ok (.dup, 1) := by decide +kernel
theorem dX1_init_65 : decode cX1_init 65 = .ok (.aload_n 0, 1) := by decide +kernel
theorem dX1_init_66 : decode cX1_init 66 = .ok (.getfield 18, 3) := by decide +kernel
theorem dX1_init_69 : decode cX1_init 69 = .ok (.invokespecial 38, 3) := by decide +kernel
theorem dX1_init_72 : decode cX1_init 72 = .ok (.putfield 41, 3) := by decide +kernel
theorem dX1_init_75 : decode cX1_init 75 = .ok (.aload_n 0, 1) := by decide +kernel
theorem dX1_init_76 : decode cX1_init 76 = .ok (.aload_n 0, 1) := by decide +kernel
theorem dX1_init_77 : decode cX1_init 77 = .ok (.getfield 29, 3) := by decide +kernel
theorem dX1_init_80 : decode cX1_init 80 = .ok (.newarray .int, 2) := by decide +kernel
theorem dX1_init_82 : decode cX1_init 82 = .ok (.putfield 45, 3) := by decide +kernel
theorem dX1_init_85 : decode cX1_init 85 = .ok (.aload_n 0, 1) := by decide +kernel
theorem dX1_init_86 : decode cX1_init 86 = .ok (.aload_n 0, 1) := by decide +kernel
theorem dX1_init_87 : decode cX1_init 87 = .ok (.getfield 18, 3) := by decide +kernel
theorem dX1_init_90 : decode cX1_init 90 = .ok (.newarray .int, 2) := by decide +kernel
theorem dX1_init_92 : decode cX1_init 92 = .ok (.putfield 48, 3) := by decide +kernel
theorem dX1_init_95 : decode cX1_init 95 = .ok (.aload_n 0, 1) := by decide +kernel
theorem dX1_init_96 : decode cX1_init 96 = .ok (.new 36, 3) := by decide +kernel
theorem dX1_init_99 : decode cX1_init 99 = .ok (.dup, 1) := by decide +kernel
theorem dX1_init_100 : decode cX1_init 100 = .ok (.aload_n 0, 1) := by decide +kernel
theorem dX1_init_101 : decode cX1_init 101 = .ok (.getfield 18, 3) := by decide +kernel
theorem dX1_init_104 : decode cX1_init 104 = .ok (.invokespecial 38, 3) := by decide +kernel
theorem dX1_init_107 : decode cX1_init 107 = .ok (.putfield 51, 3) := by decide +kernel
theorem dX1_init_110 : decode cX1_init 110 = .ok (.aload_n 0, 1) := by decide +kernel
theorem dX1_init_111 : decode cX1_init 111 = .ok (.aload_n 0, 1) := by decide +kernel
theorem dX1_init_112 : decode cX1_init 112 = .ok (.getfield 18, 3) := by decide +kernel
theorem dX1_init_115 : decode cX1_init 115 = .ok (.iconst 1, 1) := by decide +kernel
theorem dX1_init_116 : decode cX1_init 116 = .ok (.iadd, 1) := by decide +kernel
theorem dX1_init_117 : decode cX1_init 117 = .ok (.newarray .int, 2) := by decide +kernel
theorem dX1_init_119 : decode cX1_init 119 = .ok (.putfield 54, 3) := by decide +kernel
theorem dX1_init_122 : decode cX1_init 122 = .ok (.aload_n 0, 1) := by decide +kernel
theorem dX1_init_123 : decode cX1_init 123 = .ok (.aload_n 0, 1) := by decide +kernel
theorem dX1_init_124 : decode cX1_init 124 = .ok (.getfield 18, 3) := by decide +kernel
theorem dX1_init_127 : decode cX1_init 127 = .ok (.iconst 1, 1) := by decide +kernel
theorem dX1_init_128 : decode cX1_init 128 = .ok (.iadd, 1) := by decide +kernel
theorem dX1_init_129 : decode cX1_init 129 = .ok (.newarray .int, 2) := by decide +kernel
theorem dX1_init_131 : decode cX1_init 131 = .ok (.putfield 57, 3) := by decide +kernel
theorem dX1_init_134 : decode cX1_init 134 = .ok (.aload_n 0, 1) := by decide +kernel
theorem dX1_init_135 : decode cX1_init 135 = .ok (.new 36, 3) := by decide +kernel
theorem dX1_init_138 : decode cX1_init 138 = .ok (.dup, 1) := by decide +kernel
theorem dX1_init_139 : decode cX1_init 139 = .ok (.aload_n 0, 1) := by decide +kernel
theorem dX1_init_140 : decode cX1_init 140 = .ok (.getfield 18, 3) := by decide +kernel
theorem dX1_init_143 : decode cX1_init 143 = .ok (.invokespecial 38, 3) := by decide +kernel
theorem dX1_init_146 : decode cX1_init 146 = .ok (.putfield 60, 3) := by decide +kernel
theorem dX1_init_149 : decode cX1_init 149 = .ok (.aload_n 0, 1) := by decide +kernel
theorem dX1_init_150 : decode cX1_init 150 = .ok (.new 36, 3) := by decide +kernel
theorem dX1_init_153 : decode cX1_init 153 = .ok (.dup, 1) := by decide +kernel
theorem dX1_init_154 : decode cX1_init 154 = .ok (.aload_n 0, 1) := by decide +kernel
theorem dX1_init_155 : decode cX1_init 155 = .ok (.getfield 18, 3) := by decide +kernel
theorem dX1_init_158 : decode cX1_init 158 = .ok (.invokespecial 38, 3) := by decide +kernel
theorem dX1_init_161 : decode cX1_init 161 = .ok (.putfield 63, 3) := by decide +kernel
theorem dX1_init_164 : decode cX1_init 164 = .ok (.aload_n 0, 1) := by decide +kernel
theorem dX1_init_165 : decode cX1_init 165 = .ok (.iconst 1, 1) := by decide +kernel
theorem dX1_init_166 : decode cX1_init 166 = .ok (.putfield 66, 3) := by decide +kernel
theorem dX1_init_169 : decode cX1_init 169 = .ok (.return_, 1) := by decide +kernel
set_option maxRecDepth 20000 in
theorem ggX1_make_X1_headerOf : GoodIn wsX1_make wsX1_headerOf := goodIn_r _ [9] (by decide +kernel) (by decide +kernel)
set_option maxRecDepth 20000 in
theorem gX1_make_X1_headerOf : GoodIn wsX1_make (va_wsS RX1 69 yX1_headerOf wsX1_headerOf) := goodIn_app (goodIn_of _ (by decide +kernel)) ggX1_make_X1_headerOf
set_option maxRecDepth 20000 in
theorem ggX1_make_X1_sizeBy : GoodIn wsX1_make wsX1_sizeBy := goodIn_r _ [12, 13, 14, 8, 15, 16, 17, 18] (by decide +kernel) (by decide +kernel)
set_option maxRecDepth 20000 in
theorem gX1_make_X1_sizeBy : GoodIn wsX1_make (va_wsS RX1 72 yX1_sizeBy wsX1_sizeBy) := goodIn_app (goodIn_of _ (by decide +kernel)) ggX1_make_X1_sizeBy
set_option maxRecDepth 20000 in
theorem ggX1_make_X0_put : GoodIn wsX1_make wsX0_put := goodIn_r _ [23, 24, 41] (by decide +kernel) (by decide +kernel)
set_option maxRecDepth 20000 in
theorem gX1_make_X0_put : GoodIn wsX1_make (wsV RX1 76 RX0 yX0_put wsX0_put) := goodIn_app (goodIn_of _ (by decide +kernel)) ggX1_make_X0_put
theorem dX1_make_0 : decode cX1_make 0 = .ok (.iload_n 1, 1) := by decide +kernel
theorem dX1_make_1 : decode cX1_make 1 = .ok (.ifCond .lt 19, 3) := by decide +kernel
theorem dX1_make_4 : decode cX1_make 4 = .ok (.iload_n 1, 1) := by decide +kernel
theorem dX1_make_5 : decode cX1_make 5 = .ok (.bipush 15, 2) := by decide +kernel
theorem dX1_make_7 : decode cX1_make 7 = .ok (.if_icmp .gt 13, 3) := by decide +kernel
theorem dX1_make_10 : decode cX1_make 10 = .ok (.iload_n 2, 1) := by decide +kernel
theorem dX1_make_11 : decode cX1_make 11 = .ok (.ifCond .lt 9, 3) := by decide +kernel
theorem dX1_make_14 : decode cX1_make 14 = .ok (.iload_n 2, 1) := by decide +kernel
theorem dX1_make_15 : decode cX1_make 15 = .ok (.bipush 100, 2) := by decide +kernel
theorem dX1_make_17 : decode cX1_make 17 = .ok (.if_icmp .le 5, 3) := by decide +kernel
theorem dX1_make_20 : decode cX1_make 20 = .ok (.iconst (-1), 1) := by decide +kernel
theorem dX1_make_21 : decode cX1_make 21 = .ok (.ireturn, 1) := by decide +kernel
theorem dX1_make_22 : decode cX1_make 22 = .ok (.iload_n 1, 1) := by decide +kernel
theorem dX1_make_23 : decode cX1_make 23 = .ok (.iload_n 2, 1) := by decide +kernel
theorem dX1_make_24 : decode cX1_make 24 = .ok (.invokestatic 69, 3) := by decide +kernel
theorem dX1_make_27 : decode cX1_make 27 = .ok (.istore_n 3, 1) := by decide +kernel
theorem dX1_make_28 : decode cX1_make 28 = .ok (.iload_n 3, 1) := by decide +kernel
theorem dX1_make_29 : decode cX1_make 29 = .ok (.invokestatic 72, 3) := by decide +kernel
theorem dX1_make_32 : decode cX1_make 32 = .ok (.aload_n 0, 1) := by decide +kernel
theorem dX1_make_33 : decode cX1_make 33 = .ok (.getfield 18, 3) := by decide +kernel
theorem dX1_make_36 : decode cX1_make 36 = .ok (.iconst 1, 1) := by decide +kernel
theorem dX1_make_37 : decode cX1_make 37 = .ok (.iadd, 1) := by decide +kernel
theorem dX1_make_38 : decode cX1_make 38 = .ok (.aload_n 0, 1) := by decide +kernel
theorem dX1_make_39 : decode cX1_make 39 = .ok (.getfield 66, 3) := by decide +kernel
theorem dX1_make_42 : decode cX1_make 42 = .ok (.isub, 1) := by decide +kernel
theorem dX1_make_43 : decode cX1_make 43 = .ok (.if_icmp .le 5, 3) := by decide +kernel
theorem dX1_make_46 : decode cX1_make 46 = .ok (.iconst 0, 1) := by decide +kernel
theorem dX1_make_47 : decode cX1_make 47 = .ok (.ireturn, 1) := by decide +kernel
theorem dX1_make_48 : decode cX1_make 48 = .ok (.aload_n 0, 1) := by decide +kernel
theorem dX1_make_49 : decode cX1_make 49 = .ok (.getfield 66, 3) := by decide +kernel
theorem dX1_make_52 : decode cX1_make 52 = .ok (.istore 4, 2) := by decide +kernel
theorem dX1_make_54 : decode cX1_make 54 = .ok (.aload_n 0, 1) := by decide +kernel
theorem dX1_make_55 : decode cX1_make 55 = .ok (.getfield 54, 3) := by decide +kernel
theorem dX1_make_58 : decode cX1_make 58 = .ok (.iload 4, 2) := by decide +kernel
theorem dX1_make_60 : decode cX1_make 60 = .ok (.iload_n 3, 1) := by decide +kernel
theorem dX1_make_61 : decode cX1_make 61 = .ok (.iastore, 1) := by decide +kernel
theorem dX1_make_62 : decode cX1_make 62 = .ok (.aload_n 0, 1) := by decide +kernel
theorem dX1_make_63 : decode cX1_make 63 = .ok (.getfield 60, 3) := by decide +kernel
theorem dX1_make_66 : decode cX1_make 66 = .ok (.iload 4, 2) := by decide +kernel
theorem dX1_make_68 : decode cX1_make 68 = .ok (.invokevirtual 76, 3) := by decide +kernel
theorem dX1_make_71 : decode cX1_make 71 = .ok (.aload_n 0, 1) := by decide +kernel
theorem dX1_make_72 : decode cX1_make 72 = .ok (.dup, 1) := by decide +kernel
theorem dX1_make_73 : decode cX1_make 73 = .ok (.getfield 66, 3) := by decide +kernel
theorem dX1_make_76 : decode cX1_make 76 = .ok (.iload_n 3, 1) := by decide +kernel
theorem dX1_make_77 : decode cX1_make 77 = .ok (.invokestatic 72, 3) := by decide +kernel
theorem dX1_make_80 : decode cX1_make 80 = .ok (.iadd, 1) := by decide +kernel
theorem dX1_make_81 : decode cX1_make 81 = .ok (.putfield 66, 3) := by decide +kernel
theorem dX1_make_84 : decode cX1_make 84 = .ok (.aload_n 0, 1) := by decide +kernel
theorem dX1_make_85 : decode cX1_make 85 = .ok (.dup, 1) := by decide +kernel
theorem dX1_make_86 : decode cX1_make 86 = .ok (.getfield 79, 3) := by decide +kernel
theorem dX1_make_89 : decode cX1_make 89 = .ok (.iconst 1, 1) := by decide +kernel
theorem dX1_make_90 : decode cX1_make 90 = .ok (.iadd, 1) := by decide +kernel
theorem dX1_make_91 : decode cX1_make 91 = .ok (.putfield 79, 3) := by decide +kernel
theorem dX1_make_94 : decode cX1_make 94 = .ok (.iload 4, 2) := by decide +kernel
theorem dX1_make_96 : decode cX1_make 96 = .ok (.ireturn, 1) := by decide +kernel
set_option maxRecDepth 20000 in
theorem ggX1_refer_X1_isObject : GoodIn wsX1_refer wsX1_isObject := goodIn_r _ [6, 7, 8, 9, 10, 11, 12, 13, 14, 22, 23, 24, 25, 26, 27, 28, 29, 30, 31, 32, 33, 34, 35, 36, 37, 38] (by decide +kernel) (by decide +kernel)
set_option maxRecDepth 20000 in
theorem gX1_refer_X1_isObject : GoodIn wsX1_refer (wsV RX1 82 RX1 yX1_isObject wsX1_isObject) := goodIn_app (goodIn_of _ (by decide +kernel)) ggX1_refer_X1_isObject
set_option maxRecDepth 20000 in
theorem ggX1_refer_X1_referencesBy : GoodIn wsX1_refer wsX1_referencesBy := goodIn_r _ [17] (by decide +kernel) (by decide +kernel)
set_option maxRecDepth 20000 in
theorem gX1_refer_X1_referencesBy : GoodIn wsX1_refer (va_wsS RX1 85 yX1_referencesBy wsX1_referencesBy) := goodIn_app (goodIn_of _ (by decide +kernel)) ggX1_refer_X1_referencesBy
set_option maxRecDepth 20000 in
theorem ggX1_refer_X1_isObjectOrNone : GoodIn wsX1_refer wsX1_isObjectOrNone := goodIn_r _ [21, 2, 3, 4, 5, 6, 7, 8, 9, 10, 11, 12, 13, 14, 22, 23, 24, 25, 26, 27, 28, 29, 30, 31, 32, 33, 34, 35, 36, 37, 38] (by decide +kernel) (by decide +kernel)
set_option maxRecDepth 20000 in
theorem gX1_refer_X1_isObjectOrNone : GoodIn wsX1_refer (wsV RX1 88 RX1 yX1_isObjectOrNone wsX1_isObjectOrNone) := goodIn_app (goodIn_of _ (by decide +kernel)) ggX1_refer_X1_isObjectOrNone
theorem dX1_refer_0 : decode cX1_refer 0 = .ok (.aload_n 0, 1) := by decide +kernel
theorem dX1_refer_1 : decode cX1_refer 1 = .ok (.iload_n 1, 1) := by decide +kernel
theorem dX1_refer_2 : decode cX1_refer 2 = .ok (.invokevirtual 82, 3) := by decide +kernel
theorem dX1_refer_5 : decode cX1_refer 5 = .ok (.ifCond .eq 28, 3) := by decide +kernel
theorem dX1_refer_8 : decode cX1_refer 8 = .ok (.iload_n 2, 1) := by decide +kernel
theorem dX1_refer_9 : decode cX1_refer 9 = .ok (.ifCond .lt 24, 3) := by decide +kernel
theorem dX1_refer_12 : decode cX1_refer 12 = .ok (.iload_n 2, 1) := by decide +kernel
theorem dX1_refer_13 : decode cX1_refer 13 = .ok (.aload_n 0, 1) := by decide +kernel
theorem dX1_refer_14 : decode cX1_refer 14 = .ok (.getfield 54, 3) := by decide +kernel
theorem dX1_refer_17 : decode cX1_refer 17 = .ok (.iload_n 1, 1) := by decide +kernel
theorem dX1_refer_18 : decode cX1_refer 18 = .ok (.iaload, 1) := by decide +kernel
theorem dX1_refer_19 : decode cX1_refer 19 = .ok (.invokestatic 85, 3) := by decide +kernel
theorem dX1_refer_22 : decode cX1_refer 22 = .ok (.if_icmp .ge 11, 3) := by decide +kernel
theorem dX1_refer_25 : decode cX1_refer 25 = .ok (.aload_n 0, 1) := by decide +kernel
theorem dX1_refer_26 : decode cX1_refer 26 = .ok (.iload_n 3, 1) := by decide +kernel
theorem dX1_refer_27 : decode cX1_refer 27 = .ok (.invokevirtual 88, 3) := by decide +kernel
theorem dX1_refer_30 : decode cX1_refer 30 = .ok (.ifCond .ne 5, 3) := by decide +kernel
theorem dX1_refer_33 : decode cX1_refer 33 = .ok (.iconst 0, 1) := by decide +kernel
theorem dX1_refer_34 : decode cX1_refer 34 = .ok (.ireturn, 1) := by decide +kernel
theorem dX1_refer_35 : decode cX1_refer 35 = .ok (.aload_n 0, 1) := by decide +kernel
theorem dX1_refer_36 : decode cX1_refer 36 = .ok (.getfield 54, 3) := by decide +kernel
theorem dX1_refer_39 : decode cX1_refer 39 = .ok (.iload_n 1, 1) := by decide +kernel
theorem dX1_refer_40 : decode cX1_refer 40 = .ok (.iconst 1, 1) := by decide +kernel
theorem dX1_refer_41 : decode cX1_refer 41 = .ok (.iadd, 1) := by decide +kernel
theorem dX1_refer_42 : decode cX1_refer 42 = .ok (.iload_n 2, 1) := by decide +kernel
theorem dX1_refer_43 : decode cX1_refer 43 = .ok (.iadd, 1) := by decide +kernel
theorem dX1_refer_44 : decode cX1_refer 44 = .ok (.iload_n 3, 1) := by decide +kernel
theorem dX1_refer_45 : decode cX1_refer 45 = .ok (.iastore, 1) := by decide +kernel
theorem dX1_refer_46 : decode cX1_refer 46 = .ok (.iconst 1, 1) := by decide +kernel
theorem dX1_refer_47 : decode cX1_refer 47 = .ok (.ireturn, 1) := by decide +kernel
set_option maxRecDepth 20000 in
theorem ggX1_set_X1_isObject : GoodIn wsX1_set wsX1_isObject := goodIn_r _ [6, 7, 8, 9, 10, 11, 12, 13, 14, 21, 22, 23, 24, 25, 26, 27, 28, 29, 30, 31, 32, 33, 34, 35, 36, 37] (by decide +kernel) (by decide +kernel)
set_option maxRecDepth 20000 in
theorem gX1_set_X1_isObject : GoodIn wsX1_set (wsV RX1 82 RX1 yX1_isObject wsX1_isObject) := goodIn_app (goodIn_of _ (by decide +kernel)) ggX1_set_X1_isObject
set_option maxRecDepth 20000 in
theorem ggX1_set_X1_plainBy : GoodIn wsX1_set wsX1_plainBy := goodIn_r _ [17] (by decide +kernel) (by decide +kernel)
set_option maxRecDepth 20000 in
theorem gX1_set_X1_plainBy : GoodIn wsX1_set (va_wsS RX1 91 yX1_plainBy wsX1_plainBy) := goodIn_app (goodIn_of _ (by decide +kernel)) ggX1_set_X1_plainBy
set_option maxRecDepth 20000 in
theorem ggX1_set_X1_referencesBy : GoodIn wsX1_set wsX1_referencesBy := goodIn_r _ [20] (by decide +kernel) (by decide +kernel)
set_option maxRecDepth 20000 in
theorem gX1_set_X1_referencesBy : GoodIn wsX1_set (va_wsS RX1 85 yX1_referencesBy wsX1_referencesBy) := goodIn_app (goodIn_of _ (by decide +kernel)) ggX1_set_X1_referencesBy
theorem dX1_set_0 : decode cX1_set 0 = .ok (.aload_n 0, 1) := by decide +kernel
theorem dX1_set_1 : decode cX1_set 1 = .ok (.iload_n 1, 1) := by decide +kernel
theorem dX1_set_2 : decode cX1_set 2 = .ok (.invokevirtual 82, 3) := by decide +kernel
theorem dX1_set_5 : decode cX1_set 5 = .ok (.ifCond .eq 20, 3) := by decide +kernel
theorem dX1_set_8 : decode cX1_set 8 = .ok (.iload_n 2, 1) := by decide +kernel
theorem dX1_set_9 : decode cX1_set 9 = .ok (.ifCond .lt 16, 3) := by decide +kernel
theorem dX1_set_12 : decode cX1_set 12 = .ok (.iload_n 2, 1) := by decide +kernel
theorem dX1_set_13 : decode cX1_set 13 = .ok (.aload_n 0, 1) := by decide +kernel
theorem dX1_set_14 : decode cX1_set 14 = .ok (.getfield 54, 3) := by decide +kernel
theorem dX1_set_17 : decode cX1_set 17 = .ok (.iload_n 1, 1) := by decide +kernel
theorem dX1_set_18 : decode cX1_set 18 = .ok (.iaload, 1) := by decide +kernel
theorem dX1_set_19 : decode cX1_set 19 = .ok (.invokestatic 91, 3) := by decide +kernel
theorem dX1_set_22 : decode cX1_set 22 = .ok (.if_icmp .lt 5, 3) := by decide +kernel
theorem dX1_set_25 : decode cX1_set 25 = .ok (.iconst 0, 1) := by decide +kernel
theorem dX1_set_26 : decode cX1_set 26 = .ok (.ireturn, 1) := by decide +kernel
theorem dX1_set_27 : decode cX1_set 27 = .ok (.aload_n 0, 1) := by decide +kernel
theorem dX1_set_28 : decode cX1_set 28 = .ok (.getfield 54, 3) := by decide +kernel
theorem dX1_set_31 : decode cX1_set 31 = .ok (.iload_n 1, 1) := by decide +kernel
theorem dX1_set_32 : decode cX1_set 32 = .ok (.iconst 1, 1) := by decide +kernel
theorem dX1_set_33 : decode cX1_set 33 = .ok (.iadd, 1) := by decide +kernel
theorem dX1_set_34 : decode cX1_set 34 = .ok (.aload_n 0, 1) := by decide +kernel
theorem dX1_set_35 : decode cX1_set 35 = .ok (.getfield 54, 3) := by decide +kernel
theorem dX1_set_38 : decode cX1_set 38 = .ok (.iload_n 1, 1) := by decide +kernel
theorem dX1_set_39 : decode cX1_set 39 = .ok (.iaload, 1) := by decide +kernel
theorem dX1_set_40 : decode cX1_set 40 = .ok (.invokestatic 85, 3) := by decide +kernel
theorem dX1_set_43 : decode cX1_set 43 = .ok (.iadd, 1) := by decide +kernel
theorem dX1_set_44 : decode cX1_set 44 = .ok (.iload_n 2, 1) := by decide +kernel
theorem dX1_set_45 : decode cX1_set 45 = .ok (.iadd, 1) := by decide +kernel
theorem dX1_set_46 : decode cX1_set 46 = .ok (.iload_n 3, 1) := by decide +kernel
theorem dX1_set_47 : decode cX1_set 47 = .ok (.iastore, 1) := by decide +kernel
theorem dX1_set_48 : decode cX1_set 48 = .ok (.iconst 1, 1) := by decide +kernel
theorem dX1_set_49 : decode cX1_set 49 = .ok (.ireturn, 1) := by decide +kernel
set_option maxRecDepth 20000 in
theorem ggX1_root_X1_isRoot : GoodIn wsX1_root wsX1_isRoot := goodIn_r _ [5] (by decide +kernel) (by decide +kernel)
set_option maxRecDepth 20000 in
theorem gX1_root_X1_isRoot : GoodIn wsX1_root (va_wsS RX1 94 yX1_isRoot wsX1_isRoot) := goodIn_app (goodIn_of _ (by decide +kernel)) ggX1_root_X1_isRoot
set_option maxRecDepth 20000 in
theorem ggX1_root_X1_isObjectOrNone : GoodIn wsX1_root wsX1_isObjectOrNone := goodIn_r _ [9, 10, 11, 12, 4, 13, 14, 15, 16, 17, 18, 19, 20, 21, 22, 23, 24, 25, 26, 27, 28, 29, 30, 31, 32, 33, 34, 35, 36, 37, 38] (by decide +kernel) (by decide +kernel)
set_option maxRecDepth 20000 in
theorem gX1_root_X1_isObjectOrNone : GoodIn wsX1_root (wsV RX1 88 RX1 yX1_isObjectOrNone wsX1_isObjectOrNone) := goodIn_app (goodIn_of _ (by decide +kernel)) ggX1_root_X1_isObjectOrNone
theorem dX1_root_0 : decode cX1_root 0 = .ok (.iload_n 1, 1) := by decide +kernel
theorem dX1_root_1 : decode cX1_root 1 = .ok (.invokestatic 94, 3) := by decide +kernel
theorem dX1_root_4 : decode cX1_root 4 = .ok (.ifCond .eq 11, 3) := by decide +kernel
theorem dX1_root_7 : decode cX1_root 7 = .ok (.aload_n 0, 1) := by decide +kernel
theorem dX1_root_8 : decode cX1_root 8 = .ok (.iload_n 2, 1) := by decide +kernel
theorem dX1_root_9 : decode cX1_root 9 = .ok (.invokevirtual 88, 3) := by decide +kernel
theorem dX1_root_12 : decode cX1_root 12 = .ok (.ifCond .ne 5, 3) := by decide +kernel
theorem dX1_root_15 : decode cX1_root 15 = .ok (.iconst 0, 1) := by decide +kernel
theorem dX1_root_16 : decode cX1_root 16 = .ok (.ireturn, 1) := by decide +kernel
theorem dX1_root_17 : decode cX1_root 17 = .ok (.aload_n 0, 1) := by decide +kernel
theorem dX1_root_18 : decode cX1_root 18 = .ok (.getfield 32, 3) := by decide +kernel
theorem dX1_root_21 : decode cX1_root 21 = .ok (.iload_n 1, 1) := by decide +kernel
theorem dX1_root_22 : decode cX1_root 22 = .ok (.iload_n 2, 1) := by decide +kernel
theorem dX1_root_23 : decode cX1_root 23 = .ok (.iastore, 1) := by decide +kernel
theorem dX1_root_24 : decode cX1_root 24 = .ok (.iconst 1, 1) := by decide +kernel
theorem dX1_root_25 : decode cX1_root 25 = .ok (.ireturn, 1) := by decide +kernel
set_option maxRecDepth 20000 in
theorem ggX1_collect_X1_markLiving : GoodIn wsX1_collect wsX1_markLiving := goodIn_r _ [7, 8, 9, 10, 11, 12, 13, 14, 6, 15, 16, 17, 18, 19, 20, 21, 22, 23, 24, 25, 26, 27, 28, 29, 30, 31, 32, 33, 34, 35, 36, 37, 38, 39, 40, 41, 42, 43, 44, 45, 46, 47, 48, 49, 50, 51, 52, 99, 100, 101, 102, 103, 104, 105, 106, 107, 108, 109, 110, 111, 112, 113, 114, 115] (by decide +kernel) (by decide +kernel)
set_option maxRecDepth 20000 in
theorem gX1_collect_X1_markLiving : GoodIn wsX1_collect (wsV RX1 97 RX1 yX1_markLiving wsX1_markLiving) := goodIn_app (goodIn_of _ (by decide +kernel)) ggX1_collect_X1_markLiving
set_option maxRecDepth 20000 in
theorem ggX1_collect_X1_fillOffsets : GoodIn wsX1_collect wsX1_fillOffsets := goodIn_r _ [56, 8, 57, 58, 9, 32, 33, 34, 21, 35, 23, 99, 100, 101, 102, 103, 104, 105, 106, 107, 108, 109, 110, 111, 112, 113, 114, 115] (by decide +kernel) (by decide +kernel)
set_option maxRecDepth 20000 in
theorem gX1_collect_X1_fillOffsets : GoodIn wsX1_collect (wsV RX1 100 RX1 yX1_fillOffsets wsX1_fillOffsets) := goodIn_app (goodIn_of _ (by decide +kernel)) ggX1_collect_X1_fillOffsets
set_option maxRecDepth 20000 in
theorem ggX1_collect_X1_copyLiving : GoodIn wsX1_collect wsX1_copyLiving := goodIn_r _ [62, 63, 64, 65, 66, 1, 9, 11, 67, 68, 26, 69, 18, 19, 20, 21, 22, 23, 24, 25, 27, 32, 33, 34, 35, 70, 71, 72, 6, 73, 57, 58, 74, 75, 76, 77, 78, 79, 80, 81, 82, 83, 84, 85, 86, 87, 88, 89, 44, 45, 46, 50, 51, 52, 36, 37, 38, 39, 99, 100, 101, 102, 103, 104, 105, 106, 107, 108, 109, 110, 111, 112, 113, 114, 115] (by decide +kernel) (by decide +kernel)
set_option maxRecDepth 20000 in
theorem gX1_collect_X1_copyLiving : GoodIn wsX1_collect (wsV RX1 104 RX1 yX1_copyLiving wsX1_copyLiving) := goodIn_app (goodIn_of _ (by decide +kernel)) ggX1_collect_X1_copyLiving
set_option maxRecDepth 20000 in
theorem ggX1_collect_X1_leadRootsAnew : GoodIn wsX1_collect wsX1_leadRootsAnew := goodIn_r _ [93, 17, 86, 87, 88, 6, 89, 70, 71, 72, 73, 57, 58, 9, 74, 75, 76, 21, 77, 78, 23, 79, 80, 81, 82, 83, 84, 85, 99, 100, 101, 102, 103, 104, 105, 106, 107, 108, 109, 110, 111, 112, 113, 114, 115] (by decide +kernel) (by decide +kernel)
set_option maxRecDepth 20000 in
theorem gX1_collect_X1_leadRootsAnew : GoodIn wsX1_collect (wsV RX1 107 RX1 yX1_leadRootsAnew wsX1_leadRootsAnew) := goodIn_app (goodIn_of _ (by decide +kernel)) ggX1_collect_X1_leadRootsAnew
set_option maxRecDepth 20000 in
theorem ggX1_collect_X1_swapSpaces : GoodIn wsX1_collect wsX1_swapSpaces := goodIn_r _ [97, 11, 63, 98, 64, 99, 100, 101, 102, 103, 104, 105, 106, 107, 108, 109, 110, 111, 112, 113, 114] (by decide +kernel) (by decide +kernel)
set_option maxRecDepth 20000 in
theorem gX1_collect_X1_swapSpaces : GoodIn wsX1_collect (wsV RX1 110 RX1 yX1_swapSpaces wsX1_swapSpaces) := goodIn_app (goodIn_of _ (by decide +kernel)) ggX1_collect_X1_swapSpaces
theorem dX1_collect_0 : decode cX1_collect 0 = .ok (.aload_n 0, 1) := by decide +kernel
theorem dX1_collect_1 : decode cX1_collect 1 = .ok (.invokevirtual 97, 3) := by decide +kernel
theorem dX1_collect_4 : decode cX1_collect 4 = .ok (.aload_n 0, 1) := by decide +kernel
theorem dX1_collect_5 : decode cX1_collect 5 = .ok (.invokevirtual 100, 3) := by decide +kernel
theorem dX1_collect_8 : decode cX1_collect 8 = .ok (.istore_n 1, 1) := by decide +kernel
theorem dX1_collect_9 : decode cX1_collect 9 = .ok (.aload_n 0, 1) := by decide +kernel
theorem dX1_collect_10 : decode cX1_collect 10 = .ok (.invokevirtual 104, 3) := by decide +kernel
theorem dX1_collect_13 : decode cX1_collect 13 = .ok (.aload_n 0, 1) := by decide +kernel
theorem dX1_collect_14 : decode cX1_collect 14 = .ok (.invokevirtual 107, 3) := by decide +kernel
theorem dX1_collect_17 : decode cX1_collect 17 = .ok (.aload_n 0, 1) := by decide +kernel
theorem dX1_collect_18 : decode cX1_collect 18 = .ok (.invokevirtual 110, 3) := by decide +kernel
theorem dX1_collect_21 : decode cX1_collect 21 = .ok (.aload_n 0, 1) := by decide +kernel
theorem dX1_collect_22 : decode cX1_collect 22 = .ok (.iconst 1, 1) := by decide +kernel
theorem dX1_collect_23 : decode cX1_collect 23 = .ok (.iload_n 1, 1) := by decide +kernel
theorem dX1_collect_24 : decode cX1_collect 24 = .ok (.iadd, 1) := by decide +kernel
theorem dX1_collect_25 : decode cX1_collect 25 = .ok (.putfield 66, 3) := by decide +kernel
theorem dX1_collect_28 : decode cX1_collect 28 = .ok (.aload_n 0, 1) := by decide +kernel
theorem dX1_collect_29 : decode cX1_collect 29 = .ok (.dup, 1) := by decide +kernel
theorem dX1_collect_30 : decode cX1_collect 30 = .ok (.getfield 113, 3) := by decide +kernel
theorem dX1_collect_33 : decode cX1_collect 33 = .ok (.iconst 1, 1) := by decide +kernel
theorem dX1_collect_34 : decode cX1_collect 34 = .ok (.iadd, 1) := by decide +kernel
theorem dX1_collect_35 : decode cX1_collect 35 = .ok (.putfield 113, 3) := by decide +kernel
theorem dX1_collect_38 : decode cX1_collect 38 = .ok (.iload_n 1, 1) := by decide +kernel
theorem dX1_collect_39 : decode cX1_collect 39 = .ok (.ireturn, 1) := by decide +kernel
set_option maxRecDepth 20000 in
theorem ggX1_word_X1_isWord : GoodIn wsX1_word wsX1_isWord := goodIn_r _ [6, 7, 8, 9, 10, 11, 12, 13, 14, 15, 16, 17, 18, 19, 20, 21, 22, 23] (by decide +kernel) (by decide +kernel)
set_option maxRecDepth 20000 in
theorem gX1_word_X1_isWord : GoodIn wsX1_word (wsV RX1 116 RX1 yX1_isWord wsX1_isWord) := goodIn_app (goodIn_of _ (by decide +kernel)) ggX1_word_X1_isWord
theorem dX1_word_0 : decode cX1_word 0 = .ok (.aload_n 0, 1) := by decide +kernel
theorem dX1_word_1 : decode cX1_word 1 = .ok (.iload_n 1, 1) := by decide +kernel
theorem dX1_word_2 : decode cX1_word 2 = .ok (.invokevirtual 116, 3) := by decide +kernel
theorem dX1_word_5 : decode cX1_word 5 = .ok (.ifCond .eq 12, 3) := by decide +kernel
theorem dX1_word_8 : decode cX1_word 8 = .ok (.aload_n 0, 1) := by decide +kernel
theorem dX1_word_9 : decode cX1_word 9 = .ok (.getfield 54, 3) := by decide +kernel
theorem dX1_word_12 : decode cX1_word 12 = .ok (.iload_n 1, 1) := by decide +kernel
theorem dX1_word_13 : decode cX1_word 13 = .ok (.iaload, 1) := by decide +kernel
theorem dX1_word_14 : decode cX1_word 14 = .ok (.goto 4, 3) := by decide +kernel
theorem dX1_word_17 : decode cX1_word 17 = .ok (.iconst (-1), 1) := by decide +kernel
theorem dX1_word_18 : decode cX1_word 18 = .ok (.ireturn, 1) := by decide +kernel
set_option maxRecDepth 20000 in
theorem ggX1_isObject_X0_has : GoodIn wsX1_isObject wsX0_has := goodIn_r _ [7, 8, 25] (by decide +kernel) (by decide +kernel)
set_option maxRecDepth 20000 in
theorem gX1_isObject_X0_has : GoodIn wsX1_isObject (wsV RX1 119 RX0 yX0_has wsX0_has) := goodIn_app (goodIn_of _ (by decide +kernel)) ggX1_isObject_X0_has
theorem dX1_isObject_0 : decode cX1_isObject 0 = .ok (.iload_n 1, 1) := by decide +kernel
theorem dX1_isObject_1 : decode cX1_isObject 1 = .ok (.iconst 1, 1) := by decide +kernel
theorem dX1_isObject_2 : decode cX1_isObject 2 = .ok (.if_icmp .lt 26, 3) := by decide +kernel
theorem dX1_isObject_5 : decode cX1_isObject 5 = .ok (.iload_n 1, 1) := by decide +kernel
theorem dX1_isObject_6 : decode cX1_isObject 6 = .ok (.aload_n 0, 1) := by decide +kernel
theorem dX1_isObject_7 : decode cX1_isObject 7 = .ok (.getfield 66, 3) := by decide +kernel
theorem dX1_isObject_10 : decode cX1_isObject 10 = .ok (.if_icmp .ge 18, 3) := by decide +kernel
theorem dX1_isObject_13 : decode cX1_isObject 13 = .ok (.aload_n 0, 1) := by decide +kernel
theorem dX1_isObject_14 : decode cX1_isObject 14 = .ok (.getfield 60, 3) := by decide +kernel
theorem dX1_isObject_17 : decode cX1_isObject 17 = .ok (.iload_n 1, 1) := by decide +kernel
theorem dX1_isObject_18 : decode cX1_isObject 18 = .ok (.invokevirtual 119, 3) := by decide +kernel
theorem dX1_isObject_21 : decode cX1_isObject 21 = .ok (.ifCond .eq 7, 3) := by decide +kernel
theorem dX1_isObject_24 : decode cX1_isObject 24 = .ok (.iconst 1, 1) := by decide +kernel
theorem dX1_isObject_25 : decode cX1_isObject 25 = .ok (.goto 4, 3) := by decide +kernel
theorem dX1_isObject_28 : decode cX1_isObject 28 = .ok (.iconst 0, 1) := by decide +kernel
theorem dX1_isObject_29 : decode cX1_isObject 29 = .ok (.ireturn, 1) := by decide +kernel
set_option maxRecDepth 20000 in
theorem ggX1_rootOf_X1_isRoot : GoodIn wsX1_rootOf wsX1_isRoot := goodIn_r _ [5] (by decide +kernel) (by decide +kernel)
set_option maxRecDepth 20000 in
theorem gX1_rootOf_X1_isRoot : GoodIn wsX1_rootOf (va_wsS RX1 94 yX1_isRoot wsX1_isRoot) := goodIn_app (goodIn_of _ (by decide +kernel)) ggX1_rootOf_X1_isRoot
theorem dX1_rootOf_0 : decode cX1_rootOf 0 = .ok (.iload_n 1, 1) := by decide +kernel
theorem dX1_rootOf_1 : decode cX1_rootOf 1 = .ok (.invokestatic 94, 3) := by decide +kernel
theorem dX1_rootOf_4 : decode cX1_rootOf 4 = .ok (.ifCond .eq 12, 3) := by decide +kernel
theorem dX1_rootOf_7 : decode cX1_rootOf 7 = .ok (.aload_n 0, 1) := by decide +kernel
theorem dX1_rootOf_8 : decode cX1_rootOf 8 = .ok (.getfield 32, 3) := by decide +kernel
theorem dX1_rootOf_11 : decode cX1_rootOf 11 = .ok (.iload_n 1, 1) := by decide +kernel
theorem dX1_rootOf_12 : decode cX1_rootOf 12 = .ok (.iaload, 1) := by decide +kernel
theorem dX1_rootOf_13 : decode cX1_rootOf 13 = .ok (.goto 4, 3) := by decide +kernel
theorem dX1_rootOf_16 : decode cX1_rootOf 16 = .ok (.iconst (-1), 1) := by decide +kernel
theorem dX1_rootOf_17 : decode cX1_rootOf 17 = .ok (.ireturn, 1) := by decide +kernel
set_option maxRecDepth 20000 in
theorem ggX1_bit_X1_isWord : GoodIn wsX1_bit wsX1_isWord := goodIn_r _ [6, 7, 14, 15, 16, 17, 18, 19, 20, 21, 22, 23, 24, 25, 26, 27, 28, 29] (by decide +kernel) (by decide +kernel)
set_option maxRecDepth 20000 in
theorem gX1_bit_X1_isWord : GoodIn wsX1_bit (wsV RX1 116 RX1 yX1_isWord wsX1_isWord) := goodIn_app (goodIn_of _ (by decide +kernel)) ggX1_bit_X1_isWord
set_option maxRecDepth 20000 in
theorem ggX1_bit_X0_has : GoodIn wsX1_bit wsX0_has := goodIn_r _ [12, 13, 30] (by decide +kernel) (by decide +kernel)
set_option maxRecDepth 20000 in
theorem gX1_bit_X0_has : GoodIn wsX1_bit (wsV RX1 119 RX0 yX0_has wsX0_has) := goodIn_app (goodIn_of _ (by decide +kernel)) ggX1_bit_X0_has
theorem dX1_bit_0 : decode cX1_bit 0 = .ok (.aload_n 0, 1) := by decide +kernel
theorem dX1_bit_1 : decode cX1_bit 1 = .ok (.iload_n 1, 1) := by decide +kernel
theorem dX1_bit_2 : decode cX1_bit 2 = .ok (.invokevirtual 116, 3) := by decide +kernel
theorem dX1_bit_5 : decode cX1_bit 5 = .ok (.ifCond .ne 5, 3) := by decide +kernel
theorem dX1_bit_8 : decode cX1_bit 8 = .ok (.iconst (-1), 1) := by decide +kernel
theorem dX1_bit_9 : decode cX1_bit 9 = .ok (.ireturn, 1) := by decide +kernel
theorem dX1_bit_10 : decode cX1_bit 10 = .ok (.aload_n 0, 1) := by decide +kernel
theorem dX1_bit_11 : decode cX1_bit 11 = .ok (.getfield 41, 3) := by decide +kernel
theorem dX1_bit_14 : decode cX1_bit 14 = .ok (.iload_n 1, 1) := by decide +kernel
theorem dX1_bit_15 : decode cX1_bit 15 = .ok (.invokevirtual 119, 3) := by decide +kernel
theorem dX1_bit_18 : decode cX1_bit 18 = .ok (.ifCond .eq 7, 3) := by decide +kernel
theorem dX1_bit_21 : decode cX1_bit 21 = .ok (.iconst 1, 1) := by decide +kernel
theorem dX1_bit_22 : decode cX1_bit 22 = .ok (.goto 4, 3) := by decide +kernel
theorem dX1_bit_25 : decode cX1_bit 25 = .ok (.iconst 0, 1) := by decide +kernel
theorem dX1_bit_26 : decode cX1_bit 26 = .ok (.ireturn, 1) := by decide +kernel
theorem dX1_offset_0 : decode cX1_offset 0 = .ok (.iload_n 1, 1) := by decide +kernel
theorem dX1_offset_1 : decode cX1_offset 1 = .ok (.ifCond .lt 20, 3) := by decide +kernel
theorem dX1_offset_4 : decode cX1_offset 4 = .ok (.iload_n 1, 1) := by decide +kernel
theorem dX1_offset_5 : decode cX1_offset 5 = .ok (.aload_n 0, 1) := by decide +kernel
theorem dX1_offset_6 : decode cX1_offset 6 = .ok (.getfield 29, 3) := by decide +kernel
theorem dX1_offset_9 : decode cX1_offset 9 = .ok (.if_icmp .ge 12, 3) := by decide +kernel
theorem dX1_offset_12 : decode cX1_offset 12 = .ok (.aload_n 0, 1) := by decide +kernel
theorem dX1_offset_13 : decode cX1_offset 13 = .ok (.getfield 45, 3) := by decide +kernel
theorem dX1_offset_16 : decode cX1_offset 16 = .ok (.iload_n 1, 1) := by decide +kernel
theorem dX1_offset_17 : decode cX1_offset 17 = .ok (.iaload, 1) := by decide +kernel
theorem dX1_offset_18 : decode cX1_offset 18 = .ok (.goto 4, 3) := by decide +kernel
theorem dX1_offset_21 : decode cX1_offset 21 = .ok (.iconst (-1), 1) := by decide +kernel
theorem dX1_offset_22 : decode cX1_offset 22 = .ok (.ireturn, 1) := by decide +kernel
set_option maxRecDepth 20000 in
theorem ggX1_moved_X1_isWord : GoodIn wsX1_moved wsX1_isWord := goodIn_r _ [6, 7, 32, 33, 34, 35, 36, 37, 38, 39, 40, 41, 42, 43, 44, 45, 46, 47] (by decide +kernel) (by decide +kernel)
set_option maxRecDepth 20000 in
theorem gX1_moved_X1_isWord : GoodIn wsX1_moved (wsV RX1 116 RX1 yX1_isWord wsX1_isWord) := goodIn_app (goodIn_of _ (by decide +kernel)) ggX1_moved_X1_isWord
set_option maxRecDepth 20000 in
theorem ggX1_moved_X0_has : GoodIn wsX1_moved wsX0_has := goodIn_r _ [12, 13, 48] (by decide +kernel) (by decide +kernel)
set_option maxRecDepth 20000 in
theorem gX1_moved_X0_has : GoodIn wsX1_moved (wsV RX1 119 RX0 yX0_has wsX0_has) := goodIn_app (goodIn_of _ (by decide +kernel)) ggX1_moved_X0_has
set_option maxRecDepth 20000 in
theorem ggX1_moved_X1_newAddress : GoodIn wsX1_moved wsX1_newAddress := goodIn_r _ [17, 18, 19, 1, 20, 21, 22, 11, 23, 24, 13, 25, 26, 27, 28, 29, 30, 31, 32, 33, 34, 35, 36, 37, 38, 39, 40, 41, 42, 43, 44, 45, 46, 47, 48] (by decide +kernel) (by decide +kernel)
set_option maxRecDepth 20000 in
theorem gX1_moved_X1_newAddress : GoodIn wsX1_moved (wsV RX1 122 RX1 yX1_newAddress wsX1_newAddress) := goodIn_app (goodIn_of _ (by decide +kernel)) ggX1_moved_X1_newAddress
theorem dX1_moved_0 : decode cX1_moved 0 = .ok (.aload_n 0, 1) := by decide +kernel
theorem dX1_moved_1 : decode cX1_moved 1 = .ok (.iload_n 1, 1) := by decide +kernel
theorem dX1_moved_2 : decode cX1_moved 2 = .ok (.invokevirtual 116, 3) := by decide +kernel
theorem dX1_moved_5 : decode cX1_moved 5 = .ok (.ifCond .ne 5, 3) := by decide +kernel
theorem dX1_moved_8 : decode cX1_moved 8 = .ok (.iconst (-1), 1) := by decide +kernel
theorem dX1_moved_9 : decode cX1_moved 9 = .ok (.ireturn, 1) := by decide +kernel
theorem dX1_moved_10 : decode cX1_moved 10 = .ok (.aload_n 0, 1) := by decide +kernel
theorem dX1_moved_11 : decode cX1_moved 11 = .ok (.getfield 41, 3) := by decide +kernel
theorem dX1_moved_14 : decode cX1_moved 14 = .ok (.iload_n 1, 1) := by decide +kernel
theorem dX1_moved_15 : decode cX1_moved 15 = .ok (.invokevirtual 119, 3) := by decide +kernel
theorem dX1_moved_18 : decode cX1_moved 18 = .ok (.ifCond .eq 11, 3) := by decide +kernel
theorem dX1_moved_21 : decode cX1_moved 21 = .ok (.aload_n 0, 1) := by decide +kernel
theorem dX1_moved_22 : decode cX1_moved 22 = .ok (.iload_n 1, 1) := by decide +kernel
theorem dX1_moved_23 : decode cX1_moved 23 = .ok (.invokevirtual 122, 3) := by decide +kernel
theorem dX1_moved_26 : decode cX1_moved 26 = .ok (.goto 4, 3) := by decide +kernel
theorem dX1_moved_29 : decode cX1_moved 29 = .ok (.iconst 0, 1) := by decide +kernel
theorem dX1_moved_30 : decode cX1_moved 30 = .ok (.ireturn, 1) := by decide +kernel
theorem dX1_reads_0 : decode cX1_reads 0 = .ok (.aload_n 0, 1) := by decide +kernel
theorem dX1_reads_1 : decode cX1_reads 1 = .ok (.getfield 125, 3) := by decide +kernel
theorem dX1_reads_4 : decode cX1_reads 4 = .ok (.ireturn, 1) := by decide +kernel
set_option maxRecDepth 20000 in
theorem ggX1_near_X1_findWithin : GoodIn wsX1_near wsX1_findWithin := goodIn_r _ [5, 6, 7, 8, 9, 10, 11, 12, 13, 14, 15, 16, 17, 18, 19, 20, 21, 4, 22, 23, 24, 25, 26, 27, 28, 29, 30, 31, 32, 33, 34, 35, 36, 37, 38, 39, 40, 41, 42, 43, 44, 45, 46, 47, 48, 49, 50, 51, 52, 53, 54, 55] (by decide +kernel) (by decide +kernel)
set_option maxRecDepth 20000 in
theorem gX1_near_X1_findWithin : GoodIn wsX1_near (wsV RX1 128 RX1 yX1_findWithin wsX1_findWithin) := goodIn_app (goodIn_of _ (by decide +kernel)) ggX1_near_X1_findWithin
theorem dX1_near_0 : decode cX1_near 0 = .ok (.iload_n 1, 1) := by decide +kernel
theorem dX1_near_1 : decode cX1_near 1 = .ok (.ifCond .lt 17, 3) := by decide +kernel
theorem dX1_near_4 : decode cX1_near 4 = .ok (.iload_n 1, 1) := by decide +kernel
theorem dX1_near_5 : decode cX1_near 5 = .ok (.bipush 100, 2) := by decide +kernel
theorem dX1_near_7 : decode cX1_near 7 = .ok (.if_icmp .gt 11, 3) := by decide +kernel
theorem dX1_near_10 : decode cX1_near 10 = .ok (.aload_n 0, 1) := by decide +kernel
theorem dX1_near_11 : decode cX1_near 11 = .ok (.iload_n 1, 1) := by decide +kernel
theorem dX1_near_12 : decode cX1_near 12 = .ok (.invokevirtual 128, 3) := by decide +kernel
theorem dX1_near_15 : decode cX1_near 15 = .ok (.goto 4, 3) := by decide +kernel
theorem dX1_near_18 : decode cX1_near 18 = .ok (.iconst (-1), 1) := by decide +kernel
theorem dX1_near_19 : decode cX1_near 19 = .ok (.ireturn, 1) := by decide +kernel
set_option maxRecDepth 20000 in
theorem ggX1_sound_X1_objectsLieInARow : GoodIn wsX1_sound wsX1_objectsLieInARow := goodIn_r _ [5, 6, 7, 8, 9, 10, 11, 12, 13, 14, 15, 16, 4, 17, 18, 19, 20, 21, 22, 23, 69, 70, 71, 72, 73, 74, 75, 76, 77, 78, 79, 80, 81, 82, 83, 84, 85] (by decide +kernel) (by decide +kernel)
set_option maxRecDepth 20000 in
theorem gX1_sound_X1_objectsLieInARow : GoodIn wsX1_sound (wsV RX1 131 RX1 yX1_objectsLieInARow wsX1_objectsLieInARow) := goodIn_app (goodIn_of _ (by decide +kernel)) ggX1_sound_X1_objectsLieInARow
set_option maxRecDepth 20000 in
theorem ggX1_sound_X1_rootsLeadToHeaders : GoodIn wsX1_sound wsX1_rootsLeadToHeaders := goodIn_r _ [27, 28, 29, 30, 31, 4, 32, 33, 34, 35, 36, 6, 7, 9, 10, 11, 12, 13, 14, 69, 70, 71, 72, 73, 74, 75, 76, 77, 78, 79, 80, 81, 82, 83, 84, 85] (by decide +kernel) (by decide +kernel)
set_option maxRecDepth 20000 in
theorem gX1_sound_X1_rootsLeadToHeaders : GoodIn wsX1_sound (wsV RX1 135 RX1 yX1_rootsLeadToHeaders wsX1_rootsLeadToHeaders) := goodIn_app (goodIn_of _ (by decide +kernel)) ggX1_sound_X1_rootsLeadToHeaders
set_option maxRecDepth 20000 in
theorem ggX1_sound_X1_referencesLeadToHeaders : GoodIn wsX1_sound wsX1_referencesLeadToHeaders := goodIn_r _ [40, 6, 7, 9, 10, 11, 12, 13, 14, 41, 42, 43, 4, 44, 8, 18, 19, 20, 29, 30, 31, 32, 33, 34, 35, 36, 69, 70, 71, 72, 73, 74, 75, 76, 77, 78, 79, 80, 81, 82, 83, 84, 85] (by decide +kernel) (by decide +kernel)
set_option maxRecDepth 20000 in
theorem gX1_sound_X1_referencesLeadToHeaders : GoodIn wsX1_sound (wsV RX1 138 RX1 yX1_referencesLeadToHeaders wsX1_referencesLeadToHeaders) := goodIn_app (goodIn_of _ (by decide +kernel)) ggX1_sound_X1_referencesLeadToHeaders
set_option maxRecDepth 20000 in
theorem ggX1_sound_X1_newAddressesFollowFromBits : GoodIn wsX1_sound wsX1_newAddressesFollowFromBits := goodIn_r _ [48, 49, 50, 9, 10, 11, 12, 13, 14, 51, 52, 53, 4, 54, 55, 56, 57, 58, 59, 60, 61, 62, 63, 64, 65, 66, 67, 68, 69, 70, 71, 72, 73, 74, 75, 76, 77, 78, 79, 80, 81, 82, 83, 84, 85] (by decide +kernel) (by decide +kernel)
set_option maxRecDepth 20000 in
theorem gX1_sound_X1_newAddressesFollowFromBits : GoodIn wsX1_sound (wsV RX1 141 RX1 yX1_newAddressesFollowFromBits wsX1_newAddressesFollowFromBits) := goodIn_app (goodIn_of _ (by decide +kernel)) ggX1_sound_X1_newAddressesFollowFromBits
theorem dX1_sound_0 : decode cX1_sound 0 = .ok (.aload_n 0, 1) := by decide +kernel
theorem dX1_sound_1 : decode cX1_sound 1 = .ok (.invokevirtual 131, 3) := by decide +kernel
theorem dX1_sound_4 : decode cX1_sound 4 = .ok (.ifCond .eq 28, 3) := by decide +kernel
theorem dX1_sound_7 : decode cX1_sound 7 = .ok (.aload_n 0, 1) := by decide +kernel
theorem dX1_sound_8 : decode cX1_sound 8 = .ok (.invokevirtual 135, 3) := by decide +kernel
theorem dX1_sound_11 : decode cX1_sound 11 = .ok (.ifCond .eq 21, 3) := by decide +kernel
theorem dX1_sound_14 : decode cX1_sound 14 = .ok (.aload_n 0, 1) := by decide +kernel
theorem dX1_sound_15 : decode cX1_sound 15 = .ok (.invokevirtual 138, 3) := by decide +kernel
theorem dX1_sound_18 : decode cX1_sound 18 = .ok (.ifCond .eq 14, 3) := by decide +kernel
theorem dX1_sound_21 : decode cX1_sound 21 = .ok (.aload_n 0, 1) := by decide +kernel
theorem dX1_sound_22 : decode cX1_sound 22 = .ok (.invokevirtual 141, 3) := by decide +kernel
theorem dX1_sound_25 : decode cX1_sound 25 = .ok (.ifCond .eq 7, 3) := by decide +kernel
theorem dX1_sound_28 : decode cX1_sound 28 = .ok (.iconst 1, 1) := by decide +kernel
theorem dX1_sound_29 : decode cX1_sound 29 = .ok (.goto 4, 3) := by decide +kernel
theorem dX1_sound_32 : decode cX1_sound 32 = .ok (.iconst 0, 1) := by decide +kernel
theorem dX1_sound_33 : decode cX1_sound 33 = .ok (.ireturn, 1) := by decide +kernel
theorem dX1_count_0 : decode cX1_count 0 = .ok (.iload_n 1, 1) := by decide +kernel
theorem dX1_count_1 : decode cX1_count 1 = .ok (.tableswitch 60 0 4 #[35, 40, 45, 50, 55], 35) := by decide +kernel
theorem dX1_count_36 : decode cX1_count 36 = .ok (.aload_n 0, 1) := by decide +kernel
theorem dX1_count_37 : decode cX1_count 37 = .ok (.getfield 66, 3) := by decide +kernel
theorem dX1_count_40 : decode cX1_count 40 = .ok (.ireturn, 1) := by decide +kernel
theorem dX1_count_41 : decode cX1_count 41 = .ok (.aload_n 0, 1) := by decide +kernel
theorem dX1_count_42 : decode cX1_count 42 = .ok (.getfield 79, 3) := by decide +kernel
theorem dX1_count_45 : decode cX1_count 45 = .ok (.ireturn, 1) := by decide +kernel
theorem dX1_count_46 : decode cX1_count 46 = .ok (.aload_n 0, 1) := by decide +kernel
theorem dX1_count_47 : decode cX1_count 47 = .ok (.getfield 113, 3) := by decide +kernel
theorem dX1_count_50 : decode cX1_count 50 = .ok (.ireturn, 1) := by decide +kernel
theorem dX1_count_51 : decode cX1_count 51 = .ok (.aload_n 0, 1) := by decide +kernel
theorem dX1_count_52 : decode cX1_count 52 = .ok (.getfield 18, 3) := by decide +kernel
theorem dX1_count_55 : decode cX1_count 55 = .ok (.ireturn, 1) := by decide +kernel
theorem dX1_count_56 : decode cX1_count 56 = .ok (.aload_n 0, 1) := by decide +kernel
theorem dX1_count_57 : decode cX1_count 57 = .ok (.getfield 29, 3) := by decide +kernel
theorem dX1_count_60 : decode cX1_count 60 = .ok (.ireturn, 1) := by decide +kernel
theorem dX1_count_61 : decode cX1_count 61 = .ok (.iconst (-1), 1) := by decide +kernel
theorem dX1_count_62 : decode cX1_count 62 = .ok (.ireturn, 1) := by decide +kernel
theorem dX1_isBlockSize_0 : decode cX1_isBlockSize 0 = .ok (.iload_n 0, 1) := by decide +kernel
theorem dX1_isBlockSize_1 : decode cX1_isBlockSize 1 = .ok (.bipush 8, 2) := by decide +kernel
theorem dX1_isBlockSize_3 : decode cX1_isBlockSize 3 = .ok (.if_icmp .eq 21, 3) := by decide +kernel
theorem dX1_isBlockSize_6 : decode cX1_isBlockSize 6 = .ok (.iload_n 0, 1) := by decide +kernel
theorem dX1_isBlockSize_7 : decode cX1_isBlockSize 7 = .ok (.bipush 16, 2) := by decide +kernel
theorem dX1_isBlockSize_9 : decode cX1_isBlockSize 9 = .ok (.if_icmp .eq 15, 3) := by decide +kernel
theorem dX1_isBlockSize_12 : decode cX1_isBlockSize 12 = .ok (.iload_n 0, 1) := by decide +kernel
theorem dX1_isBlockSize_13 : decode cX1_isBlockSize 13 = .ok (.bipush 32, 2) := by decide +kernel
theorem dX1_isBlockSize_15 : decode cX1_isBlockSize 15 = .ok (.if_icmp .eq 9, 3) := by decide +kernel
theorem dX1_isBlockSize_18 : decode cX1_isBlockSize 18 = .ok (.iload_n 0, 1) := by decide +kernel
theorem dX1_isBlockSize_19 : decode cX1_isBlockSize 19 = .ok (.bipush 64, 2) := by decide +kernel
theorem dX1_isBlockSize_21 : decode cX1_isBlockSize 21 = .ok (.if_icmp .ne 7, 3) := by decide +kernel
theorem dX1_isBlockSize_24 : decode cX1_isBlockSize 24 = .ok (.iconst 1, 1) := by decide +kernel
theorem dX1_isBlockSize_25 : decode cX1_isBlockSize 25 = .ok (.goto 4, 3) := by decide +kernel
theorem dX1_isBlockSize_28 : decode cX1_isBlockSize 28 = .ok (.iconst 0, 1) := by decide +kernel
theorem dX1_isBlockSize_29 : decode cX1_isBlockSize 29 = .ok (.ireturn, 1) := by decide +kernel
theorem dX1_headerOf_0 : decode cX1_headerOf 0 = .ok (.sipush 256, 3) := by decide +kernel
theorem dX1_headerOf_3 : decode cX1_headerOf 3 = .ok (.iload_n 1, 1) := by decide +kernel
theorem dX1_headerOf_4 : decode cX1_headerOf 4 = .ok (.imul, 1) := by decide +kernel
theorem dX1_headerOf_5 : decode cX1_headerOf 5 = .ok (.bipush 16, 2) := by decide +kernel
theorem dX1_headerOf_7 : decode cX1_headerOf 7 = .ok (.iload_n 0, 1) := by decide +kernel
theorem dX1_headerOf_8 : decode cX1_headerOf 8 = .ok (.imul, 1) := by decide +kernel
theorem dX1_headerOf_9 : decode cX1_headerOf 9 = .ok (.iadd, 1) := by decide +kernel
theorem dX1_headerOf_10 : decode cX1_headerOf 10 = .ok (.ireturn, 1) := by decide +kernel
theorem dX1_referencesBy_0 : decode cX1_referencesBy 0 = .ok (.iload_n 0, 1) := by decide +kernel
theorem dX1_referencesBy_1 : decode cX1_referencesBy 1 = .ok (.iconst 4, 1) := by decide +kernel
theorem dX1_referencesBy_2 : decode cX1_referencesBy 2 = .ok (.ishr, 1) := by decide +kernel
theorem dX1_referencesBy_3 : decode cX1_referencesBy 3 = .ok (.bipush 15, 2) := by decide +kernel
theorem dX1_referencesBy_5 : decode cX1_referencesBy 5 = .ok (.iand, 1) := by decide +kernel
theorem dX1_referencesBy_6 : decode cX1_referencesBy 6 = .ok (.ireturn, 1) := by decide +kernel
theorem dX1_plainBy_0 : decode cX1_plainBy 0 = .ok (.iload_n 0, 1) := by decide +kernel
theorem dX1_plainBy_1 : decode cX1_plainBy 1 = .ok (.bipush 8, 2) := by decide +kernel
theorem dX1_plainBy_3 : decode cX1_plainBy 3 = .ok (.ishr, 1) := by decide +kernel
theorem dX1_plainBy_4 : decode cX1_plainBy 4 = .ok (.ireturn, 1) := by decide +kernel
set_option maxRecDepth 20000 in
theorem ggX1_sizeBy_X1_referencesBy : GoodIn wsX1_sizeBy wsX1_referencesBy := goodIn_r _ [4] (by decide +kernel) (by decide +kernel)
set_option maxRecDepth 20000 in
theorem gX1_sizeBy_X1_referencesBy : GoodIn wsX1_sizeBy (va_wsS RX1 85 yX1_referencesBy wsX1_referencesBy) := goodIn_app (goodIn_of _ (by decide +kernel)) ggX1_sizeBy_X1_referencesBy
set_option maxRecDepth 20000 in
theorem ggX1_sizeBy_X1_plainBy : GoodIn wsX1_sizeBy wsX1_plainBy := goodIn_r _ [7] (by decide +kernel) (by decide +kernel)
set_option maxRecDepth 20000 in
theorem gX1_sizeBy_X1_plainBy : GoodIn wsX1_sizeBy (va_wsS RX1 91 yX1_plainBy wsX1_plainBy) := goodIn_app (goodIn_of _ (by decide +kernel)) ggX1_sizeBy_X1_plainBy
theorem dX1_sizeBy_0 : decode cX1_sizeBy 0 = .ok (.iconst 1, 1) := by decide +kernel
theorem dX1_sizeBy_1 : decode cX1_sizeBy 1 = .ok (.iload_n 0, 1) := by decide +kernel
theorem dX1_sizeBy_2 : decode cX1_sizeBy 2 = .ok (.invokestatic 85, 3) := by decide +kernel
theorem dX1_sizeBy_5 : decode cX1_sizeBy 5 = .ok (.iadd, 1) := by decide +kernel
theorem dX1_sizeBy_6 : decode cX1_sizeBy 6 = .ok (.iload_n 0, 1) := by decide +kernel
theorem dX1_sizeBy_7 : decode cX1_sizeBy 7 = .ok (.invokestatic 91, 3) := by decide +kernel
theorem dX1_sizeBy_10 : decode cX1_sizeBy 10 = .ok (.iadd, 1) := by decide +kernel
theorem dX1_sizeBy_11 : decode cX1_sizeBy 11 = .ok (.ireturn, 1) := by decide +kernel
theorem dX1_isWord_0 : decode cX1_isWord 0 = .ok (.iload_n 1, 1) := by decide +kernel
theorem dX1_isWord_1 : decode cX1_isWord 1 = .ok (.ifCond .lt 15, 3) := by decide +kernel
theorem dX1_isWord_4 : decode cX1_isWord 4 = .ok (.iload_n 1, 1) := by decide +kernel
theorem dX1_isWord_5 : decode cX1_isWord 5 = .ok (.aload_n 0, 1) := by decide +kernel
theorem dX1_isWord_6 : decode cX1_isWord 6 = .ok (.getfield 18, 3) := by decide +kernel
theorem dX1_isWord_9 : decode cX1_isWord 9 = .ok (.if_icmp .gt 7, 3) := by decide +kernel
theorem dX1_isWord_12 : decode cX1_isWord 12 = .ok (.iconst 1, 1) := by decide +kernel
theorem dX1_isWord_13 : decode cX1_isWord 13 = .ok (.goto 4, 3) := by decide +kernel
theorem dX1_isWord_16 : decode cX1_isWord 16 = .ok (.iconst 0, 1) := by decide +kernel
theorem dX1_isWord_17 : decode cX1_isWord 17 = .ok (.ireturn, 1) := by decide +kernel
theorem dX1_isRoot_0 : decode cX1_isRoot 0 = .ok (.iload_n 0, 1) := by decide +kernel
theorem dX1_isRoot_1 : decode cX1_isRoot 1 = .ok (.ifCond .lt 13, 3) := by decide +kernel
theorem dX1_isRoot_4 : decode cX1_isRoot 4 = .ok (.iload_n 0, 1) := by decide +kernel
theorem dX1_isRoot_5 : decode cX1_isRoot 5 = .ok (.bipush 8, 2) := by decide +kernel
theorem dX1_isRoot_7 : decode cX1_isRoot 7 = .ok (.if_icmp .ge 7, 3) := by decide +kernel
theorem dX1_isRoot_10 : decode cX1_isRoot 10 = .ok (.iconst 1, 1) := by decide +kernel
theorem dX1_isRoot_11 : decode cX1_isRoot 11 = .ok (.goto 4, 3) := by decide +kernel
theorem dX1_isRoot_14 : decode cX1_isRoot 14 = .ok (.iconst 0, 1) := by decide +kernel
theorem dX1_isRoot_15 : decode cX1_isRoot 15 = .ok (.ireturn, 1) := by decide +kernel
set_option maxRecDepth 20000 in
theorem ggX1_isObjectOrNone_X1_isObject : GoodIn wsX1_isObjectOrNone wsX1_isObject := goodIn_r _ [5, 6, 7, 8, 9, 10, 11, 12, 13, 14, 15, 16, 17, 18, 19, 20, 21, 22, 23, 24, 25, 26, 27, 28, 29, 30] (by decide +kernel) (by decide +kernel)
set_option maxRecDepth 20000 in
theorem gX1_isObjectOrNone_X1_isObject : GoodIn wsX1_isObjectOrNone (wsV RX1 82 RX1 yX1_isObject wsX1_isObject) := goodIn_app (goodIn_of _ (by decide +kernel)) ggX1_isObjectOrNone_X1_isObject
theorem dX1_isObjectOrNone_0 : decode cX1_isObjectOrNone 0 = .ok (.iload_n 1, 1) := by decide +kernel
theorem dX1_isObjectOrNone_1 : decode cX1_isObjectOrNone 1 = .ok (.ifCond .eq 11, 3) := by decide +kernel
theorem dX1_isObjectOrNone_4 : decode cX1_isObjectOrNone 4 = .ok (.aload_n 0, 1) := by decide +kernel
theorem dX1_isObjectOrNone_5 : decode cX1_isObjectOrNone 5 = .ok (.iload_n 1, 1) := by decide +kernel
theorem dX1_isObjectOrNone_6 : decode cX1_isObjectOrNone 6 = .ok (.invokevirtual 82, 3) := by decide +kernel
theorem dX1_isObjectOrNone_9 : decode cX1_isObjectOrNone 9 = .ok (.ifCond .eq 7, 3) := by decide +kernel
theorem dX1_isObjectOrNone_12 : decode cX1_isObjectOrNone 12 = .ok (.iconst 1, 1) := by decide +kernel
theorem dX1_isObjectOrNone_13 : decode cX1_isObjectOrNone 13 = .ok (.goto 4, 3) := by decide +kernel
theorem dX1_isObjectOrNone_16 : decode cX1_isObjectOrNone 16 = .ok (.iconst 0, 1) := by decide +kernel
theorem dX1_isObjectOrNone_17 : decode cX1_isObjectOrNone 17 = .ok (.ireturn, 1) := by decide +kernel
set_option maxRecDepth 20000 in
theorem ggX1_findWithin_X0_clear : GoodIn wsX1_findWithin wsX0_clear := goodIn_r _ [8, 9, 10, 11, 12, 13, 51] (by decide +kernel) (by decide +kernel)
set_option maxRecDepth 20000 in
theorem gX1_findWithin_X0_clear : GoodIn wsX1_findWithin (wsV RX1 144 RX0 yX0_clear wsX0_clear) := goodIn_app (goodIn_of _ (by decide +kernel)) ggX1_findWithin_X0_clear
set_option maxRecDepth 20000 in
theorem ggX1_findWithin_X1_find : GoodIn wsX1_findWithin wsX1_find := goodIn_r _ [18, 1, 3, 19, 20, 21, 7, 22, 9, 23, 24, 25, 26, 35, 36, 37, 38, 39, 40, 41, 42, 43, 44, 45, 46, 47, 48, 49, 50, 51] (by decide +kernel) (by decide +kernel)
set_option maxRecDepth 20000 in
theorem gX1_findWithin_X1_find : GoodIn wsX1_findWithin (wsV RX1 147 RX1 yX1_find wsX1_find) := goodIn_app (goodIn_of _ (by decide +kernel)) ggX1_findWithin_X1_find
set_option maxRecDepth 20000 in
theorem ggX1_findWithin_X1_findReferred : GoodIn wsX1_findWithin wsX1_findReferred := goodIn_r _ [30, 31, 32, 33, 17, 34, 14, 15, 16, 18, 1, 3, 19, 20, 21, 7, 22, 9, 23, 24, 25, 26, 35, 36, 37, 38, 39, 40, 41, 42, 43, 44, 45, 46, 47, 48, 49, 50, 51] (by decide +kernel) (by decide +kernel)
set_option maxRecDepth 20000 in
theorem gX1_findWithin_X1_findReferred : GoodIn wsX1_findWithin (wsV RX1 150 RX1 yX1_findReferred wsX1_findReferred) := goodIn_app (goodIn_of _ (by decide +kernel)) ggX1_findWithin_X1_findReferred
theorem dX1_findWithin_0 : decode cX1_findWithin 0 = .ok (.aload_n 0, 1) := by decide +kernel
theorem dX1_findWithin_1 : decode cX1_findWithin 1 = .ok (.getfield 51, 3) := by decide +kernel
theorem dX1_findWithin_4 : decode cX1_findWithin 4 = .ok (.invokevirtual 144, 3) := by decide +kernel
theorem dX1_findWithin_7 : decode cX1_findWithin 7 = .ok (.iconst 0, 1) := by decide +kernel
theorem dX1_findWithin_8 : decode cX1_findWithin 8 = .ok (.istore_n 2, 1) := by decide +kernel
theorem dX1_findWithin_9 : decode cX1_findWithin 9 = .ok (.iconst 0, 1) := by decide +kernel
theorem dX1_findWithin_10 : decode cX1_findWithin 10 = .ok (.istore_n 3, 1) := by decide +kernel
theorem dX1_findWithin_11 : decode cX1_findWithin 11 = .ok (.iload_n 3, 1) := by decide +kernel
theorem dX1_findWithin_12 : decode cX1_findWithin 12 = .ok (.bipush 8, 2) := by decide +kernel
theorem dX1_findWithin_14 : decode cX1_findWithin 14 = .ok (.if_icmp .ge 21, 3) := by decide +kernel
theorem dX1_findWithin_17 : decode cX1_findWithin 17 = .ok (.aload_n 0, 1) := by decide +kernel
theorem dX1_findWithin_18 : decode cX1_findWithin 18 = .ok (.aload_n 0, 1) := by decide +kernel
theorem dX1_findWithin_19 : decode cX1_findWithin 19 = .ok (.getfield 32, 3) := by decide +kernel
theorem dX1_findWithin_22 : decode cX1_findWithin 22 = .ok (.iload_n 3, 1) := by decide +kernel
theorem dX1_findWithin_23 : decode cX1_findWithin 23 = .ok (.iaload, 1) := by decide +kernel
theorem dX1_findWithin_24 : decode cX1_findWithin 24 = .ok (.iload_n 2, 1) := by decide +kernel
theorem dX1_findWithin_25 : decode cX1_findWithin 25 = .ok (.invokevirtual 147, 3) := by decide +kernel
theorem dX1_findWithin_28 : decode cX1_findWithin 28 = .ok (.istore_n 2, 1) := by decide +kernel
theorem dX1_findWithin_29 : decode cX1_findWithin 29 = .ok (.iinc 3 1, 3) := by decide +kernel
theorem dX1_findWithin_32 : decode cX1_findWithin 32 = .ok (.goto (-21), 3) := by decide +kernel
theorem dX1_findWithin_35 : decode cX1_findWithin 35 = .ok (.iconst 0, 1) := by decide +kernel
theorem dX1_findWithin_36 : decode cX1_findWithin 36 = .ok (.istore_n 3, 1) := by decide +kernel
theorem dX1_findWithin_37 : decode cX1_findWithin 37 = .ok (.iconst 0, 1) := by decide +kernel
end
section
theorem dX1_findWithin_38 : decode cX1_findWithin 38 = .ok (.istore 4, 2) := by decide +kernel
theorem dX1_findWithin_40 : decode cX1_findWithin 40 = .ok (.iload 4, 2) := by decide +kernel
theorem dX1_findWithin_42 : decode cX1_findWithin 42 = .ok (.iload_n 1, 1) := by decide +kernel
theorem dX1_findWithin_43 : decode cX1_findWithin 43 = .ok (.if_icmp .ge 49, 3) := by decide +kernel
theorem dX1_findWithin_46 : decode cX1_findWithin 46 = .ok (.iload_n 3, 1) := by decide +kernel
theorem dX1_findWithin_47 : decode cX1_findWithin 47 = .ok (.iload_n 2, 1) := by decide +kernel
theorem dX1_findWithin_48 : decode cX1_findWithin 48 = .ok (.if_icmp .ge 44, 3) := by decide +kernel
theorem dX1_findWithin_51 : decode cX1_findWithin 51 = .ok (.iload_n 2, 1) := by decide +kernel
theorem dX1_findWithin_52 : decode cX1_findWithin 52 = .ok (.istore 5, 2) := by decide +kernel
theorem dX1_findWithin_54 : decode cX1_findWithin 54 = .ok (.iload_n 3, 1) := by decide +kernel
theorem dX1_findWithin_55 : decode cX1_findWithin 55 = .ok (.istore 6, 2) := by decide +kernel
theorem dX1_findWithin_57 : decode cX1_findWithin 57 = .ok (.iload 6, 2) := by decide +kernel
theorem dX1_findWithin_59 : decode cX1_findWithin 59 = .ok (.iload 5, 2) := by decide +kernel
theorem dX1_findWithin_61 : decode cX1_findWithin 61 = .ok (.if_icmp .ge 22, 3) := by decide +kernel
theorem dX1_findWithin_64 : decode cX1_findWithin 64 = .ok (.aload_n 0, 1) := by decide +kernel
theorem dX1_findWithin_65 : decode cX1_findWithin 65 = .ok (.aload_n 0, 1) := by decide +kernel
theorem dX1_findWithin_66 : decode cX1_findWithin 66 = .ok (.getfield 48, 3) := by decide +kernel
theorem dX1_findWithin_69 : decode cX1_findWithin 69 = .ok (.iload 6, 2) := by decide +kernel
theorem dX1_findWithin_71 : decode cX1_findWithin 71 = .ok (.iaload, 1) := by decide +kernel
theorem dX1_findWithin_72 : decode cX1_findWithin 72 = .ok (.iload_n 2, 1) := by decide +kernel
theorem dX1_findWithin_73 : decode cX1_findWithin 73 = .ok (.invokevirtual 150, 3) := by decide +kernel
theorem dX1_findWithin_76 : decode cX1_findWithin 76 = .ok (.istore_n 2, 1) := by decide +kernel
theorem dX1_findWithin_77 : decode cX1_findWithin 77 = .ok (.iinc 6 1, 3) := by decide +kernel
theorem dX1_findWithin_80 : decode cX1_findWithin 80 = .ok (.goto (-23), 3) := by decide +kernel
theorem dX1_findWithin_83 : decode cX1_findWithin 83 = .ok (.iload 5, 2) := by decide +kernel
theorem dX1_findWithin_85 : decode cX1_findWithin 85 = .ok (.istore_n 3, 1) := by decide +kernel
theorem dX1_findWithin_86 : decode cX1_findWithin 86 = .ok (.iinc 4 1, 3) := by decide +kernel
theorem dX1_findWithin_89 : decode cX1_findWithin 89 = .ok (.goto (-49), 3) := by decide +kernel
theorem dX1_findWithin_92 : decode cX1_findWithin 92 = .ok (.iload_n 2, 1) := by decide +kernel
theorem dX1_findWithin_93 : decode cX1_findWithin 93 = .ok (.ireturn, 1) := by decide +kernel
set_option maxRecDepth 20000 in
theorem ggX1_findReferred_X1_referencesBy : GoodIn wsX1_findReferred wsX1_referencesBy := goodIn_r _ [5] (by decide +kernel) (by decide +kernel)
set_option maxRecDepth 20000 in
theorem gX1_findReferred_X1_referencesBy : GoodIn wsX1_findReferred (va_wsS RX1 85 yX1_referencesBy wsX1_referencesBy) := goodIn_app (goodIn_of _ (by decide +kernel)) ggX1_findReferred_X1_referencesBy
set_option maxRecDepth 20000 in
theorem ggX1_findReferred_X1_find : GoodIn wsX1_findReferred wsX1_find := goodIn_r _ [9, 10, 11, 12, 13, 14, 15, 16, 17, 18, 19, 20, 21, 22, 23, 24, 25, 26, 27, 28, 29, 30, 31, 32, 33, 34, 35, 36, 37, 38] (by decide +kernel) (by decide +kernel)
set_option maxRecDepth 20000 in
theorem gX1_findReferred_X1_find : GoodIn wsX1_findReferred (wsV RX1 147 RX1 yX1_find wsX1_find) := goodIn_app (goodIn_of _ (by decide +kernel)) ggX1_findReferred_X1_find
theorem dX1_findReferred_0 : decode cX1_findReferred 0 = .ok (.aload_n 0, 1) := by decide +kernel
theorem dX1_findReferred_1 : decode cX1_findReferred 1 = .ok (.getfield 54, 3) := by decide +kernel
theorem dX1_findReferred_4 : decode cX1_findReferred 4 = .ok (.iload_n 1, 1) := by decide +kernel
theorem dX1_findReferred_5 : decode cX1_findReferred 5 = .ok (.iaload, 1) := by decide +kernel
theorem dX1_findReferred_6 : decode cX1_findReferred 6 = .ok (.invokestatic 85, 3) := by decide +kernel
theorem dX1_findReferred_9 : decode cX1_findReferred 9 = .ok (.istore_n 3, 1) := by decide +kernel
theorem dX1_findReferred_10 : decode cX1_findReferred 10 = .ok (.iload_n 2, 1) := by decide +kernel
theorem dX1_findReferred_11 : decode cX1_findReferred 11 = .ok (.istore 4, 2) := by decide +kernel
theorem dX1_findReferred_13 : decode cX1_findReferred 13 = .ok (.iconst 0, 1) := by decide +kernel
theorem dX1_findReferred_14 : decode cX1_findReferred 14 = .ok (.istore 5, 2) := by decide +kernel
theorem dX1_findReferred_16 : decode cX1_findReferred 16 = .ok (.iload 5, 2) := by decide +kernel
theorem dX1_findReferred_18 : decode cX1_findReferred 18 = .ok (.iload_n 3, 1) := by decide +kernel
theorem dX1_findReferred_19 : decode cX1_findReferred 19 = .ok (.if_icmp .ge 28, 3) := by decide +kernel
theorem dX1_findReferred_22 : decode cX1_findReferred 22 = .ok (.aload_n 0, 1) := by decide +kernel
theorem dX1_findReferred_23 : decode cX1_findReferred 23 = .ok (.aload_n 0, 1) := by decide +kernel
theorem dX1_findReferred_24 : decode cX1_findReferred 24 = .ok (.getfield 54, 3) := by decide +kernel
theorem dX1_findReferred_27 : decode cX1_findReferred 27 = .ok (.iload_n 1, 1) := by decide +kernel
theorem dX1_findReferred_28 : decode cX1_findReferred 28 = .ok (.iconst 1, 1) := by decide +kernel
theorem dX1_findReferred_29 : decode cX1_findReferred 29 = .ok (.iadd, 1) := by decide +kernel
theorem dX1_findReferred_30 : decode cX1_findReferred 30 = .ok (.iload 5, 2) := by decide +kernel
theorem dX1_findReferred_32 : decode cX1_findReferred 32 = .ok (.iadd, 1) := by decide +kernel
theorem dX1_findReferred_33 : decode cX1_findReferred 33 = .ok (.iaload, 1) := by decide +kernel
theorem dX1_findReferred_34 : decode cX1_findReferred 34 = .ok (.iload 4, 2) := by decide +kernel
theorem dX1_findReferred_36 : decode cX1_findReferred 36 = .ok (.invokevirtual 147, 3) := by decide +kernel
theorem dX1_findReferred_39 : decode cX1_findReferred 39 = .ok (.istore 4, 2) := by decide +kernel
theorem dX1_findReferred_41 : decode cX1_findReferred 41 = .ok (.iinc 5 1, 3) := by decide +kernel
theorem dX1_findReferred_44 : decode cX1_findReferred 44 = .ok (.goto (-28), 3) := by decide +kernel
theorem dX1_findReferred_47 : decode cX1_findReferred 47 = .ok (.iload 4, 2) := by decide +kernel
theorem dX1_findReferred_49 : decode cX1_findReferred 49 = .ok (.ireturn, 1) := by decide +kernel
set_option maxRecDepth 20000 in
theorem ggX1_find_X0_has : GoodIn wsX1_find wsX0_has := goodIn_r _ [7, 8, 29] (by decide +kernel) (by decide +kernel)
set_option maxRecDepth 20000 in
theorem gX1_find_X0_has : GoodIn wsX1_find (wsV RX1 119 RX0 yX0_has wsX0_has) := goodIn_app (goodIn_of _ (by decide +kernel)) ggX1_find_X0_has
set_option maxRecDepth 20000 in
theorem ggX1_find_X0_put : GoodIn wsX1_find wsX0_put := goodIn_r _ [12, 8, 29] (by decide +kernel) (by decide +kernel)
set_option maxRecDepth 20000 in
theorem gX1_find_X0_put : GoodIn wsX1_find (wsV RX1 76 RX0 yX0_put wsX0_put) := goodIn_app (goodIn_of _ (by decide +kernel)) ggX1_find_X0_put
theorem dX1_find_0 : decode cX1_find 0 = .ok (.iload_n 1, 1) := by decide +kernel
theorem dX1_find_1 : decode cX1_find 1 = .ok (.ifCond .eq 14, 3) := by decide +kernel
theorem dX1_find_4 : decode cX1_find 4 = .ok (.aload_n 0, 1) := by decide +kernel
theorem dX1_find_5 : decode cX1_find 5 = .ok (.getfield 51, 3) := by decide +kernel
theorem dX1_find_8 : decode cX1_find 8 = .ok (.iload_n 1, 1) := by decide +kernel
theorem dX1_find_9 : decode cX1_find 9 = .ok (.invokevirtual 119, 3) := by decide +kernel
theorem dX1_find_12 : decode cX1_find 12 = .ok (.ifCond .eq 5, 3) := by decide +kernel
theorem dX1_find_15 : decode cX1_find 15 = .ok (.iload_n 2, 1) := by decide +kernel
theorem dX1_find_16 : decode cX1_find 16 = .ok (.ireturn, 1) := by decide +kernel
theorem dX1_find_17 : decode cX1_find 17 = .ok (.aload_n 0, 1) := by decide +kernel
theorem dX1_find_18 : decode cX1_find 18 = .ok (.getfield 51, 3) := by decide +kernel
theorem dX1_find_21 : decode cX1_find 21 = .ok (.iload_n 1, 1) := by decide +kernel
theorem dX1_find_22 : decode cX1_find 22 = .ok (.invokevirtual 76, 3) := by decide +kernel
theorem dX1_find_25 : decode cX1_find 25 = .ok (.aload_n 0, 1) := by decide +kernel
theorem dX1_find_26 : decode cX1_find 26 = .ok (.getfield 48, 3) := by decide +kernel
theorem dX1_find_29 : decode cX1_find 29 = .ok (.iload_n 2, 1) := by decide +kernel
theorem dX1_find_30 : decode cX1_find 30 = .ok (.iload_n 1, 1) := by decide +kernel
theorem dX1_find_31 : decode cX1_find 31 = .ok (.iastore, 1) := by decide +kernel
theorem dX1_find_32 : decode cX1_find 32 = .ok (.iload_n 2, 1) := by decide +kernel
theorem dX1_find_33 : decode cX1_find 33 = .ok (.iconst 1, 1) := by decide +kernel
theorem dX1_find_34 : decode cX1_find 34 = .ok (.iadd, 1) := by decide +kernel
theorem dX1_find_35 : decode cX1_find 35 = .ok (.ireturn, 1) := by decide +kernel
set_option maxRecDepth 20000 in
theorem ggX1_markLiving_X1_findWithin : GoodIn wsX1_markLiving wsX1_findWithin := goodIn_r _ [9, 10, 11, 3, 12, 13, 14, 15, 16, 17, 18, 19, 20, 21, 22, 23, 24, 8, 25, 26, 27, 28, 29, 30, 31, 32, 33, 34, 35, 36, 37, 4, 38, 39, 40, 47, 48, 49, 50, 51, 52, 53, 54, 55, 56, 57, 58, 59, 60, 61, 62, 63] (by decide +kernel) (by decide +kernel)
set_option maxRecDepth 20000 in
theorem gX1_markLiving_X1_findWithin : GoodIn wsX1_markLiving (wsV RX1 128 RX1 yX1_findWithin wsX1_findWithin) := goodIn_app (goodIn_of _ (by decide +kernel)) ggX1_markLiving_X1_findWithin
set_option maxRecDepth 20000 in
theorem ggX1_markLiving_X0_clear : GoodIn wsX1_markLiving wsX0_clear := goodIn_r _ [16, 17, 18, 19, 20, 21, 63] (by decide +kernel) (by decide +kernel)
set_option maxRecDepth 20000 in
theorem gX1_markLiving_X0_clear : GoodIn wsX1_markLiving (wsV RX1 144 RX0 yX0_clear wsX0_clear) := goodIn_app (goodIn_of _ (by decide +kernel)) ggX1_markLiving_X0_clear
set_option maxRecDepth 20000 in
theorem ggX1_markLiving_X1_sizeBy : GoodIn wsX1_markLiving wsX1_sizeBy := goodIn_r _ [43, 38, 39, 8, 40, 44, 45, 46] (by decide +kernel) (by decide +kernel)
set_option maxRecDepth 20000 in
theorem gX1_markLiving_X1_sizeBy : GoodIn wsX1_markLiving (va_wsS RX1 72 yX1_sizeBy wsX1_sizeBy) := goodIn_app (goodIn_of _ (by decide +kernel)) ggX1_markLiving_X1_sizeBy
set_option maxRecDepth 20000 in
theorem ggX1_markLiving_X0_put : GoodIn wsX1_markLiving wsX0_put := goodIn_r _ [33, 17, 63] (by decide +kernel) (by decide +kernel)
set_option maxRecDepth 20000 in
theorem gX1_markLiving_X0_put : GoodIn wsX1_markLiving (wsV RX1 76 RX0 yX0_put wsX0_put) := goodIn_app (goodIn_of _ (by decide +kernel)) ggX1_markLiving_X0_put
theorem dX1_markLiving_0 : decode cX1_markLiving 0 = .ok (.aload_n 0, 1) := by decide +kernel
theorem dX1_markLiving_1 : decode cX1_markLiving 1 = .ok (.aload_n 0, 1) := by decide +kernel
theorem dX1_markLiving_2 : decode cX1_markLiving 2 = .ok (.getfield 18, 3) := by decide +kernel
theorem dX1_markLiving_5 : decode cX1_markLiving 5 = .ok (.invokevirtual 128, 3) := by decide +kernel
theorem dX1_markLiving_8 : decode cX1_markLiving 8 = .ok (.istore_n 1, 1) := by decide +kernel
theorem dX1_markLiving_9 : decode cX1_markLiving 9 = .ok (.aload_n 0, 1) := by decide +kernel
theorem dX1_markLiving_10 : decode cX1_markLiving 10 = .ok (.getfield 41, 3) := by decide +kernel
theorem dX1_markLiving_13 : decode cX1_markLiving 13 = .ok (.invokevirtual 144, 3) := by decide +kernel
theorem dX1_markLiving_16 : decode cX1_markLiving 16 = .ok (.iconst 0, 1) := by decide +kernel
theorem dX1_markLiving_17 : decode cX1_markLiving 17 = .ok (.istore_n 2, 1) := by decide +kernel
theorem dX1_markLiving_18 : decode cX1_markLiving 18 = .ok (.iload_n 2, 1) := by decide +kernel
theorem dX1_markLiving_19 : decode cX1_markLiving 19 = .ok (.iload_n 1, 1) := by decide +kernel
theorem dX1_markLiving_20 : decode cX1_markLiving 20 = .ok (.if_icmp .ge 60, 3) := by decide +kernel
theorem dX1_markLiving_23 : decode cX1_markLiving 23 = .ok (.aload_n 0, 1) := by decide +kernel
theorem dX1_markLiving_24 : decode cX1_markLiving 24 = .ok (.getfield 48, 3) := by decide +kernel
theorem dX1_markLiving_27 : decode cX1_markLiving 27 = .ok (.iload_n 2, 1) := by decide +kernel
theorem dX1_markLiving_28 : decode cX1_markLiving 28 = .ok (.iaload, 1) := by decide +kernel
theorem dX1_markLiving_29 : decode cX1_markLiving 29 = .ok (.aload_n 0, 1) := by decide +kernel
theorem dX1_markLiving_30 : decode cX1_markLiving 30 = .ok (.getfield 54, 3) := by decide +kernel
theorem dX1_markLiving_33 : decode cX1_markLiving 33 = .ok (.aload_n 0, 1) := by decide +kernel
theorem dX1_markLiving_34 : decode cX1_markLiving 34 = .ok (.getfield 48, 3) := by decide +kernel
theorem dX1_markLiving_37 : decode cX1_markLiving 37 = .ok (.iload_n 2, 1) := by decide +kernel
theorem dX1_markLiving_38 : decode cX1_markLiving 38 = .ok (.iaload, 1) := by decide +kernel
theorem dX1_markLiving_39 : decode cX1_markLiving 39 = .ok (.iaload, 1) := by decide +kernel
theorem dX1_markLiving_40 : decode cX1_markLiving 40 = .ok (.invokestatic 72, 3) := by decide +kernel
theorem dX1_markLiving_43 : decode cX1_markLiving 43 = .ok (.iadd, 1) := by decide +kernel
theorem dX1_markLiving_44 : decode cX1_markLiving 44 = .ok (.istore_n 3, 1) := by decide +kernel
theorem dX1_markLiving_45 : decode cX1_markLiving 45 = .ok (.aload_n 0, 1) := by decide +kernel
theorem dX1_markLiving_46 : decode cX1_markLiving 46 = .ok (.getfield 48, 3) := by decide +kernel
theorem dX1_markLiving_49 : decode cX1_markLiving 49 = .ok (.iload_n 2, 1) := by decide +kernel
theorem dX1_markLiving_50 : decode cX1_markLiving 50 = .ok (.iaload, 1) := by decide +kernel
theorem dX1_markLiving_51 : decode cX1_markLiving 51 = .ok (.istore 4, 2) := by decide +kernel
theorem dX1_markLiving_53 : decode cX1_markLiving 53 = .ok (.iload 4, 2) := by decide +kernel
theorem dX1_markLiving_55 : decode cX1_markLiving 55 = .ok (.iload_n 3, 1) := by decide +kernel
theorem dX1_markLiving_56 : decode cX1_markLiving 56 = .ok (.if_icmp .ge 18, 3) := by decide +kernel
theorem dX1_markLiving_59 : decode cX1_markLiving 59 = .ok (.aload_n 0, 1) := by decide +kernel
theorem dX1_markLiving_60 : decode cX1_markLiving 60 = .ok (.getfield 41, 3) := by decide +kernel
theorem dX1_markLiving_63 : decode cX1_markLiving 63 = .ok (.iload 4, 2) := by decide +kernel
theorem dX1_markLiving_65 : decode cX1_markLiving 65 = .ok (.invokevirtual 76, 3) := by decide +kernel
theorem dX1_markLiving_68 : decode cX1_markLiving 68 = .ok (.iinc 4 1, 3) := by decide +kernel
theorem dX1_markLiving_71 : decode cX1_markLiving 71 = .ok (.goto (-18), 3) := by decide +kernel
theorem dX1_markLiving_74 : decode cX1_markLiving 74 = .ok (.iinc 2 1, 3) := by decide +kernel
theorem dX1_markLiving_77 : decode cX1_markLiving 77 = .ok (.goto (-59), 3) := by decide +kernel
theorem dX1_markLiving_80 : decode cX1_markLiving 80 = .ok (.return_, 1) := by decide +kernel
set_option maxRecDepth 20000 in
theorem ggX1_fillOffsets_X0_has : GoodIn wsX1_fillOffsets wsX0_has := goodIn_r _ [9, 10, 27] (by decide +kernel) (by decide +kernel)
set_option maxRecDepth 20000 in
theorem gX1_fillOffsets_X0_has : GoodIn wsX1_fillOffsets (wsV RX1 119 RX0 yX0_has wsX0_has) := goodIn_app (goodIn_of _ (by decide +kernel)) ggX1_fillOffsets_X0_has
theorem dX1_fillOffsets_0 : decode cX1_fillOffsets 0 = .ok (.iconst 0, 1) := by decide +kernel
theorem dX1_fillOffsets_1 : decode cX1_fillOffsets 1 = .ok (.istore_n 1, 1) := by decide +kernel
theorem dX1_fillOffsets_2 : decode cX1_fillOffsets 2 = .ok (.iconst 0, 1) := by decide +kernel
theorem dX1_fillOffsets_3 : decode cX1_fillOffsets 3 = .ok (.istore_n 2, 1) := by decide +kernel
theorem dX1_fillOffsets_4 : decode cX1_fillOffsets 4 = .ok (.iload_n 2, 1) := by decide +kernel
theorem dX1_fillOffsets_5 : decode cX1_fillOffsets 5 = .ok (.aload_n 0, 1) := by decide +kernel
theorem dX1_fillOffsets_6 : decode cX1_fillOffsets 6 = .ok (.getfield 18, 3) := by decide +kernel
theorem dX1_fillOffsets_9 : decode cX1_fillOffsets 9 = .ok (.if_icmp .gt 44, 3) := by decide +kernel
theorem dX1_fillOffsets_12 : decode cX1_fillOffsets 12 = .ok (.iload_n 2, 1) := by decide +kernel
theorem dX1_fillOffsets_13 : decode cX1_fillOffsets 13 = .ok (.aload_n 0, 1) := by decide +kernel
theorem dX1_fillOffsets_14 : decode cX1_fillOffsets 14 = .ok (.getfield 26, 3) := by decide +kernel
theorem dX1_fillOffsets_17 : decode cX1_fillOffsets 17 = .ok (.irem, 1) := by decide +kernel
theorem dX1_fillOffsets_18 : decode cX1_fillOffsets 18 = .ok (.ifCond .ne 15, 3) := by decide +kernel
theorem dX1_fillOffsets_21 : decode cX1_fillOffsets 21 = .ok (.aload_n 0, 1) := by decide +kernel
theorem dX1_fillOffsets_22 : decode cX1_fillOffsets 22 = .ok (.getfield 45, 3) := by decide +kernel
theorem dX1_fillOffsets_25 : decode cX1_fillOffsets 25 = .ok (.iload_n 2, 1) := by decide +kernel
theorem dX1_fillOffsets_26 : decode cX1_fillOffsets 26 = .ok (.aload_n 0, 1) := by decide +kernel
theorem dX1_fillOffsets_27 : decode cX1_fillOffsets 27 = .ok (.getfield 26, 3) := by decide +kernel
theorem dX1_fillOffsets_30 : decode cX1_fillOffsets 30 = .ok (.idiv, 1) := by decide +kernel
theorem dX1_fillOffsets_31 : decode cX1_fillOffsets 31 = .ok (.iload_n 1, 1) := by decide +kernel
theorem dX1_fillOffsets_32 : decode cX1_fillOffsets 32 = .ok (.iastore, 1) := by decide +kernel
theorem dX1_fillOffsets_33 : decode cX1_fillOffsets 33 = .ok (.aload_n 0, 1) := by decide +kernel
theorem dX1_fillOffsets_34 : decode cX1_fillOffsets 34 = .ok (.getfield 41, 3) := by decide +kernel
theorem dX1_fillOffsets_37 : decode cX1_fillOffsets 37 = .ok (.iload_n 2, 1) := by decide +kernel
theorem dX1_fillOffsets_38 : decode cX1_fillOffsets 38 = .ok (.invokevirtual 119, 3) := by decide +kernel
theorem dX1_fillOffsets_41 : decode cX1_fillOffsets 41 = .ok (.ifCond .eq 6, 3) := by decide +kernel
theorem dX1_fillOffsets_44 : decode cX1_fillOffsets 44 = .ok (.iinc 1 1, 3) := by decide +kernel
theorem dX1_fillOffsets_47 : decode cX1_fillOffsets 47 = .ok (.iinc 2 1, 3) := by decide +kernel
theorem dX1_fillOffsets_50 : decode cX1_fillOffsets 50 = .ok (.goto (-46), 3) := by decide +kernel
theorem dX1_fillOffsets_53 : decode cX1_fillOffsets 53 = .ok (.iload_n 1, 1) := by decide +kernel
theorem dX1_fillOffsets_54 : decode cX1_fillOffsets 54 = .ok (.ireturn, 1) := by decide +kernel
set_option maxRecDepth 20000 in
theorem ggX1_newAddress_X0_between : GoodIn wsX1_newAddress wsX0_between := goodIn_r _ [8, 9, 10, 11, 12, 13, 14, 15, 16, 17, 34] (by decide +kernel) (by decide +kernel)
set_option maxRecDepth 20000 in
theorem gX1_newAddress_X0_between : GoodIn wsX1_newAddress (wsV RX1 153 RX0 yX0_between wsX0_between) := goodIn_app (goodIn_of _ (by decide +kernel)) ggX1_newAddress_X0_between
theorem dX1_newAddress_0 : decode cX1_newAddress 0 = .ok (.iload_n 1, 1) := by decide +kernel
theorem dX1_newAddress_1 : decode cX1_newAddress 1 = .ok (.aload_n 0, 1) := by decide +kernel
theorem dX1_newAddress_2 : decode cX1_newAddress 2 = .ok (.getfield 26, 3) := by decide +kernel
theorem dX1_newAddress_5 : decode cX1_newAddress 5 = .ok (.idiv, 1) := by decide +kernel
theorem dX1_newAddress_6 : decode cX1_newAddress 6 = .ok (.istore_n 2, 1) := by decide +kernel
theorem dX1_newAddress_7 : decode cX1_newAddress 7 = .ok (.iconst 1, 1) := by decide +kernel
theorem dX1_newAddress_8 : decode cX1_newAddress 8 = .ok (.aload_n 0, 1) := by decide +kernel
theorem dX1_newAddress_9 : decode cX1_newAddress 9 = .ok (.getfield 45, 3) := by decide +kernel
theorem dX1_newAddress_12 : decode cX1_newAddress 12 = .ok (.iload_n 2, 1) := by decide +kernel
theorem dX1_newAddress_13 : decode cX1_newAddress 13 = .ok (.iaload, 1) := by decide +kernel
theorem dX1_newAddress_14 : decode cX1_newAddress 14 = .ok (.iadd, 1) := by decide +kernel
theorem dX1_newAddress_15 : decode cX1_newAddress 15 = .ok (.aload_n 0, 1) := by decide +kernel
theorem dX1_newAddress_16 : decode cX1_newAddress 16 = .ok (.getfield 41, 3) := by decide +kernel
theorem dX1_newAddress_19 : decode cX1_newAddress 19 = .ok (.iload_n 2, 1) := by decide +kernel
theorem dX1_newAddress_20 : decode cX1_newAddress 20 = .ok (.aload_n 0, 1) := by decide +kernel
theorem dX1_newAddress_21 : decode cX1_newAddress 21 = .ok (.getfield 26, 3) := by decide +kernel
theorem dX1_newAddress_24 : decode cX1_newAddress 24 = .ok (.imul, 1) := by decide +kernel
theorem dX1_newAddress_25 : decode cX1_newAddress 25 = .ok (.iload_n 1, 1) := by decide +kernel
theorem dX1_newAddress_26 : decode cX1_newAddress 26 = .ok (.invokevirtual 153, 3) := by decide +kernel
theorem dX1_newAddress_29 : decode cX1_newAddress 29 = .ok (.iadd, 1) := by decide +kernel
theorem dX1_newAddress_30 : decode cX1_newAddress 30 = .ok (.ireturn, 1) := by decide +kernel
set_option maxRecDepth 20000 in
theorem ggX1_newAddressOrNone_X1_newAddress : GoodIn wsX1_newAddressOrNone wsX1_newAddress := goodIn_r _ [5, 6, 7, 8, 9, 10, 11, 12, 13, 14, 15, 16, 17, 18, 19, 20, 21, 22, 23, 24, 25, 26, 27, 28, 29, 30, 31, 32, 33, 34, 35, 36, 37, 38, 39] (by decide +kernel) (by decide +kernel)
set_option maxRecDepth 20000 in
theorem gX1_newAddressOrNone_X1_newAddress : GoodIn wsX1_newAddressOrNone (wsV RX1 122 RX1 yX1_newAddress wsX1_newAddress) := goodIn_app (goodIn_of _ (by decide +kernel)) ggX1_newAddressOrNone_X1_newAddress
theorem dX1_newAddressOrNone_0 : decode cX1_newAddressOrNone 0 = .ok (.iload_n 1, 1) := by decide +kernel
theorem dX1_newAddressOrNone_1 : decode cX1_newAddressOrNone 1 = .ok (.ifCond .ne 7, 3) := by decide +kernel
theorem dX1_newAddressOrNone_4 : decode cX1_newAddressOrNone 4 = .ok (.iconst 0, 1) := by decide +kernel
theorem dX1_newAddressOrNone_5 : decode cX1_newAddressOrNone 5 = .ok (.goto 8, 3) := by decide +kernel
theorem dX1_newAddressOrNone_8 : decode cX1_newAddressOrNone 8 = .ok (.aload_n 0, 1) := by decide +kernel
theorem dX1_newAddressOrNone_9 : decode cX1_newAddressOrNone 9 = .ok (.iload_n 1, 1) := by decide +kernel
theorem dX1_newAddressOrNone_10 : decode cX1_newAddressOrNone 10 = .ok (.invokevirtual 122, 3) := by decide +kernel
theorem dX1_newAddressOrNone_13 : decode cX1_newAddressOrNone 13 = .ok (.ireturn, 1) := by decide +kernel
set_option maxRecDepth 20000 in
theorem ggX1_copyLiving_J7_fill_53178 : GoodIn wsX1_copyLiving wsJ7_fill_53178 := goodIn_r _ [11] (by decide +kernel) (by decide +kernel)
set_option maxRecDepth 20000 in
theorem gX1_copyLiving_J7_fill_53178 : GoodIn wsX1_copyLiving (va_wsS RX1 156 yJ7_fill_53178 wsJ7_fill_53178) := goodIn_app (goodIn_of _ (by decide +kernel)) ggX1_copyLiving_J7_fill_53178
set_option maxRecDepth 20000 in
theorem ggX1_copyLiving_X0_clear : GoodIn wsX1_copyLiving wsX0_clear := goodIn_r _ [16, 17, 18, 19, 10, 20, 74] (by decide +kernel) (by decide +kernel)
set_option maxRecDepth 20000 in
theorem gX1_copyLiving_X0_clear : GoodIn wsX1_copyLiving (wsV RX1 144 RX0 yX0_clear wsX0_clear) := goodIn_app (goodIn_of _ (by decide +kernel)) ggX1_copyLiving_X0_clear
set_option maxRecDepth 20000 in
theorem ggX1_copyLiving_X0_has : GoodIn wsX1_copyLiving wsX0_has := goodIn_r _ [24, 17, 74] (by decide +kernel) (by decide +kernel)
set_option maxRecDepth 20000 in
theorem gX1_copyLiving_X0_has : GoodIn wsX1_copyLiving (wsV RX1 119 RX0 yX0_has wsX0_has) := goodIn_app (goodIn_of _ (by decide +kernel)) ggX1_copyLiving_X0_has
set_option maxRecDepth 20000 in
theorem ggX1_copyLiving_X1_newAddress : GoodIn wsX1_copyLiving wsX1_newAddress := goodIn_r _ [29, 30, 31, 6, 32, 33, 34, 15, 35, 36, 17, 37, 38, 39, 40, 41, 42, 43, 58, 59, 60, 61, 62, 63, 64, 65, 66, 67, 68, 69, 70, 71, 72, 73, 74] (by decide +kernel) (by decide +kernel)
set_option maxRecDepth 20000 in
theorem gX1_copyLiving_X1_newAddress : GoodIn wsX1_copyLiving (wsV RX1 122 RX1 yX1_newAddress wsX1_newAddress) := goodIn_app (goodIn_of _ (by decide +kernel)) ggX1_copyLiving_X1_newAddress
set_option maxRecDepth 20000 in
theorem ggX1_copyLiving_X1_newAddressOrNone : GoodIn wsX1_copyLiving wsX1_newAddressOrNone := goodIn_r _ [47, 25, 26, 27, 28, 29, 30, 31, 6, 32, 33, 34, 15, 35, 36, 17, 37, 38, 39, 40, 41, 42, 43, 58, 59, 60, 61, 62, 63, 64, 65, 66, 67, 68, 69, 70, 71, 72, 73, 74] (by decide +kernel) (by decide +kernel)
set_option maxRecDepth 20000 in
theorem gX1_copyLiving_X1_newAddressOrNone : GoodIn wsX1_copyLiving (wsV RX1 162 RX1 yX1_newAddressOrNone wsX1_newAddressOrNone) := goodIn_app (goodIn_of _ (by decide +kernel)) ggX1_copyLiving_X1_newAddressOrNone
set_option maxRecDepth 20000 in
theorem ggX1_copyLiving_X1_referencesBy : GoodIn wsX1_copyLiving wsX1_referencesBy := goodIn_r _ [50] (by decide +kernel) (by decide +kernel)
set_option maxRecDepth 20000 in
theorem gX1_copyLiving_X1_referencesBy : GoodIn wsX1_copyLiving (va_wsS RX1 85 yX1_referencesBy wsX1_referencesBy) := goodIn_app (goodIn_of _ (by decide +kernel)) ggX1_copyLiving_X1_referencesBy
set_option maxRecDepth 20000 in
theorem ggX1_copyLiving_X1_plainBy : GoodIn wsX1_copyLiving wsX1_plainBy := goodIn_r _ [53] (by decide +kernel) (by decide +kernel)
set_option maxRecDepth 20000 in
theorem gX1_copyLiving_X1_plainBy : GoodIn wsX1_copyLiving (va_wsS RX1 91 yX1_plainBy wsX1_plainBy) := goodIn_app (goodIn_of _ (by decide +kernel)) ggX1_copyLiving_X1_plainBy
set_option maxRecDepth 20000 in
theorem ggX1_copyLiving_X0_put : GoodIn wsX1_copyLiving wsX0_put := goodIn_r _ [57, 17, 74] (by decide +kernel) (by decide +kernel)
set_option maxRecDepth 20000 in
theorem gX1_copyLiving_X0_put : GoodIn wsX1_copyLiving (wsV RX1 76 RX0 yX0_put wsX0_put) := goodIn_app (goodIn_of _ (by decide +kernel)) ggX1_copyLiving_X0_put
theorem dX1_copyLiving_0 : decode cX1_copyLiving 0 = .ok (.aload_n 0, 1) := by decide +kernel
theorem dX1_copyLiving_1 : decode cX1_copyLiving 1 = .ok (.getfield 57, 3) := by decide +kernel
theorem dX1_copyLiving_4 : decode cX1_copyLiving 4 = .ok (.iconst 0, 1) := by decide +kernel
theorem dX1_copyLiving_5 : decode cX1_copyLiving 5 = .ok (.invokestatic 156, 3) := by decide +kernel
theorem dX1_copyLiving_8 : decode cX1_copyLiving 8 = .ok (.aload_n 0, 1) := by decide +kernel
theorem dX1_copyLiving_9 : decode cX1_copyLiving 9 = .ok (.getfield 63, 3) := by decide +kernel
theorem dX1_copyLiving_12 : decode cX1_copyLiving 12 = .ok (.invokevirtual 144, 3) := by decide +kernel
theorem dX1_copyLiving_15 : decode cX1_copyLiving 15 = .ok (.aload_n 0, 1) := by decide +kernel
theorem dX1_copyLiving_16 : decode cX1_copyLiving 16 = .ok (.iconst 0, 1) := by decide +kernel
theorem dX1_copyLiving_17 : decode cX1_copyLiving 17 = .ok (.putfield 125, 3) := by decide +kernel
theorem dX1_copyLiving_20 : decode cX1_copyLiving 20 = .ok (.aload_n 0, 1) := by decide +kernel
theorem dX1_copyLiving_21 : decode cX1_copyLiving 21 = .ok (.iconst 0, 1) := by decide +kernel
theorem dX1_copyLiving_22 : decode cX1_copyLiving 22 = .ok (.putfield 79, 3) := by decide +kernel
theorem dX1_copyLiving_25 : decode cX1_copyLiving 25 = .ok (.iconst 0, 1) := by decide +kernel
theorem dX1_copyLiving_26 : decode cX1_copyLiving 26 = .ok (.istore_n 1, 1) := by decide +kernel
theorem dX1_copyLiving_27 : decode cX1_copyLiving 27 = .ok (.iconst 0, 1) := by decide +kernel
theorem dX1_copyLiving_28 : decode cX1_copyLiving 28 = .ok (.istore_n 2, 1) := by decide +kernel
theorem dX1_copyLiving_29 : decode cX1_copyLiving 29 = .ok (.iconst 1, 1) := by decide +kernel
theorem dX1_copyLiving_30 : decode cX1_copyLiving 30 = .ok (.istore_n 3, 1) := by decide +kernel
theorem dX1_copyLiving_31 : decode cX1_copyLiving 31 = .ok (.iload_n 3, 1) := by decide +kernel
theorem dX1_copyLiving_32 : decode cX1_copyLiving 32 = .ok (.aload_n 0, 1) := by decide +kernel
theorem dX1_copyLiving_33 : decode cX1_copyLiving 33 = .ok (.getfield 66, 3) := by decide +kernel
theorem dX1_copyLiving_36 : decode cX1_copyLiving 36 = .ok (.if_icmp .ge 130, 3) := by decide +kernel
theorem dX1_copyLiving_39 : decode cX1_copyLiving 39 = .ok (.aload_n 0, 1) := by decide +kernel
theorem dX1_copyLiving_40 : decode cX1_copyLiving 40 = .ok (.getfield 41, 3) := by decide +kernel
theorem dX1_copyLiving_43 : decode cX1_copyLiving 43 = .ok (.iload_n 3, 1) := by decide +kernel
theorem dX1_copyLiving_44 : decode cX1_copyLiving 44 = .ok (.invokevirtual 119, 3) := by decide +kernel
theorem dX1_copyLiving_47 : decode cX1_copyLiving 47 = .ok (.ifCond .ne 6, 3) := by decide +kernel
theorem dX1_copyLiving_50 : decode cX1_copyLiving 50 = .ok (.goto 110, 3) := by decide +kernel
theorem dX1_copyLiving_53 : decode cX1_copyLiving 53 = .ok (.aload_n 0, 1) := by decide +kernel
theorem dX1_copyLiving_54 : decode cX1_copyLiving 54 = .ok (.getfield 54, 3) := by decide +kernel
theorem dX1_copyLiving_57 : decode cX1_copyLiving 57 = .ok (.iload_n 3, 1) := by decide +kernel
theorem dX1_copyLiving_58 : decode cX1_copyLiving 58 = .ok (.iaload, 1) := by decide +kernel
theorem dX1_copyLiving_59 : decode cX1_copyLiving 59 = .ok (.istore 4, 2) := by decide +kernel
theorem dX1_copyLiving_61 : decode cX1_copyLiving 61 = .ok (.aload_n 0, 1) := by decide +kernel
theorem dX1_copyLiving_62 : decode cX1_copyLiving 62 = .ok (.dup, 1) := by decide +kernel
theorem dX1_copyLiving_63 : decode cX1_copyLiving 63 = .ok (.getfield 125, 3) := by decide +kernel
theorem dX1_copyLiving_66 : decode cX1_copyLiving 66 = .ok (.iconst 1, 1) := by decide +kernel
theorem dX1_copyLiving_67 : decode cX1_copyLiving 67 = .ok (.iadd, 1) := by decide +kernel
theorem dX1_copyLiving_68 : decode cX1_copyLiving 68 = .ok (.putfield 125, 3) := by decide +kernel
theorem dX1_copyLiving_71 : decode cX1_copyLiving 71 = .ok (.aload_n 0, 1) := by decide +kernel
theorem dX1_copyLiving_72 : decode cX1_copyLiving 72 = .ok (.iload_n 3, 1) := by decide +kernel
theorem dX1_copyLiving_73 : decode cX1_copyLiving 73 = .ok (.invokevirtual 122, 3) := by decide +kernel
theorem dX1_copyLiving_76 : decode cX1_copyLiving 76 = .ok (.istore 5, 2) := by decide +kernel
theorem dX1_copyLiving_78 : decode cX1_copyLiving 78 = .ok (.iload_n 1, 1) := by decide +kernel
theorem dX1_copyLiving_79 : decode cX1_copyLiving 79 = .ok (.ifCond .le 22, 3) := by decide +kernel
theorem dX1_copyLiving_82 : decode cX1_copyLiving 82 = .ok (.iinc 1 (-1), 3) := by decide +kernel
theorem dX1_copyLiving_85 : decode cX1_copyLiving 85 = .ok (.aload_n 0, 1) := by decide +kernel
theorem dX1_copyLiving_86 : decode cX1_copyLiving 86 = .ok (.getfield 57, 3) := by decide +kernel
theorem dX1_copyLiving_89 : decode cX1_copyLiving 89 = .ok (.iload 5, 2) := by decide +kernel
theorem dX1_copyLiving_91 : decode cX1_copyLiving 91 = .ok (.aload_n 0, 1) := by decide +kernel
theorem dX1_copyLiving_92 : decode cX1_copyLiving 92 = .ok (.iload 4, 2) := by decide +kernel
theorem dX1_copyLiving_94 : decode cX1_copyLiving 94 = .ok (.invokevirtual 162, 3) := by decide +kernel
theorem dX1_copyLiving_97 : decode cX1_copyLiving 97 = .ok (.iastore, 1) := by decide +kernel
theorem dX1_copyLiving_98 : decode cX1_copyLiving 98 = .ok (.goto 62, 3) := by decide +kernel
theorem dX1_copyLiving_101 : decode cX1_copyLiving 101 = .ok (.iload_n 2, 1) := by decide +kernel
theorem dX1_copyLiving_102 : decode cX1_copyLiving 102 = .ok (.ifCond .le 18, 3) := by decide +kernel
theorem dX1_copyLiving_105 : decode cX1_copyLiving 105 = .ok (.iinc 2 (-1), 3) := by decide +kernel
theorem dX1_copyLiving_108 : decode cX1_copyLiving 108 = .ok (.aload_n 0, 1) := by decide +kernel
theorem dX1_copyLiving_109 : decode cX1_copyLiving 109 = .ok (.getfield 57, 3) := by decide +kernel
theorem dX1_copyLiving_112 : decode cX1_copyLiving 112 = .ok (.iload 5, 2) := by decide +kernel
theorem dX1_copyLiving_114 : decode cX1_copyLiving 114 = .ok (.iload 4, 2) := by decide +kernel
theorem dX1_copyLiving_116 : decode cX1_copyLiving 116 = .ok (.iastore, 1) := by decide +kernel
theorem dX1_copyLiving_117 : decode cX1_copyLiving 117 = .ok (.goto 43, 3) := by decide +kernel
theorem dX1_copyLiving_120 : decode cX1_copyLiving 120 = .ok (.iload 4, 2) := by decide +kernel
theorem dX1_copyLiving_122 : decode cX1_copyLiving 122 = .ok (.invokestatic 85, 3) := by decide +kernel
theorem dX1_copyLiving_125 : decode cX1_copyLiving 125 = .ok (.istore_n 1, 1) := by decide +kernel
theorem dX1_copyLiving_126 : decode cX1_copyLiving 126 = .ok (.iload 4, 2) := by decide +kernel
theorem dX1_copyLiving_128 : decode cX1_copyLiving 128 = .ok (.invokestatic 91, 3) := by decide +kernel
theorem dX1_copyLiving_131 : decode cX1_copyLiving 131 = .ok (.istore_n 2, 1) := by decide +kernel
theorem dX1_copyLiving_132 : decode cX1_copyLiving 132 = .ok (.aload_n 0, 1) := by decide +kernel
theorem dX1_copyLiving_133 : decode cX1_copyLiving 133 = .ok (.getfield 57, 3) := by decide +kernel
theorem dX1_copyLiving_136 : decode cX1_copyLiving 136 = .ok (.iload 5, 2) := by decide +kernel
theorem dX1_copyLiving_138 : decode cX1_copyLiving 138 = .ok (.iload 4, 2) := by decide +kernel
theorem dX1_copyLiving_140 : decode cX1_copyLiving 140 = .ok (.iastore, 1) := by decide +kernel
theorem dX1_copyLiving_141 : decode cX1_copyLiving 141 = .ok (.aload_n 0, 1) := by decide +kernel
theorem dX1_copyLiving_142 : decode cX1_copyLiving 142 = .ok (.getfield 63, 3) := by decide +kernel
theorem dX1_copyLiving_145 : decode cX1_copyLiving 145 = .ok (.iload 5, 2) := by decide +kernel
theorem dX1_copyLiving_147 : decode cX1_copyLiving 147 = .ok (.invokevirtual 76, 3) := by decide +kernel
theorem dX1_copyLiving_150 : decode cX1_copyLiving 150 = .ok (.aload_n 0, 1) := by decide +kernel
theorem dX1_copyLiving_151 : decode cX1_copyLiving 151 = .ok (.dup, 1) := by decide +kernel
theorem dX1_copyLiving_152 : decode cX1_copyLiving 152 = .ok (.getfield 79, 3) := by decide +kernel
theorem dX1_copyLiving_155 : decode cX1_copyLiving 155 = .ok (.iconst 1, 1) := by decide +kernel
theorem dX1_copyLiving_156 : decode cX1_copyLiving 156 = .ok (.iadd, 1) := by decide +kernel
theorem dX1_copyLiving_157 : decode cX1_copyLiving 157 = .ok (.putfield 79, 3) := by decide +kernel
theorem dX1_copyLiving_160 : decode cX1_copyLiving 160 = .ok (.iinc 3 1, 3) := by decide +kernel
theorem dX1_copyLiving_163 : decode cX1_copyLiving 163 = .ok (.goto (-132), 3) := by decide +kernel
theorem dX1_copyLiving_166 : decode cX1_copyLiving 166 = .ok (.return_, 1) := by decide +kernel
set_option maxRecDepth 20000 in
theorem ggX1_leadRootsAnew_X1_newAddressOrNone : GoodIn wsX1_leadRootsAnew wsX1_newAddressOrNone := goodIn_r _ [6, 7, 8, 9, 5, 10, 11, 12, 13, 14, 15, 16, 17, 18, 19, 20, 21, 22, 23, 24, 25, 26, 27, 28, 29, 30, 31, 32, 33, 34, 35, 36, 37, 38, 39, 40, 41, 42, 43, 44] (by decide +kernel) (by decide +kernel)
set_option maxRecDepth 20000 in
theorem gX1_leadRootsAnew_X1_newAddressOrNone : GoodIn wsX1_leadRootsAnew (wsV RX1 162 RX1 yX1_newAddressOrNone wsX1_newAddressOrNone) := goodIn_app (goodIn_of _ (by decide +kernel)) ggX1_leadRootsAnew_X1_newAddressOrNone
theorem dX1_leadRootsAnew_0 : decode cX1_leadRootsAnew 0 = .ok (.iconst 0, 1) := by decide +kernel
theorem dX1_leadRootsAnew_1 : decode cX1_leadRootsAnew 1 = .ok (.istore_n 1, 1) := by decide +kernel
theorem dX1_leadRootsAnew_2 : decode cX1_leadRootsAnew 2 = .ok (.iload_n 1, 1) := by decide +kernel
theorem dX1_leadRootsAnew_3 : decode cX1_leadRootsAnew 3 = .ok (.bipush 8, 2) := by decide +kernel
theorem dX1_leadRootsAnew_5 : decode cX1_leadRootsAnew 5 = .ok (.if_icmp .ge 25, 3) := by decide +kernel
theorem dX1_leadRootsAnew_8 : decode cX1_leadRootsAnew 8 = .ok (.aload_n 0, 1) := by decide +kernel
theorem dX1_leadRootsAnew_9 : decode cX1_leadRootsAnew 9 = .ok (.getfield 32, 3) := by decide +kernel
theorem dX1_leadRootsAnew_12 : decode cX1_leadRootsAnew 12 = .ok (.iload_n 1, 1) := by decide +kernel
theorem dX1_leadRootsAnew_13 : decode cX1_leadRootsAnew 13 = .ok (.aload_n 0, 1) := by decide +kernel
theorem dX1_leadRootsAnew_14 : decode cX1_leadRootsAnew 14 = .ok (.aload_n 0, 1) := by decide +kernel
theorem dX1_leadRootsAnew_15 : decode cX1_leadRootsAnew 15 = .ok (.getfield 32, 3) := by decide +kernel
theorem dX1_leadRootsAnew_18 : decode cX1_leadRootsAnew 18 = .ok (.iload_n 1, 1) := by decide +kernel
theorem dX1_leadRootsAnew_19 : decode cX1_leadRootsAnew 19 = .ok (.iaload, 1) := by decide +kernel
theorem dX1_leadRootsAnew_20 : decode cX1_leadRootsAnew 20 = .ok (.invokevirtual 162, 3) := by decide +kernel
theorem dX1_leadRootsAnew_23 : decode cX1_leadRootsAnew 23 = .ok (.iastore, 1) := by decide +kernel
theorem dX1_leadRootsAnew_24 : decode cX1_leadRootsAnew 24 = .ok (.iinc 1 1, 3) := by decide +kernel
theorem dX1_leadRootsAnew_27 : decode cX1_leadRootsAnew 27 = .ok (.goto (-25), 3) := by decide +kernel
theorem dX1_leadRootsAnew_30 : decode cX1_leadRootsAnew 30 = .ok (.return_, 1) := by decide +kernel
theorem dX1_swapSpaces_0 : decode cX1_swapSpaces 0 = .ok (.aload_n 0, 1) := by decide +kernel
theorem dX1_swapSpaces_1 : decode cX1_swapSpaces 1 = .ok (.getfield 54, 3) := by decide +kernel
theorem dX1_swapSpaces_4 : decode cX1_swapSpaces 4 = .ok (.astore_n 1, 1) := by decide +kernel
theorem dX1_swapSpaces_5 : decode cX1_swapSpaces 5 = .ok (.aload_n 0, 1) := by decide +kernel
theorem dX1_swapSpaces_6 : decode cX1_swapSpaces 6 = .ok (.aload_n 0, 1) := by decide +kernel
theorem dX1_swapSpaces_7 : decode cX1_swapSpaces 7 = .ok (.getfield 57, 3) := by decide +kernel
theorem dX1_swapSpaces_10 : decode cX1_swapSpaces 10 = .ok (.putfield 54, 3) := by decide +kernel
theorem dX1_swapSpaces_13 : decode cX1_swapSpaces 13 = .ok (.aload_n 0, 1) := by decide +kernel
theorem dX1_swapSpaces_14 : decode cX1_swapSpaces 14 = .ok (.aload_n 1, 1) := by decide +kernel
theorem dX1_swapSpaces_15 : decode cX1_swapSpaces 15 = .ok (.putfield 57, 3) := by decide +kernel
theorem dX1_swapSpaces_18 : decode cX1_swapSpaces 18 = .ok (.aload_n 0, 1) := by decide +kernel
theorem dX1_swapSpaces_19 : decode cX1_swapSpaces 19 = .ok (.getfield 60, 3) := by decide +kernel
theorem dX1_swapSpaces_22 : decode cX1_swapSpaces 22 = .ok (.astore_n 2, 1) := by decide +kernel
theorem dX1_swapSpaces_23 : decode cX1_swapSpaces 23 = .ok (.aload_n 0, 1) := by decide +kernel
theorem dX1_swapSpaces_24 : decode cX1_swapSpaces 24 = .ok (.aload_n 0, 1) := by decide +kernel
theorem dX1_swapSpaces_25 : decode cX1_swapSpaces 25 = .ok (.getfield 63, 3) := by decide +kernel
theorem dX1_swapSpaces_28 : decode cX1_swapSpaces 28 = .ok (.putfield 60, 3) := by decide +kernel
theorem dX1_swapSpaces_31 : decode cX1_swapSpaces 31 = .ok (.aload_n 0, 1) := by decide +kernel
theorem dX1_swapSpaces_32 : decode cX1_swapSpaces 32 = .ok (.aload_n 2, 1) := by decide +kernel
theorem dX1_swapSpaces_33 : decode cX1_swapSpaces 33 = .ok (.putfield 63, 3) := by decide +kernel
theorem dX1_swapSpaces_36 : decode cX1_swapSpaces 36 = .ok (.return_, 1) := by decide +kernel
set_option maxRecDepth 20000 in
theorem ggX1_objectsLieInARow_X0_has : GoodIn wsX1_objectsLieInARow wsX0_has := goodIn_r _ [8, 9, 36] (by decide +kernel) (by decide +kernel)
set_option maxRecDepth 20000 in
theorem gX1_objectsLieInARow_X0_has : GoodIn wsX1_objectsLieInARow (wsV RX1 119 RX0 yX0_has wsX0_has) := goodIn_app (goodIn_of _ (by decide +kernel)) ggX1_objectsLieInARow_X0_has
set_option maxRecDepth 20000 in
theorem ggX1_objectsLieInARow_X1_sizeBy : GoodIn wsX1_objectsLieInARow wsX1_sizeBy := goodIn_r _ [13, 14, 15, 12, 16, 17, 18, 19] (by decide +kernel) (by decide +kernel)
set_option maxRecDepth 20000 in
theorem gX1_objectsLieInARow_X1_sizeBy : GoodIn wsX1_objectsLieInARow (va_wsS RX1 72 yX1_sizeBy wsX1_sizeBy) := goodIn_app (goodIn_of _ (by decide +kernel)) ggX1_objectsLieInARow_X1_sizeBy
theorem dX1_objectsLieInARow_0 : decode cX1_objectsLieInARow 0 = .ok (.iconst 1, 1) := by decide +kernel
theorem dX1_objectsLieInARow_1 : decode cX1_objectsLieInARow 1 = .ok (.istore_n 1, 1) := by decide +kernel
theorem dX1_objectsLieInARow_2 : decode cX1_objectsLieInARow 2 = .ok (.iconst 1, 1) := by decide +kernel
theorem dX1_objectsLieInARow_3 : decode cX1_objectsLieInARow 3 = .ok (.istore_n 2, 1) := by decide +kernel
theorem dX1_objectsLieInARow_4 : decode cX1_objectsLieInARow 4 = .ok (.iload_n 2, 1) := by decide +kernel
theorem dX1_objectsLieInARow_5 : decode cX1_objectsLieInARow 5 = .ok (.aload_n 0, 1) := by decide +kernel
theorem dX1_objectsLieInARow_6 : decode cX1_objectsLieInARow 6 = .ok (.getfield 66, 3) := by decide +kernel
theorem dX1_objectsLieInARow_9 : decode cX1_objectsLieInARow 9 = .ok (.if_icmp .ge 49, 3) := by decide +kernel
theorem dX1_objectsLieInARow_12 : decode cX1_objectsLieInARow 12 = .ok (.aload_n 0, 1) := by decide +kernel
theorem dX1_objectsLieInARow_13 : decode cX1_objectsLieInARow 13 = .ok (.getfield 60, 3) := by decide +kernel
theorem dX1_objectsLieInARow_16 : decode cX1_objectsLieInARow 16 = .ok (.iload_n 2, 1) := by decide +kernel
theorem dX1_objectsLieInARow_17 : decode cX1_objectsLieInARow 17 = .ok (.invokevirtual 119, 3) := by decide +kernel
theorem dX1_objectsLieInARow_20 : decode cX1_objectsLieInARow 20 = .ok (.iload_n 2, 1) := by decide +kernel
theorem dX1_objectsLieInARow_21 : decode cX1_objectsLieInARow 21 = .ok (.iload_n 1, 1) := by decide +kernel
theorem dX1_objectsLieInARow_22 : decode cX1_objectsLieInARow 22 = .ok (.if_icmp .ne 7, 3) := by decide +kernel
theorem dX1_objectsLieInARow_25 : decode cX1_objectsLieInARow 25 = .ok (.iconst 1, 1) := by decide +kernel
theorem dX1_objectsLieInARow_26 : decode cX1_objectsLieInARow 26 = .ok (.goto 4, 3) := by decide +kernel
theorem dX1_objectsLieInARow_29 : decode cX1_objectsLieInARow 29 = .ok (.iconst 0, 1) := by decide +kernel
theorem dX1_objectsLieInARow_30 : decode cX1_objectsLieInARow 30 = .ok (.if_icmp .eq 5, 3) := by decide +kernel
theorem dX1_objectsLieInARow_33 : decode cX1_objectsLieInARow 33 = .ok (.iconst 0, 1) := by decide +kernel
theorem dX1_objectsLieInARow_34 : decode cX1_objectsLieInARow 34 = .ok (.ireturn, 1) := by decide +kernel
theorem dX1_objectsLieInARow_35 : decode cX1_objectsLieInARow 35 = .ok (.iload_n 2, 1) := by decide +kernel
theorem dX1_objectsLieInARow_36 : decode cX1_objectsLieInARow 36 = .ok (.iload_n 1, 1) := by decide +kernel
theorem dX1_objectsLieInARow_37 : decode cX1_objectsLieInARow 37 = .ok (.if_icmp .ne 15, 3) := by decide +kernel
theorem dX1_objectsLieInARow_40 : decode cX1_objectsLieInARow 40 = .ok (.iload_n 2, 1) := by decide +kernel
theorem dX1_objectsLieInARow_41 : decode cX1_objectsLieInARow 41 = .ok (.aload_n 0, 1) := by decide +kernel
theorem dX1_objectsLieInARow_42 : decode cX1_objectsLieInARow 42 = .ok (.getfield 54, 3) := by decide +kernel
theorem dX1_objectsLieInARow_45 : decode cX1_objectsLieInARow 45 = .ok (.iload_n 2, 1) := by decide +kernel
theorem dX1_objectsLieInARow_46 : decode cX1_objectsLieInARow 46 = .ok (.iaload, 1) := by decide +kernel
theorem dX1_objectsLieInARow_47 : decode cX1_objectsLieInARow 47 = .ok (.invokestatic 72, 3) := by decide +kernel
theorem dX1_objectsLieInARow_50 : decode cX1_objectsLieInARow 50 = .ok (.iadd, 1) := by decide +kernel
theorem dX1_objectsLieInARow_51 : decode cX1_objectsLieInARow 51 = .ok (.istore_n 1, 1) := by decide +kernel
theorem dX1_objectsLieInARow_52 : decode cX1_objectsLieInARow 52 = .ok (.iinc 2 1, 3) := by decide +kernel
theorem dX1_objectsLieInARow_55 : decode cX1_objectsLieInARow 55 = .ok (.goto (-51), 3) := by decide +kernel
theorem dX1_objectsLieInARow_58 : decode cX1_objectsLieInARow 58 = .ok (.iload_n 1, 1) := by decide +kernel
theorem dX1_objectsLieInARow_59 : decode cX1_objectsLieInARow 59 = .ok (.aload_n 0, 1) := by decide +kernel
theorem dX1_objectsLieInARow_60 : decode cX1_objectsLieInARow 60 = .ok (.getfield 66, 3) := by decide +kernel
theorem dX1_objectsLieInARow_63 : decode cX1_objectsLieInARow 63 = .ok (.if_icmp .ne 7, 3) := by decide +kernel
theorem dX1_objectsLieInARow_66 : decode cX1_objectsLieInARow 66 = .ok (.iconst 1, 1) := by decide +kernel
theorem dX1_objectsLieInARow_67 : decode cX1_objectsLieInARow 67 = .ok (.goto 4, 3) := by decide +kernel
theorem dX1_objectsLieInARow_70 : decode cX1_objectsLieInARow 70 = .ok (.iconst 0, 1) := by decide +kernel
theorem dX1_objectsLieInARow_71 : decode cX1_objectsLieInARow 71 = .ok (.ireturn, 1) := by decide +kernel
set_option maxRecDepth 20000 in
theorem ggX1_rootsLeadToHeaders_X1_isObjectOrNone : GoodIn wsX1_rootsLeadToHeaders wsX1_isObjectOrNone := goodIn_r _ [6, 7, 8, 9, 5, 10, 11, 12, 13, 14, 15, 16, 17, 18, 19, 20, 21, 22, 23, 24, 25, 26, 27, 28, 29, 30, 31, 32, 33, 34, 35] (by decide +kernel) (by decide +kernel)
set_option maxRecDepth 20000 in
theorem gX1_rootsLeadToHeaders_X1_isObjectOrNone : GoodIn wsX1_rootsLeadToHeaders (wsV RX1 88 RX1 yX1_isObjectOrNone wsX1_isObjectOrNone) := goodIn_app (goodIn_of _ (by decide +kernel)) ggX1_rootsLeadToHeaders_X1_isObjectOrNone
theorem dX1_rootsLeadToHeaders_0 : decode cX1_rootsLeadToHeaders 0 = .ok (.iconst 0, 1) := by decide +kernel
theorem dX1_rootsLeadToHeaders_1 : decode cX1_rootsLeadToHeaders 1 = .ok (.istore_n 1, 1) := by decide +kernel
theorem dX1_rootsLeadToHeaders_2 : decode cX1_rootsLeadToHeaders 2 = .ok (.iload_n 1, 1) := by decide +kernel
theorem dX1_rootsLeadToHeaders_3 : decode cX1_rootsLeadToHeaders 3 = .ok (.bipush 8, 2) := by decide +kernel
theorem dX1_rootsLeadToHeaders_5 : decode cX1_rootsLeadToHeaders 5 = .ok (.if_icmp .ge 24, 3) := by decide +kernel
theorem dX1_rootsLeadToHeaders_8 : decode cX1_rootsLeadToHeaders 8 = .ok (.aload_n 0, 1) := by decide +kernel
theorem dX1_rootsLeadToHeaders_9 : decode cX1_rootsLeadToHeaders 9 = .ok (.aload_n 0, 1) := by decide +kernel
theorem dX1_rootsLeadToHeaders_10 : decode cX1_rootsLeadToHeaders 10 = .ok (.getfield 32, 3) := by decide +kernel
theorem dX1_rootsLeadToHeaders_13 : decode cX1_rootsLeadToHeaders 13 = .ok (.iload_n 1, 1) := by decide +kernel
theorem dX1_rootsLeadToHeaders_14 : decode cX1_rootsLeadToHeaders 14 = .ok (.iaload, 1) := by decide +kernel
theorem dX1_rootsLeadToHeaders_15 : decode cX1_rootsLeadToHeaders 15 = .ok (.invokevirtual 88, 3) := by decide +kernel
theorem dX1_rootsLeadToHeaders_18 : decode cX1_rootsLeadToHeaders 18 = .ok (.ifCond .ne 5, 3) := by decide +kernel
theorem dX1_rootsLeadToHeaders_21 : decode cX1_rootsLeadToHeaders 21 = .ok (.iconst 0, 1) := by decide +kernel
theorem dX1_rootsLeadToHeaders_22 : decode cX1_rootsLeadToHeaders 22 = .ok (.ireturn, 1) := by decide +kernel
theorem dX1_rootsLeadToHeaders_23 : decode cX1_rootsLeadToHeaders 23 = .ok (.iinc 1 1, 3) := by decide +kernel
theorem dX1_rootsLeadToHeaders_26 : decode cX1_rootsLeadToHeaders 26 = .ok (.goto (-24), 3) := by decide +kernel
theorem dX1_rootsLeadToHeaders_29 : decode cX1_rootsLeadToHeaders 29 = .ok (.iconst 1, 1) := by decide +kernel
theorem dX1_rootsLeadToHeaders_30 : decode cX1_rootsLeadToHeaders 30 = .ok (.ireturn, 1) := by decide +kernel
set_option maxRecDepth 20000 in
theorem ggX1_referencesLeadToHeaders_X0_has : GoodIn wsX1_referencesLeadToHeaders wsX0_has := goodIn_r _ [7, 8, 42] (by decide +kernel) (by decide +kernel)
set_option maxRecDepth 20000 in
theorem gX1_referencesLeadToHeaders_X0_has : GoodIn wsX1_referencesLeadToHeaders (wsV RX1 119 RX0 yX0_has wsX0_has) := goodIn_app (goodIn_of _ (by decide +kernel)) ggX1_referencesLeadToHeaders_X0_has
set_option maxRecDepth 20000 in
theorem ggX1_referencesLeadToHeaders_X1_referencesOfLeadToHeaders : GoodIn wsX1_referencesLeadToHeaders wsX1_referencesOfLeadToHeaders := goodIn_r _ [13, 14, 15, 16, 12, 17, 18, 19, 20, 21, 22, 23, 24, 25, 1, 2, 3, 4, 5, 6, 7, 8, 26, 27, 28, 29, 30, 31, 32, 33, 34, 35, 36, 37, 38, 39, 40, 41, 42] (by decide +kernel) (by decide +kernel)
set_option maxRecDepth 20000 in
theorem gX1_referencesLeadToHeaders_X1_referencesOfLeadToHeaders : GoodIn wsX1_referencesLeadToHeaders (wsV RX1 165 RX1 yX1_referencesOfLeadToHeaders wsX1_referencesOfLeadToHeaders) := goodIn_app (goodIn_of _ (by decide +kernel)) ggX1_referencesLeadToHeaders_X1_referencesOfLeadToHeaders
theorem dX1_referencesLeadToHeaders_0 : decode cX1_referencesLeadToHeaders 0 = .ok (.iconst 1, 1) := by decide +kernel
theorem dX1_referencesLeadToHeaders_1 : decode cX1_referencesLeadToHeaders 1 = .ok (.istore_n 1, 1) := by decide +kernel
theorem dX1_referencesLeadToHeaders_2 : decode cX1_referencesLeadToHeaders 2 = .ok (.iload_n 1, 1) := by decide +kernel
theorem dX1_referencesLeadToHeaders_3 : decode cX1_referencesLeadToHeaders 3 = .ok (.aload_n 0, 1) := by decide +kernel
theorem dX1_referencesLeadToHeaders_4 : decode cX1_referencesLeadToHeaders 4 = .ok (.getfield 66, 3) := by decide +kernel
theorem dX1_referencesLeadToHeaders_7 : decode cX1_referencesLeadToHeaders 7 = .ok (.if_icmp .ge 30, 3) := by decide +kernel
theorem dX1_referencesLeadToHeaders_10 : decode cX1_referencesLeadToHeaders 10 = .ok (.aload_n 0, 1) := by decide +kernel
theorem dX1_referencesLeadToHeaders_11 : decode cX1_referencesLeadToHeaders 11 = .ok (.getfield 60, 3) := by decide +kernel
theorem dX1_referencesLeadToHeaders_14 : decode cX1_referencesLeadToHeaders 14 = .ok (.iload_n 1, 1) := by decide +kernel
theorem dX1_referencesLeadToHeaders_15 : decode cX1_referencesLeadToHeaders 15 = .ok (.invokevirtual 119, 3) := by decide +kernel
theorem dX1_referencesLeadToHeaders_18 : decode cX1_referencesLeadToHeaders 18 = .ok (.ifCond .eq 13, 3) := by decide +kernel
theorem dX1_referencesLeadToHeaders_21 : decode cX1_referencesLeadToHeaders 21 = .ok (.aload_n 0, 1) := by decide +kernel
theorem dX1_referencesLeadToHeaders_22 : decode cX1_referencesLeadToHeaders 22 = .ok (.iload_n 1, 1) := by decide +kernel
theorem dX1_referencesLeadToHeaders_23 : decode cX1_referencesLeadToHeaders 23 = .ok (.invokevirtual 165, 3) := by decide +kernel
theorem dX1_referencesLeadToHeaders_26 : decode cX1_referencesLeadToHeaders 26 = .ok (.ifCond .ne 5, 3) := by decide +kernel
theorem dX1_referencesLeadToHeaders_29 : decode cX1_referencesLeadToHeaders 29 = .ok (.iconst 0, 1) := by decide +kernel
theorem dX1_referencesLeadToHeaders_30 : decode cX1_referencesLeadToHeaders 30 = .ok (.ireturn, 1) := by decide +kernel
theorem dX1_referencesLeadToHeaders_31 : decode cX1_referencesLeadToHeaders 31 = .ok (.iinc 1 1, 3) := by decide +kernel
theorem dX1_referencesLeadToHeaders_34 : decode cX1_referencesLeadToHeaders 34 = .ok (.goto (-32), 3) := by decide +kernel
theorem dX1_referencesLeadToHeaders_37 : decode cX1_referencesLeadToHeaders 37 = .ok (.iconst 1, 1) := by decide +kernel
theorem dX1_referencesLeadToHeaders_38 : decode cX1_referencesLeadToHeaders 38 = .ok (.ireturn, 1) := by decide +kernel
set_option maxRecDepth 20000 in
theorem ggX1_referencesOfLeadToHeaders_X1_referencesBy : GoodIn wsX1_referencesOfLeadToHeaders wsX1_referencesBy := goodIn_r _ [5] (by decide +kernel) (by decide +kernel)
set_option maxRecDepth 20000 in
theorem gX1_referencesOfLeadToHeaders_X1_referencesBy : GoodIn wsX1_referencesOfLeadToHeaders (va_wsS RX1 85 yX1_referencesBy wsX1_referencesBy) := goodIn_app (goodIn_of _ (by decide +kernel)) ggX1_referencesOfLeadToHeaders_X1_referencesBy
set_option maxRecDepth 20000 in
theorem ggX1_referencesOfLeadToHeaders_X1_isObjectOrNone : GoodIn wsX1_referencesOfLeadToHeaders wsX1_isObjectOrNone := goodIn_r _ [9, 10, 11, 12, 4, 13, 14, 15, 16, 17, 18, 19, 20, 21, 22, 23, 24, 25, 26, 27, 28, 29, 30, 31, 32, 33, 34, 35, 36, 37, 38] (by decide +kernel) (by decide +kernel)
set_option maxRecDepth 20000 in
theorem gX1_referencesOfLeadToHeaders_X1_isObjectOrNone : GoodIn wsX1_referencesOfLeadToHeaders (wsV RX1 88 RX1 yX1_isObjectOrNone wsX1_isObjectOrNone) := goodIn_app (goodIn_of _ (by decide +kernel)) ggX1_referencesOfLeadToHeaders_X1_isObjectOrNone
theorem dX1_referencesOfLeadToHeaders_0 : decode cX1_referencesOfLeadToHeaders 0 = .ok (.aload_n 0, 1) := by decide +kernel
theorem dX1_referencesOfLeadToHeaders_1 : decode cX1_referencesOfLeadToHeaders 1 = .ok (.getfield 54, 3) := by decide +kernel
theorem dX1_referencesOfLeadToHeaders_4 : decode cX1_referencesOfLeadToHeaders 4 = .ok (.iload_n 1, 1) := by decide +kernel
theorem dX1_referencesOfLeadToHeaders_5 : decode cX1_referencesOfLeadToHeaders 5 = .ok (.iaload, 1) := by decide +kernel
theorem dX1_referencesOfLeadToHeaders_6 : decode cX1_referencesOfLeadToHeaders 6 = .ok (.invokestatic 85, 3) := by decide +kernel
theorem dX1_referencesOfLeadToHeaders_9 : decode cX1_referencesOfLeadToHeaders 9 = .ok (.istore_n 2, 1) := by decide +kernel
theorem dX1_referencesOfLeadToHeaders_10 : decode cX1_referencesOfLeadToHeaders 10 = .ok (.iconst 0, 1) := by decide +kernel
theorem dX1_referencesOfLeadToHeaders_11 : decode cX1_referencesOfLeadToHeaders 11 = .ok (.istore_n 3, 1) := by decide +kernel
theorem dX1_referencesOfLeadToHeaders_12 : decode cX1_referencesOfLeadToHeaders 12 = .ok (.iload_n 3, 1) := by decide +kernel
theorem dX1_referencesOfLeadToHeaders_13 : decode cX1_referencesOfLeadToHeaders 13 = .ok (.iload_n 2, 1) := by decide +kernel
theorem dX1_referencesOfLeadToHeaders_14 : decode cX1_referencesOfLeadToHeaders 14 = .ok (.if_icmp .ge 28, 3) := by decide +kernel
theorem dX1_referencesOfLeadToHeaders_17 : decode cX1_referencesOfLeadToHeaders 17 = .ok (.aload_n 0, 1) := by decide +kernel
theorem dX1_referencesOfLeadToHeaders_18 : decode cX1_referencesOfLeadToHeaders 18 = .ok (.aload_n 0, 1) := by decide +kernel
theorem dX1_referencesOfLeadToHeaders_19 : decode cX1_referencesOfLeadToHeaders 19 = .ok (.getfield 54, 3) := by decide +kernel
theorem dX1_referencesOfLeadToHeaders_22 : decode cX1_referencesOfLeadToHeaders 22 = .ok (.iload_n 1, 1) := by decide +kernel
theorem dX1_referencesOfLeadToHeaders_23 : decode cX1_referencesOfLeadToHeaders 23 = .ok (.iconst 1, 1) := by decide +kernel
theorem dX1_referencesOfLeadToHeaders_24 : decode cX1_referencesOfLeadToHeaders 24 = .ok (.iadd, 1) := by decide +kernel
theorem dX1_referencesOfLeadToHeaders_25 : decode cX1_referencesOfLeadToHeaders 25 = .ok (.iload_n 3, 1) := by decide +kernel
theorem dX1_referencesOfLeadToHeaders_26 : decode cX1_referencesOfLeadToHeaders 26 = .ok (.iadd, 1) := by decide +kernel
theorem dX1_referencesOfLeadToHeaders_27 : decode cX1_referencesOfLeadToHeaders 27 = .ok (.iaload, 1) := by decide +kernel
theorem dX1_referencesOfLeadToHeaders_28 : decode cX1_referencesOfLeadToHeaders 28 = .ok (.invokevirtual 88, 3) := by decide +kernel
theorem dX1_referencesOfLeadToHeaders_31 : decode cX1_referencesOfLeadToHeaders 31 = .ok (.ifCond .ne 5, 3) := by decide +kernel
theorem dX1_referencesOfLeadToHeaders_34 : decode cX1_referencesOfLeadToHeaders 34 = .ok (.iconst 0, 1) := by decide +kernel
theorem dX1_referencesOfLeadToHeaders_35 : decode cX1_referencesOfLeadToHeaders 35 = .ok (.ireturn, 1) := by decide +kernel
theorem dX1_referencesOfLeadToHeaders_36 : decode cX1_referencesOfLeadToHeaders 36 = .ok (.iinc 3 1, 3) := by decide +kernel
theorem dX1_referencesOfLeadToHeaders_39 : decode cX1_referencesOfLeadToHeaders 39 = .ok (.goto (-27), 3) := by decide +kernel
theorem dX1_referencesOfLeadToHeaders_42 : decode cX1_referencesOfLeadToHeaders 42 = .ok (.iconst 1, 1) := by decide +kernel
theorem dX1_referencesOfLeadToHeaders_43 : decode cX1_referencesOfLeadToHeaders 43 = .ok (.ireturn, 1) := by decide +kernel
set_option maxRecDepth 20000 in
theorem ggX1_newAddressesFollowFromBits_X0_has : GoodIn wsX1_newAddressesFollowFromBits wsX0_has := goodIn_r _ [7, 8, 44] (by decide +kernel) (by decide +kernel)
set_option maxRecDepth 20000 in
theorem gX1_newAddressesFollowFromBits_X0_has : GoodIn wsX1_newAddressesFollowFromBits (wsV RX1 119 RX0 yX0_has wsX0_has) := goodIn_app (goodIn_of _ (by decide +kernel)) ggX1_newAddressesFollowFromBits_X0_has
set_option maxRecDepth 20000 in
theorem ggX1_newAddressesFollowFromBits_X1_newAddress : GoodIn wsX1_newAddressesFollowFromBits wsX1_newAddress := goodIn_r _ [13, 14, 15, 2, 16, 17, 18, 6, 19, 20, 8, 21, 22, 23, 24, 25, 26, 27, 28, 29, 30, 31, 32, 33, 34, 35, 36, 37, 38, 39, 40, 41, 42, 43, 44] (by decide +kernel) (by decide +kernel)
set_option maxRecDepth 20000 in
theorem gX1_newAddressesFollowFromBits_X1_newAddress : GoodIn wsX1_newAddressesFollowFromBits (wsV RX1 122 RX1 yX1_newAddress wsX1_newAddress) := goodIn_app (goodIn_of _ (by decide +kernel)) ggX1_newAddressesFollowFromBits_X1_newAddress
theorem dX1_newAddressesFollowFromBits_0 : decode cX1_newAddressesFollowFromBits 0 = .ok (.iconst 0, 1) := by decide +kernel
theorem dX1_newAddressesFollowFromBits_1 : decode cX1_newAddressesFollowFromBits 1 = .ok (.istore_n 1, 1) := by decide +kernel
theorem dX1_newAddressesFollowFromBits_2 : decode cX1_newAddressesFollowFromBits 2 = .ok (.iconst 0, 1) := by decide +kernel
theorem dX1_newAddressesFollowFromBits_3 : decode cX1_newAddressesFollowFromBits 3 = .ok (.istore_n 2, 1) := by decide +kernel
theorem dX1_newAddressesFollowFromBits_4 : decode cX1_newAddressesFollowFromBits 4 = .ok (.iload_n 2, 1) := by decide +kernel
theorem dX1_newAddressesFollowFromBits_5 : decode cX1_newAddressesFollowFromBits 5 = .ok (.aload_n 0, 1) := by decide +kernel
theorem dX1_newAddressesFollowFromBits_6 : decode cX1_newAddressesFollowFromBits 6 = .ok (.getfield 18, 3) := by decide +kernel
theorem dX1_newAddressesFollowFromBits_9 : decode cX1_newAddressesFollowFromBits 9 = .ok (.if_icmp .gt 36, 3) := by decide +kernel
theorem dX1_newAddressesFollowFromBits_12 : decode cX1_newAddressesFollowFromBits 12 = .ok (.aload_n 0, 1) := by decide +kernel
theorem dX1_newAddressesFollowFromBits_13 : decode cX1_newAddressesFollowFromBits 13 = .ok (.getfield 41, 3) := by decide +kernel
theorem dX1_newAddressesFollowFromBits_16 : decode cX1_newAddressesFollowFromBits 16 = .ok (.iload_n 2, 1) := by decide +kernel
theorem dX1_newAddressesFollowFromBits_17 : decode cX1_newAddressesFollowFromBits 17 = .ok (.invokevirtual 119, 3) := by decide +kernel
theorem dX1_newAddressesFollowFromBits_20 : decode cX1_newAddressesFollowFromBits 20 = .ok (.ifCond .eq 19, 3) := by decide +kernel
theorem dX1_newAddressesFollowFromBits_23 : decode cX1_newAddressesFollowFromBits 23 = .ok (.aload_n 0, 1) := by decide +kernel
theorem dX1_newAddressesFollowFromBits_24 : decode cX1_newAddressesFollowFromBits 24 = .ok (.iload_n 2, 1) := by decide +kernel
theorem dX1_newAddressesFollowFromBits_25 : decode cX1_newAddressesFollowFromBits 25 = .ok (.invokevirtual 122, 3) := by decide +kernel
theorem dX1_newAddressesFollowFromBits_28 : decode cX1_newAddressesFollowFromBits 28 = .ok (.iconst 1, 1) := by decide +kernel
theorem dX1_newAddressesFollowFromBits_29 : decode cX1_newAddressesFollowFromBits 29 = .ok (.iload_n 1, 1) := by decide +kernel
theorem dX1_newAddressesFollowFromBits_30 : decode cX1_newAddressesFollowFromBits 30 = .ok (.iadd, 1) := by decide +kernel
theorem dX1_newAddressesFollowFromBits_31 : decode cX1_newAddressesFollowFromBits 31 = .ok (.if_icmp .eq 5, 3) := by decide +kernel
theorem dX1_newAddressesFollowFromBits_34 : decode cX1_newAddressesFollowFromBits 34 = .ok (.iconst 0, 1) := by decide +kernel
theorem dX1_newAddressesFollowFromBits_35 : decode cX1_newAddressesFollowFromBits 35 = .ok (.ireturn, 1) := by decide +kernel
theorem dX1_newAddressesFollowFromBits_36 : decode cX1_newAddressesFollowFromBits 36 = .ok (.iinc 1 1, 3) := by decide +kernel
theorem dX1_newAddressesFollowFromBits_39 : decode cX1_newAddressesFollowFromBits 39 = .ok (.iinc 2 1, 3) := by decide +kernel
theorem dX1_newAddressesFollowFromBits_42 : decode cX1_newAddressesFollowFromBits 42 = .ok (.goto (-38), 3) := by decide +kernel
theorem dX1_newAddressesFollowFromBits_45 : decode cX1_newAddressesFollowFromBits 45 = .ok (.iconst 1, 1) := by decide +kernel
theorem dX1_newAddressesFollowFromBits_46 : decode cX1_newAddressesFollowFromBits 46 = .ok (.ireturn, 1) := by decide +kernel
theorem dX2_init_0 : decode cX2_init 0 = .ok (.aload_n 0, 1) := by decide +kernel
theorem dX2_init_1 : decode cX2_init 1 = .ok (.invokespecial 1, 3) := by decide +kernel
theorem dX2_init_4 : decode cX2_init 4 = .ok (.aload_n 0, 1) := by decide +kernel
theorem dX2_init_5 : decode cX2_init 5 = .ok (.iconst 1, 1) := by decide +kernel
theorem dX2_init_6 : decode cX2_init 6 = .ok (.putfield 7, 3) := by decide +kernel
theorem dX2_init_9 : decode cX2_init 9 = .ok (.aload_n 0, 1) := by decide +kernel
theorem dX2_init_10 : decode cX2_init 10 = .ok (.sipush 4001, 3) := by decide +kernel
theorem dX2_init_13 : decode cX2_init 13 = .ok (.newarray .int, 2) := by decide +kernel
theorem dX2_init_15 : decode cX2_init 15 = .ok (.putfield 13, 3) := by decide +kernel
theorem dX2_init_18 : decode cX2_init 18 = .ok (.aload_n 0, 1) := by decide +kernel
theorem dX2_init_19 : decode cX2_init 19 = .ok (.sipush 4001, 3) := by decide +kernel
theorem dX2_init_22 : decode cX2_init 22 = .ok (.newarray .int, 2) := by decide +kernel
theorem dX2_init_24 : decode cX2_init 24 = .ok (.putfield 17, 3) := by decide +kernel
theorem dX2_init_27 : decode cX2_init 27 = .ok (.aload_n 0, 1) := by decide +kernel
theorem dX2_init_28 : decode cX2_init 28 = .ok (.sipush 4002, 3) := by decide +kernel
theorem dX2_init_31 : decode cX2_init 31 = .ok (.newarray .boolean, 2) := by decide +kernel
theorem dX2_init_33 : decode cX2_init 33 = .ok (.putfield 20, 3) := by decide +kernel
theorem dX2_init_36 : decode cX2_init 36 = .ok (.aload_n 0, 1) := by decide +kernel
theorem dX2_init_37 : decode cX2_init 37 = .ok (.sipush 4002, 3) := by decide +kernel
theorem dX2_init_40 : decode cX2_init 40 = .ok (.newarray .boolean, 2) := by decide +kernel
theorem dX2_init_42 : decode cX2_init 42 = .ok (.putfield 24, 3) := by decide +kernel
theorem dX2_init_45 : decode cX2_init 45 = .ok (.aload_n 0, 1) := by decide +kernel
theorem dX2_init_46 : decode cX2_init 46 = .ok (.bipush 8, 2) := by decide +kernel
theorem dX2_init_48 : decode cX2_init 48 = .ok (.newarray .int, 2) := by decide +kernel
theorem dX2_init_50 : decode cX2_init 50 = .ok (.putfield 27, 3) := by decide +kernel
theorem dX2_init_53 : decode cX2_init 53 = .ok (.aload_n 0, 1) := by decide +kernel
theorem dX2_init_54 : decode cX2_init 54 = .ok (.sipush 4001, 3) := by decide +kernel
theorem dX2_init_57 : decode cX2_init 57 = .ok (.newarray .int, 2) := by decide +kernel
theorem dX2_init_59 : decode cX2_init 59 = .ok (.putfield 30, 3) := by decide +kernel
theorem dX2_init_62 : decode cX2_init 62 = .ok (.aload_n 0, 1) := by decide +kernel
theorem dX2_init_63 : decode cX2_init 63 = .ok (.sipush 4001, 3) := by decide +kernel
theorem dX2_init_66 : decode cX2_init 66 = .ok (.newarray .int, 2) := by decide +kernel
theorem dX2_init_68 : decode cX2_init 68 = .ok (.putfield 33, 3) := by decide +kernel
theorem dX2_init_71 : decode cX2_init 71 = .ok (.aload_n 0, 1) := by decide +kernel
theorem dX2_init_72 : decode cX2_init 72 = .ok (.iload_n 1, 1) := by decide +kernel
theorem dX2_init_73 : decode cX2_init 73 = .ok (.bipush 16, 2) := by decide +kernel
theorem dX2_init_75 : decode cX2_init 75 = .ok (.if_icmp .ge 8, 3) := by decide +kernel
theorem dX2_init_78 : decode cX2_init 78 = .ok (.bipush 16, 2) := by decide +kernel
theorem dX2_init_80 : decode cX2_init 80 = .ok (.goto 17, 3) := by decide +kernel
theorem dX2_init_83 : decode cX2_init 83 = .ok (.iload_n 1, 1) := by decide +kernel
theorem dX2_init_84 : decode cX2_init 84 = .ok (.sipush 4000, 3) := by decide +kernel
theorem dX2_init_87 : decode cX2_init 87 = .ok (.if_icmp .le 9, 3) := by decide +kernel
theorem dX2_init_90 : decode cX2_init 90 = .ok (.sipush 4000, 3) := by decide +kernel
theorem dX2_init_93 : decode cX2_init 93 = .ok (.goto 4, 3) := by decide +kernel
theorem dX2_init_96 : decode cX2_init 96 = .ok (.iload_n 1, 1) := by decide +kernel
theorem dX2_init_97 : decode cX2_init 97 = .ok (.putfield 36, 3) := by decide +kernel
theorem dX2_init_100 : decode cX2_init 100 = .ok (.aload_n 0, 1) := by decide +kernel
theorem dX2_init_101 : decode cX2_init 101 = .ok (.iload_n 2, 1) := by decide +kernel
theorem dX2_init_102 : decode cX2_init 102 = .ok (.bipush 8, 2) := by decide +kernel
theorem dX2_init_104 : decode cX2_init 104 = .ok (.if_icmp .eq 15, 3) := by decide +kernel
theorem dX2_init_107 : decode cX2_init 107 = .ok (.iload_n 2, 1) := by decide +kernel
theorem dX2_init_108 : decode cX2_init 108 = .ok (.bipush 16, 2) := by decide +kernel
theorem dX2_init_110 : decode cX2_init 110 = .ok (.if_icmp .eq 9, 3) := by decide +kernel
theorem dX2_init_113 : decode cX2_init 113 = .ok (.iload_n 2, 1) := by decide +kernel
theorem dX2_init_114 : decode cX2_init 114 = .ok (.bipush 64, 2) := by decide +kernel
theorem dX2_init_116 : decode cX2_init 116 = .ok (.if_icmp .ne 7, 3) := by decide +kernel
theorem dX2_init_119 : decode cX2_init 119 = .ok (.iload_n 2, 1) := by decide +kernel
theorem dX2_init_120 : decode cX2_init 120 = .ok (.goto 5, 3) := by decide +kernel
theorem dX2_init_123 : decode cX2_init 123 = .ok (.bipush 32, 2) := by decide +kernel
theorem dX2_init_125 : decode cX2_init 125 = .ok (.putfield 39, 3) := by decide +kernel
theorem dX2_init_128 : decode cX2_init 128 = .ok (.return_, 1) := by decide +kernel
theorem dX2_isIn_0 : decode cX2_isIn 0 = .ok (.iload_n 0, 1) := by decide +kernel
theorem dX2_isIn_1 : decode cX2_isIn 1 = .ok (.iload_n 1, 1) := by decide +kernel
theorem dX2_isIn_2 : decode cX2_isIn 2 = .ok (.if_icmp .lt 12, 3) := by decide +kernel
theorem dX2_isIn_5 : decode cX2_isIn 5 = .ok (.iload_n 0, 1) := by decide +kernel
theorem dX2_isIn_6 : decode cX2_isIn 6 = .ok (.iload_n 2, 1) := by decide +kernel
theorem dX2_isIn_7 : decode cX2_isIn 7 = .ok (.if_icmp .gt 7, 3) := by decide +kernel
theorem dX2_isIn_10 : decode cX2_isIn 10 = .ok (.iconst 1, 1) := by decide +kernel
theorem dX2_isIn_11 : decode cX2_isIn 11 = .ok (.goto 4, 3) := by decide +kernel
theorem dX2_isIn_14 : decode cX2_isIn 14 = .ok (.iconst 0, 1) := by decide +kernel
theorem dX2_isIn_15 : decode cX2_isIn 15 = .ok (.ireturn, 1) := by decide +kernel
theorem dX2_plain_0 : decode cX2_plain 0 = .ok (.aload_n 0, 1) := by decide +kernel
theorem dX2_plain_1 : decode cX2_plain 1 = .ok (.getfield 13, 3) := by decide +kernel
theorem dX2_plain_4 : decode cX2_plain 4 = .ok (.iload_n 1, 1) := by decide +kernel
theorem dX2_plain_5 : decode cX2_plain 5 = .ok (.iaload, 1) := by decide +kernel
theorem dX2_plain_6 : decode cX2_plain 6 = .ok (.sipush 256, 3) := by decide +kernel
theorem dX2_plain_9 : decode cX2_plain 9 = .ok (.idiv, 1) := by decide +kernel
theorem dX2_plain_10 : decode cX2_plain 10 = .ok (.ireturn, 1) := by decide +kernel
theorem dX2_references_0 : decode cX2_references 0 = .ok (.aload_n 0, 1) := by decide +kernel
theorem dX2_references_1 : decode cX2_references 1 = .ok (.getfield 13, 3) := by decide +kernel
theorem dX2_references_4 : decode cX2_references 4 = .ok (.iload_n 1, 1) := by decide +kernel
theorem dX2_references_5 : decode cX2_references 5 = .ok (.iaload, 1) := by decide +kernel
theorem dX2_references_6 : decode cX2_references 6 = .ok (.bipush 16, 2) := by decide +kernel
theorem dX2_references_8 : decode cX2_references 8 = .ok (.idiv, 1) := by decide +kernel
theorem dX2_references_9 : decode cX2_references 9 = .ok (.bipush 16, 2) := by decide +kernel
theorem dX2_references_11 : decode cX2_references 11 = .ok (.irem, 1) := by decide +kernel
theorem dX2_references_12 : decode cX2_references 12 = .ok (.ireturn, 1) := by decide +kernel
set_option maxRecDepth 20000 in
theorem ggX2_length_X2_references : GoodIn wsX2_length wsX2_references := goodIn_r _ [5, 6, 11, 12, 13, 14, 15, 16, 17, 18, 19, 20, 21, 22, 23, 24] (by decide +kernel) (by decide +kernel)
set_option maxRecDepth 20000 in
theorem gX2_length_X2_references : GoodIn wsX2_length (wsV RX2 45 RX2 yX2_references wsX2_references) := goodIn_app (goodIn_of _ (by decide +kernel)) ggX2_length_X2_references
set_option maxRecDepth 20000 in
theorem ggX2_length_X2_plain : GoodIn wsX2_length wsX2_plain := goodIn_r _ [10, 6, 11, 12, 13, 14, 15, 16, 17, 18, 19, 20, 21, 22, 23, 24] (by decide +kernel) (by decide +kernel)
set_option maxRecDepth 20000 in
theorem gX2_length_X2_plain : GoodIn wsX2_length (wsV RX2 49 RX2 yX2_plain wsX2_plain) := goodIn_app (goodIn_of _ (by decide +kernel)) ggX2_length_X2_plain
theorem dX2_length_0 : decode cX2_length 0 = .ok (.iconst 1, 1) := by decide +kernel
theorem dX2_length_1 : decode cX2_length 1 = .ok (.aload_n 0, 1) := by decide +kernel
theorem dX2_length_2 : decode cX2_length 2 = .ok (.iload_n 1, 1) := by decide +kernel
theorem dX2_length_3 : decode cX2_length 3 = .ok (.invokevirtual 45, 3) := by decide +kernel
theorem dX2_length_6 : decode cX2_length 6 = .ok (.iadd, 1) := by decide +kernel
theorem dX2_length_7 : decode cX2_length 7 = .ok (.aload_n 0, 1) := by decide +kernel
theorem dX2_length_8 : decode cX2_length 8 = .ok (.iload_n 1, 1) := by decide +kernel
theorem dX2_length_9 : decode cX2_length 9 = .ok (.invokevirtual 49, 3) := by decide +kernel
theorem dX2_length_12 : decode cX2_length 12 = .ok (.iadd, 1) := by decide +kernel
theorem dX2_length_13 : decode cX2_length 13 = .ok (.ireturn, 1) := by decide +kernel
set_option maxRecDepth 20000 in
theorem ggX2_make_X2_isIn : GoodIn wsX2_make wsX2_isIn := goodIn_r _ [9] (by decide +kernel) (by decide +kernel)
set_option maxRecDepth 20000 in
theorem gX2_make_X2_isIn : GoodIn wsX2_make (va_wsS RX2 52 yX2_isIn wsX2_isIn) := goodIn_app (goodIn_of _ (by decide +kernel)) ggX2_make_X2_isIn
theorem dX2_make_0 : decode cX2_make 0 = .ok (.iload_n 1, 1) := by decide +kernel
theorem dX2_make_1 : decode cX2_make 1 = .ok (.iconst 0, 1) := by decide +kernel
theorem dX2_make_2 : decode cX2_make 2 = .ok (.bipush 15, 2) := by decide +kernel
theorem dX2_make_4 : decode cX2_make 4 = .ok (.invokestatic 52, 3) := by decide +kernel
theorem dX2_make_7 : decode cX2_make 7 = .ok (.ifCond .eq 13, 3) := by decide +kernel
theorem dX2_make_10 : decode cX2_make 10 = .ok (.iload_n 2, 1) := by decide +kernel
theorem dX2_make_11 : decode cX2_make 11 = .ok (.iconst 0, 1) := by decide +kernel
theorem dX2_make_12 : decode cX2_make 12 = .ok (.bipush 100, 2) := by decide +kernel
theorem dX2_make_14 : decode cX2_make 14 = .ok (.invokestatic 52, 3) := by decide +kernel
theorem dX2_make_17 : decode cX2_make 17 = .ok (.ifCond .ne 5, 3) := by decide +kernel
theorem dX2_make_20 : decode cX2_make 20 = .ok (.iconst (-1), 1) := by decide +kernel
theorem dX2_make_21 : decode cX2_make 21 = .ok (.ireturn, 1) := by decide +kernel
theorem dX2_make_22 : decode cX2_make 22 = .ok (.aload_n 0, 1) := by decide +kernel
theorem dX2_make_23 : decode cX2_make 23 = .ok (.getfield 7, 3) := by decide +kernel
theorem dX2_make_26 : decode cX2_make 26 = .ok (.iload_n 1, 1) := by decide +kernel
theorem dX2_make_27 : decode cX2_make 27 = .ok (.iadd, 1) := by decide +kernel
theorem dX2_make_28 : decode cX2_make 28 = .ok (.iload_n 2, 1) := by decide +kernel
theorem dX2_make_29 : decode cX2_make 29 = .ok (.iadd, 1) := by decide +kernel
theorem dX2_make_30 : decode cX2_make 30 = .ok (.aload_n 0, 1) := by decide +kernel
theorem dX2_make_31 : decode cX2_make 31 = .ok (.getfield 36, 3) := by decide +kernel
theorem dX2_make_34 : decode cX2_make 34 = .ok (.if_icmp .le 5, 3) := by decide +kernel
theorem dX2_make_37 : decode cX2_make 37 = .ok (.iconst 0, 1) := by decide +kernel
theorem dX2_make_38 : decode cX2_make 38 = .ok (.ireturn, 1) := by decide +kernel
theorem dX2_make_39 : decode cX2_make 39 = .ok (.aload_n 0, 1) := by decide +kernel
theorem dX2_make_40 : decode cX2_make 40 = .ok (.getfield 7, 3) := by decide +kernel
theorem dX2_make_43 : decode cX2_make 43 = .ok (.istore_n 3, 1) := by decide +kernel
theorem dX2_make_44 : decode cX2_make 44 = .ok (.aload_n 0, 1) := by decide +kernel
end
section
theorem dX2_make_45 : decode cX2_make 45 = .ok (.getfield 13, 3) := by decide +kernel
theorem dX2_make_48 : decode cX2_make 48 = .ok (.iload_n 3, 1) := by decide +kernel
theorem dX2_make_49 : decode cX2_make 49 = .ok (.sipush 256, 3) := by decide +kernel
theorem dX2_make_52 : decode cX2_make 52 = .ok (.iload_n 2, 1) := by decide +kernel
theorem dX2_make_53 : decode cX2_make 53 = .ok (.imul, 1) := by decide +kernel
theorem dX2_make_54 : decode cX2_make 54 = .ok (.bipush 16, 2) := by decide +kernel
theorem dX2_make_56 : decode cX2_make 56 = .ok (.iload_n 1, 1) := by decide +kernel
theorem dX2_make_57 : decode cX2_make 57 = .ok (.imul, 1) := by decide +kernel
theorem dX2_make_58 : decode cX2_make 58 = .ok (.iadd, 1) := by decide +kernel
theorem dX2_make_59 : decode cX2_make 59 = .ok (.iastore, 1) := by decide +kernel
theorem dX2_make_60 : decode cX2_make 60 = .ok (.iconst 1, 1) := by decide +kernel
theorem dX2_make_61 : decode cX2_make 61 = .ok (.istore 4, 2) := by decide +kernel
theorem dX2_make_63 : decode cX2_make 63 = .ok (.iload 4, 2) := by decide +kernel
theorem dX2_make_65 : decode cX2_make 65 = .ok (.iload_n 1, 1) := by decide +kernel
theorem dX2_make_66 : decode cX2_make 66 = .ok (.iload_n 2, 1) := by decide +kernel
theorem dX2_make_67 : decode cX2_make 67 = .ok (.iadd, 1) := by decide +kernel
theorem dX2_make_68 : decode cX2_make 68 = .ok (.if_icmp .gt 19, 3) := by decide +kernel
theorem dX2_make_71 : decode cX2_make 71 = .ok (.aload_n 0, 1) := by decide +kernel
theorem dX2_make_72 : decode cX2_make 72 = .ok (.getfield 13, 3) := by decide +kernel
theorem dX2_make_75 : decode cX2_make 75 = .ok (.iload_n 3, 1) := by decide +kernel
theorem dX2_make_76 : decode cX2_make 76 = .ok (.iload 4, 2) := by decide +kernel
theorem dX2_make_78 : decode cX2_make 78 = .ok (.iadd, 1) := by decide +kernel
theorem dX2_make_79 : decode cX2_make 79 = .ok (.iconst 0, 1) := by decide +kernel
theorem dX2_make_80 : decode cX2_make 80 = .ok (.iastore, 1) := by decide +kernel
theorem dX2_make_81 : decode cX2_make 81 = .ok (.iinc 4 1, 3) := by decide +kernel
theorem dX2_make_84 : decode cX2_make 84 = .ok (.goto (-21), 3) := by decide +kernel
theorem dX2_make_87 : decode cX2_make 87 = .ok (.aload_n 0, 1) := by decide +kernel
theorem dX2_make_88 : decode cX2_make 88 = .ok (.getfield 20, 3) := by decide +kernel
theorem dX2_make_91 : decode cX2_make 91 = .ok (.iload_n 3, 1) := by decide +kernel
theorem dX2_make_92 : decode cX2_make 92 = .ok (.iconst 1, 1) := by decide +kernel
theorem dX2_make_93 : decode cX2_make 93 = .ok (.bastore, 1) := by decide +kernel
theorem dX2_make_94 : decode cX2_make 94 = .ok (.aload_n 0, 1) := by decide +kernel
theorem dX2_make_95 : decode cX2_make 95 = .ok (.aload_n 0, 1) := by decide +kernel
theorem dX2_make_96 : decode cX2_make 96 = .ok (.getfield 7, 3) := by decide +kernel
theorem dX2_make_99 : decode cX2_make 99 = .ok (.iconst 1, 1) := by decide +kernel
theorem dX2_make_100 : decode cX2_make 100 = .ok (.iadd, 1) := by decide +kernel
theorem dX2_make_101 : decode cX2_make 101 = .ok (.iload_n 1, 1) := by decide +kernel
theorem dX2_make_102 : decode cX2_make 102 = .ok (.iadd, 1) := by decide +kernel
theorem dX2_make_103 : decode cX2_make 103 = .ok (.iload_n 2, 1) := by decide +kernel
theorem dX2_make_104 : decode cX2_make 104 = .ok (.iadd, 1) := by decide +kernel
theorem dX2_make_105 : decode cX2_make 105 = .ok (.putfield 7, 3) := by decide +kernel
theorem dX2_make_108 : decode cX2_make 108 = .ok (.aload_n 0, 1) := by decide +kernel
theorem dX2_make_109 : decode cX2_make 109 = .ok (.dup, 1) := by decide +kernel
theorem dX2_make_110 : decode cX2_make 110 = .ok (.getfield 56, 3) := by decide +kernel
theorem dX2_make_113 : decode cX2_make 113 = .ok (.iconst 1, 1) := by decide +kernel
theorem dX2_make_114 : decode cX2_make 114 = .ok (.iadd, 1) := by decide +kernel
theorem dX2_make_115 : decode cX2_make 115 = .ok (.putfield 56, 3) := by decide +kernel
theorem dX2_make_118 : decode cX2_make 118 = .ok (.iload_n 3, 1) := by decide +kernel
theorem dX2_make_119 : decode cX2_make 119 = .ok (.ireturn, 1) := by decide +kernel
set_option maxRecDepth 20000 in
theorem ggX2_isObject_X2_isIn : GoodIn wsX2_isObject wsX2_isIn := goodIn_r _ [6] (by decide +kernel) (by decide +kernel)
set_option maxRecDepth 20000 in
theorem gX2_isObject_X2_isIn : GoodIn wsX2_isObject (va_wsS RX2 52 yX2_isIn wsX2_isIn) := goodIn_app (goodIn_of _ (by decide +kernel)) ggX2_isObject_X2_isIn
theorem dX2_isObject_0 : decode cX2_isObject 0 = .ok (.iload_n 1, 1) := by decide +kernel
theorem dX2_isObject_1 : decode cX2_isObject 1 = .ok (.iconst 1, 1) := by decide +kernel
theorem dX2_isObject_2 : decode cX2_isObject 2 = .ok (.aload_n 0, 1) := by decide +kernel
theorem dX2_isObject_3 : decode cX2_isObject 3 = .ok (.getfield 36, 3) := by decide +kernel
theorem dX2_isObject_6 : decode cX2_isObject 6 = .ok (.invokestatic 52, 3) := by decide +kernel
theorem dX2_isObject_9 : decode cX2_isObject 9 = .ok (.ifCond .eq 16, 3) := by decide +kernel
theorem dX2_isObject_12 : decode cX2_isObject 12 = .ok (.aload_n 0, 1) := by decide +kernel
theorem dX2_isObject_13 : decode cX2_isObject 13 = .ok (.getfield 20, 3) := by decide +kernel
theorem dX2_isObject_16 : decode cX2_isObject 16 = .ok (.iload_n 1, 1) := by decide +kernel
theorem dX2_isObject_17 : decode cX2_isObject 17 = .ok (.baload, 1) := by decide +kernel
theorem dX2_isObject_18 : decode cX2_isObject 18 = .ok (.ifCond .eq 7, 3) := by decide +kernel
theorem dX2_isObject_21 : decode cX2_isObject 21 = .ok (.iconst 1, 1) := by decide +kernel
theorem dX2_isObject_22 : decode cX2_isObject 22 = .ok (.goto 4, 3) := by decide +kernel
theorem dX2_isObject_25 : decode cX2_isObject 25 = .ok (.iconst 0, 1) := by decide +kernel
theorem dX2_isObject_26 : decode cX2_isObject 26 = .ok (.ireturn, 1) := by decide +kernel
set_option maxRecDepth 20000 in
theorem ggX2_isLead_X2_isObject : GoodIn wsX2_isLead wsX2_isObject := goodIn_r _ [5, 6, 7, 8, 9, 4, 10, 11, 12, 13, 14, 15, 16, 17, 18, 19, 20, 21, 22, 23, 24] (by decide +kernel) (by decide +kernel)
set_option maxRecDepth 20000 in
theorem gX2_isLead_X2_isObject : GoodIn wsX2_isLead (wsV RX2 59 RX2 yX2_isObject wsX2_isObject) := goodIn_app (goodIn_of _ (by decide +kernel)) ggX2_isLead_X2_isObject
theorem dX2_isLead_0 : decode cX2_isLead 0 = .ok (.iload_n 1, 1) := by decide +kernel
theorem dX2_isLead_1 : decode cX2_isLead 1 = .ok (.ifCond .eq 11, 3) := by decide +kernel
theorem dX2_isLead_4 : decode cX2_isLead 4 = .ok (.aload_n 0, 1) := by decide +kernel
theorem dX2_isLead_5 : decode cX2_isLead 5 = .ok (.iload_n 1, 1) := by decide +kernel
theorem dX2_isLead_6 : decode cX2_isLead 6 = .ok (.invokevirtual 59, 3) := by decide +kernel
theorem dX2_isLead_9 : decode cX2_isLead 9 = .ok (.ifCond .eq 7, 3) := by decide +kernel
theorem dX2_isLead_12 : decode cX2_isLead 12 = .ok (.iconst 1, 1) := by decide +kernel
theorem dX2_isLead_13 : decode cX2_isLead 13 = .ok (.goto 4, 3) := by decide +kernel
theorem dX2_isLead_16 : decode cX2_isLead 16 = .ok (.iconst 0, 1) := by decide +kernel
theorem dX2_isLead_17 : decode cX2_isLead 17 = .ok (.ireturn, 1) := by decide +kernel
set_option maxRecDepth 20000 in
theorem ggX2_refer_X2_isObject : GoodIn wsX2_refer wsX2_isObject := goodIn_r _ [6, 7, 8, 9, 10, 5, 11, 20, 21, 22, 23, 24, 25, 26, 27, 28, 29, 30, 31, 32, 33] (by decide +kernel) (by decide +kernel)
set_option maxRecDepth 20000 in
theorem gX2_refer_X2_isObject : GoodIn wsX2_refer (wsV RX2 59 RX2 yX2_isObject wsX2_isObject) := goodIn_app (goodIn_of _ (by decide +kernel)) ggX2_refer_X2_isObject
set_option maxRecDepth 20000 in
theorem ggX2_refer_X2_isLead : GoodIn wsX2_refer wsX2_isLead := goodIn_r _ [15, 2, 3, 4, 5, 6, 7, 8, 9, 10, 11, 20, 21, 22, 23, 24, 25, 26, 27, 28, 29, 30, 31, 32, 33] (by decide +kernel) (by decide +kernel)
set_option maxRecDepth 20000 in
theorem gX2_refer_X2_isLead : GoodIn wsX2_refer (wsV RX2 63 RX2 yX2_isLead wsX2_isLead) := goodIn_app (goodIn_of _ (by decide +kernel)) ggX2_refer_X2_isLead
set_option maxRecDepth 20000 in
theorem ggX2_refer_X2_references : GoodIn wsX2_refer wsX2_references := goodIn_r _ [19, 1, 20, 21, 22, 23, 24, 25, 26, 27, 28, 29, 30, 31, 32, 33] (by decide +kernel) (by decide +kernel)
set_option maxRecDepth 20000 in
theorem gX2_refer_X2_references : GoodIn wsX2_refer (wsV RX2 45 RX2 yX2_references wsX2_references) := goodIn_app (goodIn_of _ (by decide +kernel)) ggX2_refer_X2_references
set_option maxRecDepth 20000 in
theorem ggX2_refer_X2_isIn : GoodIn wsX2_refer wsX2_isIn := goodIn_r _ [11] (by decide +kernel) (by decide +kernel)
set_option maxRecDepth 20000 in
theorem gX2_refer_X2_isIn : GoodIn wsX2_refer (va_wsS RX2 52 yX2_isIn wsX2_isIn) := goodIn_app (goodIn_of _ (by decide +kernel)) ggX2_refer_X2_isIn
theorem dX2_refer_0 : decode cX2_refer 0 = .ok (.aload_n 0, 1) := by decide +kernel
theorem dX2_refer_1 : decode cX2_refer 1 = .ok (.iload_n 1, 1) := by decide +kernel
theorem dX2_refer_2 : decode cX2_refer 2 = .ok (.invokevirtual 59, 3) := by decide +kernel
theorem dX2_refer_5 : decode cX2_refer 5 = .ok (.ifCond .eq 26, 3) := by decide +kernel
theorem dX2_refer_8 : decode cX2_refer 8 = .ok (.aload_n 0, 1) := by decide +kernel
theorem dX2_refer_9 : decode cX2_refer 9 = .ok (.iload_n 3, 1) := by decide +kernel
theorem dX2_refer_10 : decode cX2_refer 10 = .ok (.invokevirtual 63, 3) := by decide +kernel
theorem dX2_refer_13 : decode cX2_refer 13 = .ok (.ifCond .eq 18, 3) := by decide +kernel
theorem dX2_refer_16 : decode cX2_refer 16 = .ok (.iload_n 2, 1) := by decide +kernel
theorem dX2_refer_17 : decode cX2_refer 17 = .ok (.iconst 0, 1) := by decide +kernel
theorem dX2_refer_18 : decode cX2_refer 18 = .ok (.aload_n 0, 1) := by decide +kernel
theorem dX2_refer_19 : decode cX2_refer 19 = .ok (.iload_n 1, 1) := by decide +kernel
theorem dX2_refer_20 : decode cX2_refer 20 = .ok (.invokevirtual 45, 3) := by decide +kernel
theorem dX2_refer_23 : decode cX2_refer 23 = .ok (.iconst 1, 1) := by decide +kernel
theorem dX2_refer_24 : decode cX2_refer 24 = .ok (.isub, 1) := by decide +kernel
theorem dX2_refer_25 : decode cX2_refer 25 = .ok (.invokestatic 52, 3) := by decide +kernel
theorem dX2_refer_28 : decode cX2_refer 28 = .ok (.ifCond .ne 5, 3) := by decide +kernel
theorem dX2_refer_31 : decode cX2_refer 31 = .ok (.iconst 0, 1) := by decide +kernel
theorem dX2_refer_32 : decode cX2_refer 32 = .ok (.ireturn, 1) := by decide +kernel
theorem dX2_refer_33 : decode cX2_refer 33 = .ok (.aload_n 0, 1) := by decide +kernel
theorem dX2_refer_34 : decode cX2_refer 34 = .ok (.getfield 13, 3) := by decide +kernel
theorem dX2_refer_37 : decode cX2_refer 37 = .ok (.iload_n 1, 1) := by decide +kernel
theorem dX2_refer_38 : decode cX2_refer 38 = .ok (.iconst 1, 1) := by decide +kernel
theorem dX2_refer_39 : decode cX2_refer 39 = .ok (.iadd, 1) := by decide +kernel
theorem dX2_refer_40 : decode cX2_refer 40 = .ok (.iload_n 2, 1) := by decide +kernel
theorem dX2_refer_41 : decode cX2_refer 41 = .ok (.iadd, 1) := by decide +kernel
theorem dX2_refer_42 : decode cX2_refer 42 = .ok (.iload_n 3, 1) := by decide +kernel
theorem dX2_refer_43 : decode cX2_refer 43 = .ok (.iastore, 1) := by decide +kernel
theorem dX2_refer_44 : decode cX2_refer 44 = .ok (.iconst 1, 1) := by decide +kernel
theorem dX2_refer_45 : decode cX2_refer 45 = .ok (.ireturn, 1) := by decide +kernel
set_option maxRecDepth 20000 in
theorem ggX2_set_X2_isObject : GoodIn wsX2_set wsX2_isObject := goodIn_r _ [6, 7, 8, 9, 10, 5, 11, 20, 21, 22, 23, 24, 25, 26, 27, 28, 29, 30, 31, 32, 33] (by decide +kernel) (by decide +kernel)
set_option maxRecDepth 20000 in
theorem gX2_set_X2_isObject : GoodIn wsX2_set (wsV RX2 59 RX2 yX2_isObject wsX2_isObject) := goodIn_app (goodIn_of _ (by decide +kernel)) ggX2_set_X2_isObject
set_option maxRecDepth 20000 in
theorem ggX2_set_X2_plain : GoodIn wsX2_set wsX2_plain := goodIn_r _ [15, 1, 20, 21, 22, 23, 24, 25, 26, 27, 28, 29, 30, 31, 32, 33] (by decide +kernel) (by decide +kernel)
set_option maxRecDepth 20000 in
theorem gX2_set_X2_plain : GoodIn wsX2_set (wsV RX2 49 RX2 yX2_plain wsX2_plain) := goodIn_app (goodIn_of _ (by decide +kernel)) ggX2_set_X2_plain
set_option maxRecDepth 20000 in
theorem ggX2_set_X2_isIn : GoodIn wsX2_set wsX2_isIn := goodIn_r _ [11] (by decide +kernel) (by decide +kernel)
set_option maxRecDepth 20000 in
theorem gX2_set_X2_isIn : GoodIn wsX2_set (va_wsS RX2 52 yX2_isIn wsX2_isIn) := goodIn_app (goodIn_of _ (by decide +kernel)) ggX2_set_X2_isIn
set_option maxRecDepth 20000 in
theorem ggX2_set_X2_references : GoodIn wsX2_set wsX2_references := goodIn_r _ [19, 1, 20, 21, 22, 23, 24, 25, 26, 27, 28, 29, 30, 31, 32, 33] (by decide +kernel) (by decide +kernel)
set_option maxRecDepth 20000 in
theorem gX2_set_X2_references : GoodIn wsX2_set (wsV RX2 45 RX2 yX2_references wsX2_references) := goodIn_app (goodIn_of _ (by decide +kernel)) ggX2_set_X2_references
theorem dX2_set_0 : decode cX2_set 0 = .ok (.aload_n 0, 1) := by decide +kernel
theorem dX2_set_1 : decode cX2_set 1 = .ok (.iload_n 1, 1) := by decide +kernel
theorem dX2_set_2 : decode cX2_set 2 = .ok (.invokevirtual 59, 3) := by decide +kernel
theorem dX2_set_5 : decode cX2_set 5 = .ok (.ifCond .eq 18, 3) := by decide +kernel
theorem dX2_set_8 : decode cX2_set 8 = .ok (.iload_n 2, 1) := by decide +kernel
theorem dX2_set_9 : decode cX2_set 9 = .ok (.iconst 0, 1) := by decide +kernel
theorem dX2_set_10 : decode cX2_set 10 = .ok (.aload_n 0, 1) := by decide +kernel
theorem dX2_set_11 : decode cX2_set 11 = .ok (.iload_n 1, 1) := by decide +kernel
theorem dX2_set_12 : decode cX2_set 12 = .ok (.invokevirtual 49, 3) := by decide +kernel
theorem dX2_set_15 : decode cX2_set 15 = .ok (.iconst 1, 1) := by decide +kernel
theorem dX2_set_16 : decode cX2_set 16 = .ok (.isub, 1) := by decide +kernel
theorem dX2_set_17 : decode cX2_set 17 = .ok (.invokestatic 52, 3) := by decide +kernel
theorem dX2_set_20 : decode cX2_set 20 = .ok (.ifCond .ne 5, 3) := by decide +kernel
theorem dX2_set_23 : decode cX2_set 23 = .ok (.iconst 0, 1) := by decide +kernel
theorem dX2_set_24 : decode cX2_set 24 = .ok (.ireturn, 1) := by decide +kernel
theorem dX2_set_25 : decode cX2_set 25 = .ok (.aload_n 0, 1) := by decide +kernel
theorem dX2_set_26 : decode cX2_set 26 = .ok (.getfield 13, 3) := by decide +kernel
theorem dX2_set_29 : decode cX2_set 29 = .ok (.iload_n 1, 1) := by decide +kernel
theorem dX2_set_30 : decode cX2_set 30 = .ok (.iconst 1, 1) := by decide +kernel
theorem dX2_set_31 : decode cX2_set 31 = .ok (.iadd, 1) := by decide +kernel
theorem dX2_set_32 : decode cX2_set 32 = .ok (.aload_n 0, 1) := by decide +kernel
theorem dX2_set_33 : decode cX2_set 33 = .ok (.iload_n 1, 1) := by decide +kernel
theorem dX2_set_34 : decode cX2_set 34 = .ok (.invokevirtual 45, 3) := by decide +kernel
theorem dX2_set_37 : decode cX2_set 37 = .ok (.iadd, 1) := by decide +kernel
theorem dX2_set_38 : decode cX2_set 38 = .ok (.iload_n 2, 1) := by decide +kernel
theorem dX2_set_39 : decode cX2_set 39 = .ok (.iadd, 1) := by decide +kernel
theorem dX2_set_40 : decode cX2_set 40 = .ok (.iload_n 3, 1) := by decide +kernel
theorem dX2_set_41 : decode cX2_set 41 = .ok (.iastore, 1) := by decide +kernel
theorem dX2_set_42 : decode cX2_set 42 = .ok (.iconst 1, 1) := by decide +kernel
theorem dX2_set_43 : decode cX2_set 43 = .ok (.ireturn, 1) := by decide +kernel
set_option maxRecDepth 20000 in
theorem ggX2_root_X2_isIn : GoodIn wsX2_root wsX2_isIn := goodIn_r _ [5] (by decide +kernel) (by decide +kernel)
set_option maxRecDepth 20000 in
theorem gX2_root_X2_isIn : GoodIn wsX2_root (va_wsS RX2 52 yX2_isIn wsX2_isIn) := goodIn_app (goodIn_of _ (by decide +kernel)) ggX2_root_X2_isIn
set_option maxRecDepth 20000 in
theorem ggX2_root_X2_isLead : GoodIn wsX2_root wsX2_isLead := goodIn_r _ [9, 10, 11, 12, 4, 13, 14, 15, 2, 3, 5, 16, 17, 18, 19, 20, 21, 22, 23, 24, 25, 26, 27, 28, 29] (by decide +kernel) (by decide +kernel)
set_option maxRecDepth 20000 in
theorem gX2_root_X2_isLead : GoodIn wsX2_root (wsV RX2 63 RX2 yX2_isLead wsX2_isLead) := goodIn_app (goodIn_of _ (by decide +kernel)) ggX2_root_X2_isLead
theorem dX2_root_0 : decode cX2_root 0 = .ok (.iload_n 1, 1) := by decide +kernel
theorem dX2_root_1 : decode cX2_root 1 = .ok (.iconst 0, 1) := by decide +kernel
theorem dX2_root_2 : decode cX2_root 2 = .ok (.bipush 7, 2) := by decide +kernel
theorem dX2_root_4 : decode cX2_root 4 = .ok (.invokestatic 52, 3) := by decide +kernel
theorem dX2_root_7 : decode cX2_root 7 = .ok (.ifCond .eq 11, 3) := by decide +kernel
theorem dX2_root_10 : decode cX2_root 10 = .ok (.aload_n 0, 1) := by decide +kernel
theorem dX2_root_11 : decode cX2_root 11 = .ok (.iload_n 2, 1) := by decide +kernel
theorem dX2_root_12 : decode cX2_root 12 = .ok (.invokevirtual 63, 3) := by decide +kernel
theorem dX2_root_15 : decode cX2_root 15 = .ok (.ifCond .ne 5, 3) := by decide +kernel
theorem dX2_root_18 : decode cX2_root 18 = .ok (.iconst 0, 1) := by decide +kernel
theorem dX2_root_19 : decode cX2_root 19 = .ok (.ireturn, 1) := by decide +kernel
theorem dX2_root_20 : decode cX2_root 20 = .ok (.aload_n 0, 1) := by decide +kernel
theorem dX2_root_21 : decode cX2_root 21 = .ok (.getfield 27, 3) := by decide +kernel
theorem dX2_root_24 : decode cX2_root 24 = .ok (.iload_n 1, 1) := by decide +kernel
theorem dX2_root_25 : decode cX2_root 25 = .ok (.iload_n 2, 1) := by decide +kernel
theorem dX2_root_26 : decode cX2_root 26 = .ok (.iastore, 1) := by decide +kernel
theorem dX2_root_27 : decode cX2_root 27 = .ok (.iconst 1, 1) := by decide +kernel
theorem dX2_root_28 : decode cX2_root 28 = .ok (.ireturn, 1) := by decide +kernel
set_option maxRecDepth 20000 in
theorem ggX2_measure_X2_references : GoodIn wsX2_measure wsX2_references := goodIn_r _ [11, 6, 20, 21, 22, 23, 24, 25, 26, 27, 28, 29, 30, 31, 32, 33] (by decide +kernel) (by decide +kernel)
set_option maxRecDepth 20000 in
theorem gX2_measure_X2_references : GoodIn wsX2_measure (wsV RX2 45 RX2 yX2_references wsX2_references) := goodIn_app (goodIn_of _ (by decide +kernel)) ggX2_measure_X2_references
set_option maxRecDepth 20000 in
theorem ggX2_measure_X2_length : GoodIn wsX2_measure wsX2_length := goodIn_r _ [15, 7, 8, 9, 10, 11, 6, 16, 17, 18, 19, 20, 21, 22, 23, 24, 25, 26, 27, 28, 29, 30, 31, 32, 33] (by decide +kernel) (by decide +kernel)
set_option maxRecDepth 20000 in
theorem gX2_measure_X2_length : GoodIn wsX2_measure (wsV RX2 67 RX2 yX2_length wsX2_length) := goodIn_app (goodIn_of _ (by decide +kernel)) ggX2_measure_X2_length
theorem dX2_measure_0 : decode cX2_measure 0 = .ok (.iconst 0, 1) := by decide +kernel
theorem dX2_measure_1 : decode cX2_measure 1 = .ok (.istore_n 1, 1) := by decide +kernel
theorem dX2_measure_2 : decode cX2_measure 2 = .ok (.iload_n 1, 1) := by decide +kernel
theorem dX2_measure_3 : decode cX2_measure 3 = .ok (.aload_n 0, 1) := by decide +kernel
theorem dX2_measure_4 : decode cX2_measure 4 = .ok (.getfield 36, 3) := by decide +kernel
theorem dX2_measure_7 : decode cX2_measure 7 = .ok (.if_icmp .gt 17, 3) := by decide +kernel
theorem dX2_measure_10 : decode cX2_measure 10 = .ok (.aload_n 0, 1) := by decide +kernel
theorem dX2_measure_11 : decode cX2_measure 11 = .ok (.getfield 33, 3) := by decide +kernel
theorem dX2_measure_14 : decode cX2_measure 14 = .ok (.iload_n 1, 1) := by decide +kernel
theorem dX2_measure_15 : decode cX2_measure 15 = .ok (.ldc 66, 2) := by decide +kernel
theorem dX2_measure_17 : decode cX2_measure 17 = .ok (.iastore, 1) := by decide +kernel
theorem dX2_measure_18 : decode cX2_measure 18 = .ok (.iinc 1 1, 3) := by decide +kernel
theorem dX2_measure_21 : decode cX2_measure 21 = .ok (.goto (-19), 3) := by decide +kernel
theorem dX2_measure_24 : decode cX2_measure 24 = .ok (.iconst 0, 1) := by decide +kernel
theorem dX2_measure_25 : decode cX2_measure 25 = .ok (.istore_n 1, 1) := by decide +kernel
theorem dX2_measure_26 : decode cX2_measure 26 = .ok (.iload_n 1, 1) := by decide +kernel
theorem dX2_measure_27 : decode cX2_measure 27 = .ok (.bipush 8, 2) := by decide +kernel
theorem dX2_measure_29 : decode cX2_measure 29 = .ok (.if_icmp .ge 30, 3) := by decide +kernel
theorem dX2_measure_32 : decode cX2_measure 32 = .ok (.aload_n 0, 1) := by decide +kernel
theorem dX2_measure_33 : decode cX2_measure 33 = .ok (.getfield 27, 3) := by decide +kernel
theorem dX2_measure_36 : decode cX2_measure 36 = .ok (.iload_n 1, 1) := by decide +kernel
theorem dX2_measure_37 : decode cX2_measure 37 = .ok (.iaload, 1) := by decide +kernel
theorem dX2_measure_38 : decode cX2_measure 38 = .ok (.ifCond .le 15, 3) := by decide +kernel
theorem dX2_measure_41 : decode cX2_measure 41 = .ok (.aload_n 0, 1) := by decide +kernel
theorem dX2_measure_42 : decode cX2_measure 42 = .ok (.getfield 33, 3) := by decide +kernel
theorem dX2_measure_45 : decode cX2_measure 45 = .ok (.aload_n 0, 1) := by decide +kernel
theorem dX2_measure_46 : decode cX2_measure 46 = .ok (.getfield 27, 3) := by decide +kernel
theorem dX2_measure_49 : decode cX2_measure 49 = .ok (.iload_n 1, 1) := by decide +kernel
theorem dX2_measure_50 : decode cX2_measure 50 = .ok (.iaload, 1) := by decide +kernel
theorem dX2_measure_51 : decode cX2_measure 51 = .ok (.iconst 0, 1) := by decide +kernel
theorem dX2_measure_52 : decode cX2_measure 52 = .ok (.iastore, 1) := by decide +kernel
theorem dX2_measure_53 : decode cX2_measure 53 = .ok (.iinc 1 1, 3) := by decide +kernel
theorem dX2_measure_56 : decode cX2_measure 56 = .ok (.goto (-30), 3) := by decide +kernel
theorem dX2_measure_59 : decode cX2_measure 59 = .ok (.iconst 1, 1) := by decide +kernel
theorem dX2_measure_60 : decode cX2_measure 60 = .ok (.istore_n 1, 1) := by decide +kernel
theorem dX2_measure_61 : decode cX2_measure 61 = .ok (.iload_n 1, 1) := by decide +kernel
theorem dX2_measure_62 : decode cX2_measure 62 = .ok (.ifCond .eq 98, 3) := by decide +kernel
theorem dX2_measure_65 : decode cX2_measure 65 = .ok (.iconst 0, 1) := by decide +kernel
theorem dX2_measure_66 : decode cX2_measure 66 = .ok (.istore_n 1, 1) := by decide +kernel
theorem dX2_measure_67 : decode cX2_measure 67 = .ok (.iconst 1, 1) := by decide +kernel
theorem dX2_measure_68 : decode cX2_measure 68 = .ok (.istore_n 2, 1) := by decide +kernel
theorem dX2_measure_69 : decode cX2_measure 69 = .ok (.iload_n 2, 1) := by decide +kernel
theorem dX2_measure_70 : decode cX2_measure 70 = .ok (.aload_n 0, 1) := by decide +kernel
theorem dX2_measure_71 : decode cX2_measure 71 = .ok (.getfield 7, 3) := by decide +kernel
theorem dX2_measure_74 : decode cX2_measure 74 = .ok (.if_icmp .ge 83, 3) := by decide +kernel
theorem dX2_measure_77 : decode cX2_measure 77 = .ok (.iconst 0, 1) := by decide +kernel
theorem dX2_measure_78 : decode cX2_measure 78 = .ok (.istore_n 3, 1) := by decide +kernel
theorem dX2_measure_79 : decode cX2_measure 79 = .ok (.iload_n 3, 1) := by decide +kernel
theorem dX2_measure_80 : decode cX2_measure 80 = .ok (.aload_n 0, 1) := by decide +kernel
theorem dX2_measure_81 : decode cX2_measure 81 = .ok (.iload_n 2, 1) := by decide +kernel
theorem dX2_measure_82 : decode cX2_measure 82 = .ok (.invokevirtual 45, 3) := by decide +kernel
theorem dX2_measure_85 : decode cX2_measure 85 = .ok (.if_icmp .ge 61, 3) := by decide +kernel
theorem dX2_measure_88 : decode cX2_measure 88 = .ok (.aload_n 0, 1) := by decide +kernel
theorem dX2_measure_89 : decode cX2_measure 89 = .ok (.getfield 13, 3) := by decide +kernel
theorem dX2_measure_92 : decode cX2_measure 92 = .ok (.iload_n 2, 1) := by decide +kernel
theorem dX2_measure_93 : decode cX2_measure 93 = .ok (.iconst 1, 1) := by decide +kernel
theorem dX2_measure_94 : decode cX2_measure 94 = .ok (.iadd, 1) := by decide +kernel
theorem dX2_measure_95 : decode cX2_measure 95 = .ok (.iload_n 3, 1) := by decide +kernel
theorem dX2_measure_96 : decode cX2_measure 96 = .ok (.iadd, 1) := by decide +kernel
theorem dX2_measure_97 : decode cX2_measure 97 = .ok (.iaload, 1) := by decide +kernel
theorem dX2_measure_98 : decode cX2_measure 98 = .ok (.istore 4, 2) := by decide +kernel
theorem dX2_measure_100 : decode cX2_measure 100 = .ok (.iload 4, 2) := by decide +kernel
theorem dX2_measure_102 : decode cX2_measure 102 = .ok (.ifCond .le 38, 3) := by decide +kernel
theorem dX2_measure_105 : decode cX2_measure 105 = .ok (.aload_n 0, 1) := by decide +kernel
theorem dX2_measure_106 : decode cX2_measure 106 = .ok (.getfield 33, 3) := by decide +kernel
theorem dX2_measure_109 : decode cX2_measure 109 = .ok (.iload_n 2, 1) := by decide +kernel
theorem dX2_measure_110 : decode cX2_measure 110 = .ok (.iaload, 1) := by decide +kernel
theorem dX2_measure_111 : decode cX2_measure 111 = .ok (.iconst 1, 1) := by decide +kernel
theorem dX2_measure_112 : decode cX2_measure 112 = .ok (.iadd, 1) := by decide +kernel
theorem dX2_measure_113 : decode cX2_measure 113 = .ok (.aload_n 0, 1) := by decide +kernel
theorem dX2_measure_114 : decode cX2_measure 114 = .ok (.getfield 33, 3) := by decide +kernel
theorem dX2_measure_117 : decode cX2_measure 117 = .ok (.iload 4, 2) := by decide +kernel
theorem dX2_measure_119 : decode cX2_measure 119 = .ok (.iaload, 1) := by decide +kernel
theorem dX2_measure_120 : decode cX2_measure 120 = .ok (.if_icmp .ge 20, 3) := by decide +kernel
theorem dX2_measure_123 : decode cX2_measure 123 = .ok (.aload_n 0, 1) := by decide +kernel
theorem dX2_measure_124 : decode cX2_measure 124 = .ok (.getfield 33, 3) := by decide +kernel
theorem dX2_measure_127 : decode cX2_measure 127 = .ok (.iload 4, 2) := by decide +kernel
theorem dX2_measure_129 : decode cX2_measure 129 = .ok (.aload_n 0, 1) := by decide +kernel
theorem dX2_measure_130 : decode cX2_measure 130 = .ok (.getfield 33, 3) := by decide +kernel
theorem dX2_measure_133 : decode cX2_measure 133 = .ok (.iload_n 2, 1) := by decide +kernel
theorem dX2_measure_134 : decode cX2_measure 134 = .ok (.iaload, 1) := by decide +kernel
theorem dX2_measure_135 : decode cX2_measure 135 = .ok (.iconst 1, 1) := by decide +kernel
theorem dX2_measure_136 : decode cX2_measure 136 = .ok (.iadd, 1) := by decide +kernel
theorem dX2_measure_137 : decode cX2_measure 137 = .ok (.iastore, 1) := by decide +kernel
theorem dX2_measure_138 : decode cX2_measure 138 = .ok (.iconst 1, 1) := by decide +kernel
theorem dX2_measure_139 : decode cX2_measure 139 = .ok (.istore_n 1, 1) := by decide +kernel
theorem dX2_measure_140 : decode cX2_measure 140 = .ok (.iinc 3 1, 3) := by decide +kernel
theorem dX2_measure_143 : decode cX2_measure 143 = .ok (.goto (-64), 3) := by decide +kernel
theorem dX2_measure_146 : decode cX2_measure 146 = .ok (.iload_n 2, 1) := by decide +kernel
theorem dX2_measure_147 : decode cX2_measure 147 = .ok (.aload_n 0, 1) := by decide +kernel
theorem dX2_measure_148 : decode cX2_measure 148 = .ok (.iload_n 2, 1) := by decide +kernel
theorem dX2_measure_149 : decode cX2_measure 149 = .ok (.invokevirtual 67, 3) := by decide +kernel
theorem dX2_measure_152 : decode cX2_measure 152 = .ok (.iadd, 1) := by decide +kernel
theorem dX2_measure_153 : decode cX2_measure 153 = .ok (.istore_n 2, 1) := by decide +kernel
theorem dX2_measure_154 : decode cX2_measure 154 = .ok (.goto (-85), 3) := by decide +kernel
theorem dX2_measure_157 : decode cX2_measure 157 = .ok (.goto (-96), 3) := by decide +kernel
theorem dX2_measure_160 : decode cX2_measure 160 = .ok (.return_, 1) := by decide +kernel
set_option maxRecDepth 20000 in
theorem ggX2_collect_X2_measure : GoodIn wsX2_collect wsX2_measure := goodIn_r _ [18, 1, 5, 6, 11, 4, 9, 19, 20, 21, 17, 22, 23, 24, 25, 26, 27, 28, 29, 30, 31, 32, 33, 34, 35, 36, 37, 38, 39, 40, 41, 42, 43, 44] (by decide +kernel) (by decide +kernel)
set_option maxRecDepth 20000 in
theorem gX2_collect_X2_measure : GoodIn wsX2_collect (wsV RX2 70 RX2 yX2_measure wsX2_measure) := goodIn_app (goodIn_of _ (by decide +kernel)) ggX2_collect_X2_measure
set_option maxRecDepth 20000 in
theorem ggX2_collect_X2_length : GoodIn wsX2_collect wsX2_length := goodIn_r _ [26, 19, 20, 21, 17, 22, 9, 27, 28, 29, 30, 31, 32, 33, 34, 35, 36, 37, 38, 39, 40, 41, 42, 43, 44] (by decide +kernel) (by decide +kernel)
set_option maxRecDepth 20000 in
theorem gX2_collect_X2_length : GoodIn wsX2_collect (wsV RX2 67 RX2 yX2_length wsX2_length) := goodIn_app (goodIn_of _ (by decide +kernel)) ggX2_collect_X2_length
set_option maxRecDepth 20000 in
theorem ggX2_collect_X2_references : GoodIn wsX2_collect wsX2_references := goodIn_r _ [22, 9, 31, 32, 33, 34, 35, 36, 37, 38, 39, 40, 41, 42, 43, 44] (by decide +kernel) (by decide +kernel)
set_option maxRecDepth 20000 in
theorem gX2_collect_X2_references : GoodIn wsX2_collect (wsV RX2 45 RX2 yX2_references wsX2_references) := goodIn_app (goodIn_of _ (by decide +kernel)) ggX2_collect_X2_references
theorem dX2_collect_0 : decode cX2_collect 0 = .ok (.aload_n 0, 1) := by decide +kernel
theorem dX2_collect_1 : decode cX2_collect 1 = .ok (.invokevirtual 70, 3) := by decide +kernel
theorem dX2_collect_4 : decode cX2_collect 4 = .ok (.iconst 1, 1) := by decide +kernel
theorem dX2_collect_5 : decode cX2_collect 5 = .ok (.istore_n 1, 1) := by decide +kernel
theorem dX2_collect_6 : decode cX2_collect 6 = .ok (.iconst 0, 1) := by decide +kernel
theorem dX2_collect_7 : decode cX2_collect 7 = .ok (.istore_n 2, 1) := by decide +kernel
theorem dX2_collect_8 : decode cX2_collect 8 = .ok (.iload_n 2, 1) := by decide +kernel
theorem dX2_collect_9 : decode cX2_collect 9 = .ok (.aload_n 0, 1) := by decide +kernel
theorem dX2_collect_10 : decode cX2_collect 10 = .ok (.getfield 36, 3) := by decide +kernel
theorem dX2_collect_13 : decode cX2_collect 13 = .ok (.if_icmp .gt 23, 3) := by decide +kernel
theorem dX2_collect_16 : decode cX2_collect 16 = .ok (.aload_n 0, 1) := by decide +kernel
theorem dX2_collect_17 : decode cX2_collect 17 = .ok (.getfield 30, 3) := by decide +kernel
theorem dX2_collect_20 : decode cX2_collect 20 = .ok (.iload_n 2, 1) := by decide +kernel
theorem dX2_collect_21 : decode cX2_collect 21 = .ok (.iconst 0, 1) := by decide +kernel
theorem dX2_collect_22 : decode cX2_collect 22 = .ok (.iastore, 1) := by decide +kernel
theorem dX2_collect_23 : decode cX2_collect 23 = .ok (.aload_n 0, 1) := by decide +kernel
theorem dX2_collect_24 : decode cX2_collect 24 = .ok (.getfield 24, 3) := by decide +kernel
theorem dX2_collect_27 : decode cX2_collect 27 = .ok (.iload_n 2, 1) := by decide +kernel
theorem dX2_collect_28 : decode cX2_collect 28 = .ok (.iconst 0, 1) := by decide +kernel
theorem dX2_collect_29 : decode cX2_collect 29 = .ok (.bastore, 1) := by decide +kernel
theorem dX2_collect_30 : decode cX2_collect 30 = .ok (.iinc 2 1, 3) := by decide +kernel
theorem dX2_collect_33 : decode cX2_collect 33 = .ok (.goto (-25), 3) := by decide +kernel
theorem dX2_collect_36 : decode cX2_collect 36 = .ok (.iconst 1, 1) := by decide +kernel
theorem dX2_collect_37 : decode cX2_collect 37 = .ok (.istore_n 2, 1) := by decide +kernel
theorem dX2_collect_38 : decode cX2_collect 38 = .ok (.iload_n 2, 1) := by decide +kernel
theorem dX2_collect_39 : decode cX2_collect 39 = .ok (.aload_n 0, 1) := by decide +kernel
theorem dX2_collect_40 : decode cX2_collect 40 = .ok (.getfield 7, 3) := by decide +kernel
theorem dX2_collect_43 : decode cX2_collect 43 = .ok (.if_icmp .ge 54, 3) := by decide +kernel
theorem dX2_collect_46 : decode cX2_collect 46 = .ok (.iconst 0, 1) := by decide +kernel
theorem dX2_collect_47 : decode cX2_collect 47 = .ok (.istore_n 3, 1) := by decide +kernel
theorem dX2_collect_48 : decode cX2_collect 48 = .ok (.iload_n 3, 1) := by decide +kernel
theorem dX2_collect_49 : decode cX2_collect 49 = .ok (.aload_n 0, 1) := by decide +kernel
theorem dX2_collect_50 : decode cX2_collect 50 = .ok (.iload_n 2, 1) := by decide +kernel
theorem dX2_collect_51 : decode cX2_collect 51 = .ok (.invokevirtual 67, 3) := by decide +kernel
theorem dX2_collect_54 : decode cX2_collect 54 = .ok (.if_icmp .ge 32, 3) := by decide +kernel
theorem dX2_collect_57 : decode cX2_collect 57 = .ok (.aload_n 0, 1) := by decide +kernel
theorem dX2_collect_58 : decode cX2_collect 58 = .ok (.getfield 33, 3) := by decide +kernel
theorem dX2_collect_61 : decode cX2_collect 61 = .ok (.iload_n 2, 1) := by decide +kernel
theorem dX2_collect_62 : decode cX2_collect 62 = .ok (.iaload, 1) := by decide +kernel
theorem dX2_collect_63 : decode cX2_collect 63 = .ok (.ldc 66, 2) := by decide +kernel
theorem dX2_collect_65 : decode cX2_collect 65 = .ok (.if_icmp .ge 21, 3) := by decide +kernel
theorem dX2_collect_68 : decode cX2_collect 68 = .ok (.aload_n 0, 1) := by decide +kernel
theorem dX2_collect_69 : decode cX2_collect 69 = .ok (.getfield 30, 3) := by decide +kernel
theorem dX2_collect_72 : decode cX2_collect 72 = .ok (.iload_n 2, 1) := by decide +kernel
theorem dX2_collect_73 : decode cX2_collect 73 = .ok (.iload_n 3, 1) := by decide +kernel
theorem dX2_collect_74 : decode cX2_collect 74 = .ok (.iadd, 1) := by decide +kernel
theorem dX2_collect_75 : decode cX2_collect 75 = .ok (.iload_n 1, 1) := by decide +kernel
theorem dX2_collect_76 : decode cX2_collect 76 = .ok (.iastore, 1) := by decide +kernel
theorem dX2_collect_77 : decode cX2_collect 77 = .ok (.iinc 1 1, 3) := by decide +kernel
theorem dX2_collect_80 : decode cX2_collect 80 = .ok (.iinc 3 1, 3) := by decide +kernel
theorem dX2_collect_83 : decode cX2_collect 83 = .ok (.goto (-35), 3) := by decide +kernel
theorem dX2_collect_86 : decode cX2_collect 86 = .ok (.iload_n 2, 1) := by decide +kernel
theorem dX2_collect_87 : decode cX2_collect 87 = .ok (.aload_n 0, 1) := by decide +kernel
theorem dX2_collect_88 : decode cX2_collect 88 = .ok (.iload_n 2, 1) := by decide +kernel
theorem dX2_collect_89 : decode cX2_collect 89 = .ok (.invokevirtual 67, 3) := by decide +kernel
theorem dX2_collect_92 : decode cX2_collect 92 = .ok (.iadd, 1) := by decide +kernel
theorem dX2_collect_93 : decode cX2_collect 93 = .ok (.istore_n 2, 1) := by decide +kernel
theorem dX2_collect_94 : decode cX2_collect 94 = .ok (.goto (-56), 3) := by decide +kernel
theorem dX2_collect_97 : decode cX2_collect 97 = .ok (.iconst 0, 1) := by decide +kernel
theorem dX2_collect_98 : decode cX2_collect 98 = .ok (.istore_n 2, 1) := by decide +kernel
theorem dX2_collect_99 : decode cX2_collect 99 = .ok (.iload_n 2, 1) := by decide +kernel
theorem dX2_collect_100 : decode cX2_collect 100 = .ok (.aload_n 0, 1) := by decide +kernel
theorem dX2_collect_101 : decode cX2_collect 101 = .ok (.getfield 36, 3) := by decide +kernel
theorem dX2_collect_104 : decode cX2_collect 104 = .ok (.if_icmp .gt 16, 3) := by decide +kernel
theorem dX2_collect_107 : decode cX2_collect 107 = .ok (.aload_n 0, 1) := by decide +kernel
theorem dX2_collect_108 : decode cX2_collect 108 = .ok (.getfield 17, 3) := by decide +kernel
theorem dX2_collect_111 : decode cX2_collect 111 = .ok (.iload_n 2, 1) := by decide +kernel
theorem dX2_collect_112 : decode cX2_collect 112 = .ok (.iconst 0, 1) := by decide +kernel
theorem dX2_collect_113 : decode cX2_collect 113 = .ok (.iastore, 1) := by decide +kernel
theorem dX2_collect_114 : decode cX2_collect 114 = .ok (.iinc 2 1, 3) := by decide +kernel
theorem dX2_collect_117 : decode cX2_collect 117 = .ok (.goto (-18), 3) := by decide +kernel
theorem dX2_collect_120 : decode cX2_collect 120 = .ok (.aload_n 0, 1) := by decide +kernel
theorem dX2_collect_121 : decode cX2_collect 121 = .ok (.iconst 0, 1) := by decide +kernel
theorem dX2_collect_122 : decode cX2_collect 122 = .ok (.putfield 56, 3) := by decide +kernel
theorem dX2_collect_125 : decode cX2_collect 125 = .ok (.iconst 1, 1) := by decide +kernel
theorem dX2_collect_126 : decode cX2_collect 126 = .ok (.istore_n 2, 1) := by decide +kernel
theorem dX2_collect_127 : decode cX2_collect 127 = .ok (.iload_n 2, 1) := by decide +kernel
theorem dX2_collect_128 : decode cX2_collect 128 = .ok (.aload_n 0, 1) := by decide +kernel
theorem dX2_collect_129 : decode cX2_collect 129 = .ok (.getfield 7, 3) := by decide +kernel
theorem dX2_collect_132 : decode cX2_collect 132 = .ok (.if_icmp .ge 124, 3) := by decide +kernel
theorem dX2_collect_135 : decode cX2_collect 135 = .ok (.aload_n 0, 1) := by decide +kernel
theorem dX2_collect_136 : decode cX2_collect 136 = .ok (.getfield 30, 3) := by decide +kernel
theorem dX2_collect_139 : decode cX2_collect 139 = .ok (.iload_n 2, 1) := by decide +kernel
theorem dX2_collect_140 : decode cX2_collect 140 = .ok (.iaload, 1) := by decide +kernel
theorem dX2_collect_141 : decode cX2_collect 141 = .ok (.ifCond .le 104, 3) := by decide +kernel
theorem dX2_collect_144 : decode cX2_collect 144 = .ok (.aload_n 0, 1) := by decide +kernel
theorem dX2_collect_145 : decode cX2_collect 145 = .ok (.getfield 24, 3) := by decide +kernel
theorem dX2_collect_148 : decode cX2_collect 148 = .ok (.aload_n 0, 1) := by decide +kernel
theorem dX2_collect_149 : decode cX2_collect 149 = .ok (.getfield 30, 3) := by decide +kernel
theorem dX2_collect_152 : decode cX2_collect 152 = .ok (.iload_n 2, 1) := by decide +kernel
theorem dX2_collect_153 : decode cX2_collect 153 = .ok (.iaload, 1) := by decide +kernel
theorem dX2_collect_154 : decode cX2_collect 154 = .ok (.iconst 1, 1) := by decide +kernel
theorem dX2_collect_155 : decode cX2_collect 155 = .ok (.bastore, 1) := by decide +kernel
theorem dX2_collect_156 : decode cX2_collect 156 = .ok (.aload_n 0, 1) := by decide +kernel
theorem dX2_collect_157 : decode cX2_collect 157 = .ok (.dup, 1) := by decide +kernel
theorem dX2_collect_158 : decode cX2_collect 158 = .ok (.getfield 56, 3) := by decide +kernel
theorem dX2_collect_161 : decode cX2_collect 161 = .ok (.iconst 1, 1) := by decide +kernel
theorem dX2_collect_162 : decode cX2_collect 162 = .ok (.iadd, 1) := by decide +kernel
theorem dX2_collect_163 : decode cX2_collect 163 = .ok (.putfield 56, 3) := by decide +kernel
theorem dX2_collect_166 : decode cX2_collect 166 = .ok (.iconst 0, 1) := by decide +kernel
theorem dX2_collect_167 : decode cX2_collect 167 = .ok (.istore_n 3, 1) := by decide +kernel
theorem dX2_collect_168 : decode cX2_collect 168 = .ok (.iload_n 3, 1) := by decide +kernel
theorem dX2_collect_169 : decode cX2_collect 169 = .ok (.aload_n 0, 1) := by decide +kernel
theorem dX2_collect_170 : decode cX2_collect 170 = .ok (.iload_n 2, 1) := by decide +kernel
theorem dX2_collect_171 : decode cX2_collect 171 = .ok (.invokevirtual 67, 3) := by decide +kernel
theorem dX2_collect_174 : decode cX2_collect 174 = .ok (.if_icmp .ge 71, 3) := by decide +kernel
theorem dX2_collect_177 : decode cX2_collect 177 = .ok (.iload_n 3, 1) := by decide +kernel
theorem dX2_collect_178 : decode cX2_collect 178 = .ok (.ifCond .le 16, 3) := by decide +kernel
theorem dX2_collect_181 : decode cX2_collect 181 = .ok (.iload_n 3, 1) := by decide +kernel
theorem dX2_collect_182 : decode cX2_collect 182 = .ok (.aload_n 0, 1) := by decide +kernel
theorem dX2_collect_183 : decode cX2_collect 183 = .ok (.iload_n 2, 1) := by decide +kernel
theorem dX2_collect_184 : decode cX2_collect 184 = .ok (.invokevirtual 45, 3) := by decide +kernel
theorem dX2_collect_187 : decode cX2_collect 187 = .ok (.if_icmp .gt 7, 3) := by decide +kernel
theorem dX2_collect_190 : decode cX2_collect 190 = .ok (.iconst 1, 1) := by decide +kernel
theorem dX2_collect_191 : decode cX2_collect 191 = .ok (.goto 4, 3) := by decide +kernel
theorem dX2_collect_194 : decode cX2_collect 194 = .ok (.iconst 0, 1) := by decide +kernel
theorem dX2_collect_195 : decode cX2_collect 195 = .ok (.istore 4, 2) := by decide +kernel
theorem dX2_collect_197 : decode cX2_collect 197 = .ok (.aload_n 0, 1) := by decide +kernel
theorem dX2_collect_198 : decode cX2_collect 198 = .ok (.getfield 17, 3) := by decide +kernel
theorem dX2_collect_201 : decode cX2_collect 201 = .ok (.aload_n 0, 1) := by decide +kernel
theorem dX2_collect_202 : decode cX2_collect 202 = .ok (.getfield 30, 3) := by decide +kernel
theorem dX2_collect_205 : decode cX2_collect 205 = .ok (.iload_n 2, 1) := by decide +kernel
theorem dX2_collect_206 : decode cX2_collect 206 = .ok (.iaload, 1) := by decide +kernel
theorem dX2_collect_207 : decode cX2_collect 207 = .ok (.iload_n 3, 1) := by decide +kernel
theorem dX2_collect_208 : decode cX2_collect 208 = .ok (.iadd, 1) := by decide +kernel
theorem dX2_collect_209 : decode cX2_collect 209 = .ok (.iload 4, 2) := by decide +kernel
theorem dX2_collect_211 : decode cX2_collect 211 = .ok (.ifCond .eq 19, 3) := by decide +kernel
theorem dX2_collect_214 : decode cX2_collect 214 = .ok (.aload_n 0, 1) := by decide +kernel
theorem dX2_collect_215 : decode cX2_collect 215 = .ok (.getfield 30, 3) := by decide +kernel
theorem dX2_collect_218 : decode cX2_collect 218 = .ok (.aload_n 0, 1) := by decide +kernel
theorem dX2_collect_219 : decode cX2_collect 219 = .ok (.getfield 13, 3) := by decide +kernel
theorem dX2_collect_222 : decode cX2_collect 222 = .ok (.iload_n 2, 1) := by decide +kernel
theorem dX2_collect_223 : decode cX2_collect 223 = .ok (.iload_n 3, 1) := by decide +kernel
theorem dX2_collect_224 : decode cX2_collect 224 = .ok (.iadd, 1) := by decide +kernel
theorem dX2_collect_225 : decode cX2_collect 225 = .ok (.iaload, 1) := by decide +kernel
theorem dX2_collect_226 : decode cX2_collect 226 = .ok (.iaload, 1) := by decide +kernel
theorem dX2_collect_227 : decode cX2_collect 227 = .ok (.goto 11, 3) := by decide +kernel
theorem dX2_collect_230 : decode cX2_collect 230 = .ok (.aload_n 0, 1) := by decide +kernel
theorem dX2_collect_231 : decode cX2_collect 231 = .ok (.getfield 13, 3) := by decide +kernel
theorem dX2_collect_234 : decode cX2_collect 234 = .ok (.iload_n 2, 1) := by decide +kernel
theorem dX2_collect_235 : decode cX2_collect 235 = .ok (.iload_n 3, 1) := by decide +kernel
theorem dX2_collect_236 : decode cX2_collect 236 = .ok (.iadd, 1) := by decide +kernel
theorem dX2_collect_237 : decode cX2_collect 237 = .ok (.iaload, 1) := by decide +kernel
theorem dX2_collect_238 : decode cX2_collect 238 = .ok (.iastore, 1) := by decide +kernel
theorem dX2_collect_239 : decode cX2_collect 239 = .ok (.iinc 3 1, 3) := by decide +kernel
theorem dX2_collect_242 : decode cX2_collect 242 = .ok (.goto (-74), 3) := by decide +kernel
theorem dX2_collect_245 : decode cX2_collect 245 = .ok (.iload_n 2, 1) := by decide +kernel
theorem dX2_collect_246 : decode cX2_collect 246 = .ok (.aload_n 0, 1) := by decide +kernel
theorem dX2_collect_247 : decode cX2_collect 247 = .ok (.iload_n 2, 1) := by decide +kernel
theorem dX2_collect_248 : decode cX2_collect 248 = .ok (.invokevirtual 67, 3) := by decide +kernel
theorem dX2_collect_251 : decode cX2_collect 251 = .ok (.iadd, 1) := by decide +kernel
theorem dX2_collect_252 : decode cX2_collect 252 = .ok (.istore_n 2, 1) := by decide +kernel
theorem dX2_collect_253 : decode cX2_collect 253 = .ok (.goto (-126), 3) := by decide +kernel
theorem dX2_collect_256 : decode cX2_collect 256 = .ok (.iconst 0, 1) := by decide +kernel
theorem dX2_collect_257 : decode cX2_collect 257 = .ok (.istore_n 2, 1) := by decide +kernel
theorem dX2_collect_258 : decode cX2_collect 258 = .ok (.iload_n 2, 1) := by decide +kernel
theorem dX2_collect_259 : decode cX2_collect 259 = .ok (.aload_n 0, 1) := by decide +kernel
theorem dX2_collect_260 : decode cX2_collect 260 = .ok (.getfield 36, 3) := by decide +kernel
theorem dX2_collect_263 : decode cX2_collect 263 = .ok (.if_icmp .gt 33, 3) := by decide +kernel
theorem dX2_collect_266 : decode cX2_collect 266 = .ok (.aload_n 0, 1) := by decide +kernel
theorem dX2_collect_267 : decode cX2_collect 267 = .ok (.getfield 13, 3) := by decide +kernel
theorem dX2_collect_270 : decode cX2_collect 270 = .ok (.iload_n 2, 1) := by decide +kernel
theorem dX2_collect_271 : decode cX2_collect 271 = .ok (.aload_n 0, 1) := by decide +kernel
theorem dX2_collect_272 : decode cX2_collect 272 = .ok (.getfield 17, 3) := by decide +kernel
theorem dX2_collect_275 : decode cX2_collect 275 = .ok (.iload_n 2, 1) := by decide +kernel
theorem dX2_collect_276 : decode cX2_collect 276 = .ok (.iaload, 1) := by decide +kernel
theorem dX2_collect_277 : decode cX2_collect 277 = .ok (.iastore, 1) := by decide +kernel
theorem dX2_collect_278 : decode cX2_collect 278 = .ok (.aload_n 0, 1) := by decide +kernel
theorem dX2_collect_279 : decode cX2_collect 279 = .ok (.getfield 20, 3) := by decide +kernel
theorem dX2_collect_282 : decode cX2_collect 282 = .ok (.iload_n 2, 1) := by decide +kernel
theorem dX2_collect_283 : decode cX2_collect 283 = .ok (.aload_n 0, 1) := by decide +kernel
theorem dX2_collect_284 : decode cX2_collect 284 = .ok (.getfield 24, 3) := by decide +kernel
theorem dX2_collect_287 : decode cX2_collect 287 = .ok (.iload_n 2, 1) := by decide +kernel
theorem dX2_collect_288 : decode cX2_collect 288 = .ok (.baload, 1) := by decide +kernel
theorem dX2_collect_289 : decode cX2_collect 289 = .ok (.bastore, 1) := by decide +kernel
theorem dX2_collect_290 : decode cX2_collect 290 = .ok (.iinc 2 1, 3) := by decide +kernel
theorem dX2_collect_293 : decode cX2_collect 293 = .ok (.goto (-35), 3) := by decide +kernel
theorem dX2_collect_296 : decode cX2_collect 296 = .ok (.iconst 0, 1) := by decide +kernel
theorem dX2_collect_297 : decode cX2_collect 297 = .ok (.istore_n 2, 1) := by decide +kernel
theorem dX2_collect_298 : decode cX2_collect 298 = .ok (.iload_n 2, 1) := by decide +kernel
theorem dX2_collect_299 : decode cX2_collect 299 = .ok (.bipush 8, 2) := by decide +kernel
theorem dX2_collect_301 : decode cX2_collect 301 = .ok (.if_icmp .ge 26, 3) := by decide +kernel
theorem dX2_collect_304 : decode cX2_collect 304 = .ok (.aload_n 0, 1) := by decide +kernel
theorem dX2_collect_305 : decode cX2_collect 305 = .ok (.getfield 27, 3) := by decide +kernel
theorem dX2_collect_308 : decode cX2_collect 308 = .ok (.iload_n 2, 1) := by decide +kernel
theorem dX2_collect_309 : decode cX2_collect 309 = .ok (.aload_n 0, 1) := by decide +kernel
theorem dX2_collect_310 : decode cX2_collect 310 = .ok (.getfield 30, 3) := by decide +kernel
theorem dX2_collect_313 : decode cX2_collect 313 = .ok (.aload_n 0, 1) := by decide +kernel
theorem dX2_collect_314 : decode cX2_collect 314 = .ok (.getfield 27, 3) := by decide +kernel
theorem dX2_collect_317 : decode cX2_collect 317 = .ok (.iload_n 2, 1) := by decide +kernel
theorem dX2_collect_318 : decode cX2_collect 318 = .ok (.iaload, 1) := by decide +kernel
theorem dX2_collect_319 : decode cX2_collect 319 = .ok (.iaload, 1) := by decide +kernel
theorem dX2_collect_320 : decode cX2_collect 320 = .ok (.iastore, 1) := by decide +kernel
theorem dX2_collect_321 : decode cX2_collect 321 = .ok (.iinc 2 1, 3) := by decide +kernel
theorem dX2_collect_324 : decode cX2_collect 324 = .ok (.goto (-26), 3) := by decide +kernel
theorem dX2_collect_327 : decode cX2_collect 327 = .ok (.aload_n 0, 1) := by decide +kernel
theorem dX2_collect_328 : decode cX2_collect 328 = .ok (.iload_n 1, 1) := by decide +kernel
theorem dX2_collect_329 : decode cX2_collect 329 = .ok (.putfield 7, 3) := by decide +kernel
theorem dX2_collect_332 : decode cX2_collect 332 = .ok (.aload_n 0, 1) := by decide +kernel
theorem dX2_collect_333 : decode cX2_collect 333 = .ok (.iload_n 1, 1) := by decide +kernel
theorem dX2_collect_334 : decode cX2_collect 334 = .ok (.iconst 1, 1) := by decide +kernel
theorem dX2_collect_335 : decode cX2_collect 335 = .ok (.isub, 1) := by decide +kernel
theorem dX2_collect_336 : decode cX2_collect 336 = .ok (.putfield 73, 3) := by decide +kernel
theorem dX2_collect_339 : decode cX2_collect 339 = .ok (.aload_n 0, 1) := by decide +kernel
theorem dX2_collect_340 : decode cX2_collect 340 = .ok (.dup, 1) := by decide +kernel
theorem dX2_collect_341 : decode cX2_collect 341 = .ok (.getfield 76, 3) := by decide +kernel
theorem dX2_collect_344 : decode cX2_collect 344 = .ok (.iconst 1, 1) := by decide +kernel
theorem dX2_collect_345 : decode cX2_collect 345 = .ok (.iadd, 1) := by decide +kernel
theorem dX2_collect_346 : decode cX2_collect 346 = .ok (.putfield 76, 3) := by decide +kernel
theorem dX2_collect_349 : decode cX2_collect 349 = .ok (.aload_n 0, 1) := by decide +kernel
theorem dX2_collect_350 : decode cX2_collect 350 = .ok (.getfield 73, 3) := by decide +kernel
theorem dX2_collect_353 : decode cX2_collect 353 = .ok (.ireturn, 1) := by decide +kernel
set_option maxRecDepth 20000 in
theorem ggX2_isWord_X2_isIn : GoodIn wsX2_isWord wsX2_isIn := goodIn_r _ [5] (by decide +kernel) (by decide +kernel)
set_option maxRecDepth 20000 in
theorem gX2_isWord_X2_isIn : GoodIn wsX2_isWord (va_wsS RX2 52 yX2_isIn wsX2_isIn) := goodIn_app (goodIn_of _ (by decide +kernel)) ggX2_isWord_X2_isIn
theorem dX2_isWord_0 : decode cX2_isWord 0 = .ok (.iload_n 1, 1) := by decide +kernel
theorem dX2_isWord_1 : decode cX2_isWord 1 = .ok (.iconst 0, 1) := by decide +kernel
theorem dX2_isWord_2 : decode cX2_isWord 2 = .ok (.aload_n 0, 1) := by decide +kernel
theorem dX2_isWord_3 : decode cX2_isWord 3 = .ok (.getfield 36, 3) := by decide +kernel
theorem dX2_isWord_6 : decode cX2_isWord 6 = .ok (.invokestatic 52, 3) := by decide +kernel
theorem dX2_isWord_9 : decode cX2_isWord 9 = .ok (.ireturn, 1) := by decide +kernel
set_option maxRecDepth 20000 in
theorem ggX2_word_X2_isWord : GoodIn wsX2_word wsX2_isWord := goodIn_r _ [6, 7, 8, 9, 5, 10, 11, 12, 13, 14, 15, 16, 17, 18, 19, 20, 21, 22, 23, 24] (by decide +kernel) (by decide +kernel)
set_option maxRecDepth 20000 in
theorem gX2_word_X2_isWord : GoodIn wsX2_word (wsV RX2 79 RX2 yX2_isWord wsX2_isWord) := goodIn_app (goodIn_of _ (by decide +kernel)) ggX2_word_X2_isWord
theorem dX2_word_0 : decode cX2_word 0 = .ok (.aload_n 0, 1) := by decide +kernel
theorem dX2_word_1 : decode cX2_word 1 = .ok (.iload_n 1, 1) := by decide +kernel
theorem dX2_word_2 : decode cX2_word 2 = .ok (.invokevirtual 79, 3) := by decide +kernel
theorem dX2_word_5 : decode cX2_word 5 = .ok (.ifCond .eq 12, 3) := by decide +kernel
theorem dX2_word_8 : decode cX2_word 8 = .ok (.aload_n 0, 1) := by decide +kernel
theorem dX2_word_9 : decode cX2_word 9 = .ok (.getfield 13, 3) := by decide +kernel
theorem dX2_word_12 : decode cX2_word 12 = .ok (.iload_n 1, 1) := by decide +kernel
theorem dX2_word_13 : decode cX2_word 13 = .ok (.iaload, 1) := by decide +kernel
theorem dX2_word_14 : decode cX2_word 14 = .ok (.goto 4, 3) := by decide +kernel
theorem dX2_word_17 : decode cX2_word 17 = .ok (.iconst (-1), 1) := by decide +kernel
theorem dX2_word_18 : decode cX2_word 18 = .ok (.ireturn, 1) := by decide +kernel
set_option maxRecDepth 20000 in
theorem ggX2_rootOf_X2_isIn : GoodIn wsX2_rootOf wsX2_isIn := goodIn_r _ [5] (by decide +kernel) (by decide +kernel)
set_option maxRecDepth 20000 in
theorem gX2_rootOf_X2_isIn : GoodIn wsX2_rootOf (va_wsS RX2 52 yX2_isIn wsX2_isIn) := goodIn_app (goodIn_of _ (by decide +kernel)) ggX2_rootOf_X2_isIn
theorem dX2_rootOf_0 : decode cX2_rootOf 0 = .ok (.iload_n 1, 1) := by decide +kernel
theorem dX2_rootOf_1 : decode cX2_rootOf 1 = .ok (.iconst 0, 1) := by decide +kernel
theorem dX2_rootOf_2 : decode cX2_rootOf 2 = .ok (.bipush 7, 2) := by decide +kernel
theorem dX2_rootOf_4 : decode cX2_rootOf 4 = .ok (.invokestatic 52, 3) := by decide +kernel
theorem dX2_rootOf_7 : decode cX2_rootOf 7 = .ok (.ifCond .eq 12, 3) := by decide +kernel
theorem dX2_rootOf_10 : decode cX2_rootOf 10 = .ok (.aload_n 0, 1) := by decide +kernel
theorem dX2_rootOf_11 : decode cX2_rootOf 11 = .ok (.getfield 27, 3) := by decide +kernel
theorem dX2_rootOf_14 : decode cX2_rootOf 14 = .ok (.iload_n 1, 1) := by decide +kernel
theorem dX2_rootOf_15 : decode cX2_rootOf 15 = .ok (.iaload, 1) := by decide +kernel
theorem dX2_rootOf_16 : decode cX2_rootOf 16 = .ok (.goto 4, 3) := by decide +kernel
theorem dX2_rootOf_19 : decode cX2_rootOf 19 = .ok (.iconst (-1), 1) := by decide +kernel
theorem dX2_rootOf_20 : decode cX2_rootOf 20 = .ok (.ireturn, 1) := by decide +kernel
set_option maxRecDepth 20000 in
theorem ggX2_bit_X2_isWord : GoodIn wsX2_bit wsX2_isWord := goodIn_r _ [6, 7, 8, 9, 5, 10, 11, 12, 13, 14, 15, 16, 17, 18, 19, 20, 21, 22, 23, 24] (by decide +kernel) (by decide +kernel)
set_option maxRecDepth 20000 in
theorem gX2_bit_X2_isWord : GoodIn wsX2_bit (wsV RX2 79 RX2 yX2_isWord wsX2_isWord) := goodIn_app (goodIn_of _ (by decide +kernel)) ggX2_bit_X2_isWord
theorem dX2_bit_0 : decode cX2_bit 0 = .ok (.aload_n 0, 1) := by decide +kernel
theorem dX2_bit_1 : decode cX2_bit 1 = .ok (.iload_n 1, 1) := by decide +kernel
theorem dX2_bit_2 : decode cX2_bit 2 = .ok (.invokevirtual 79, 3) := by decide +kernel
theorem dX2_bit_5 : decode cX2_bit 5 = .ok (.ifCond .ne 7, 3) := by decide +kernel
theorem dX2_bit_8 : decode cX2_bit 8 = .ok (.iconst (-1), 1) := by decide +kernel
theorem dX2_bit_9 : decode cX2_bit 9 = .ok (.goto 17, 3) := by decide +kernel
theorem dX2_bit_12 : decode cX2_bit 12 = .ok (.aload_n 0, 1) := by decide +kernel
theorem dX2_bit_13 : decode cX2_bit 13 = .ok (.getfield 30, 3) := by decide +kernel
theorem dX2_bit_16 : decode cX2_bit 16 = .ok (.iload_n 1, 1) := by decide +kernel
theorem dX2_bit_17 : decode cX2_bit 17 = .ok (.iaload, 1) := by decide +kernel
theorem dX2_bit_18 : decode cX2_bit 18 = .ok (.ifCond .le 7, 3) := by decide +kernel
theorem dX2_bit_21 : decode cX2_bit 21 = .ok (.iconst 1, 1) := by decide +kernel
theorem dX2_bit_22 : decode cX2_bit 22 = .ok (.goto 4, 3) := by decide +kernel
theorem dX2_bit_25 : decode cX2_bit 25 = .ok (.iconst 0, 1) := by decide +kernel
theorem dX2_bit_26 : decode cX2_bit 26 = .ok (.ireturn, 1) := by decide +kernel
theorem dX2_blocks_0 : decode cX2_blocks 0 = .ok (.aload_n 0, 1) := by decide +kernel
theorem dX2_blocks_1 : decode cX2_blocks 1 = .ok (.getfield 36, 3) := by decide +kernel
theorem dX2_blocks_4 : decode cX2_blocks 4 = .ok (.aload_n 0, 1) := by decide +kernel
theorem dX2_blocks_5 : decode cX2_blocks 5 = .ok (.getfield 39, 3) := by decide +kernel
theorem dX2_blocks_8 : decode cX2_blocks 8 = .ok (.idiv, 1) := by decide +kernel
theorem dX2_blocks_9 : decode cX2_blocks 9 = .ok (.iconst 1, 1) := by decide +kernel
theorem dX2_blocks_10 : decode cX2_blocks 10 = .ok (.iadd, 1) := by decide +kernel
theorem dX2_blocks_11 : decode cX2_blocks 11 = .ok (.ireturn, 1) := by decide +kernel
set_option maxRecDepth 20000 in
theorem ggX2_offset_X2_blocks : GoodIn wsX2_offset wsX2_blocks := goodIn_r _ [7, 8, 1, 12, 13, 14, 15, 16, 17, 18, 19, 20, 21, 22, 23, 24, 25] (by decide +kernel) (by decide +kernel)
set_option maxRecDepth 20000 in
theorem gX2_offset_X2_blocks : GoodIn wsX2_offset (wsV RX2 82 RX2 yX2_blocks wsX2_blocks) := goodIn_app (goodIn_of _ (by decide +kernel)) ggX2_offset_X2_blocks
set_option maxRecDepth 20000 in
theorem ggX2_offset_X2_isIn : GoodIn wsX2_offset wsX2_isIn := goodIn_r _ [11] (by decide +kernel) (by decide +kernel)
set_option maxRecDepth 20000 in
theorem gX2_offset_X2_isIn : GoodIn wsX2_offset (va_wsS RX2 52 yX2_isIn wsX2_isIn) := goodIn_app (goodIn_of _ (by decide +kernel)) ggX2_offset_X2_isIn
theorem dX2_offset_0 : decode cX2_offset 0 = .ok (.iload_n 1, 1) := by decide +kernel
theorem dX2_offset_1 : decode cX2_offset 1 = .ok (.iconst 0, 1) := by decide +kernel
theorem dX2_offset_2 : decode cX2_offset 2 = .ok (.aload_n 0, 1) := by decide +kernel
theorem dX2_offset_3 : decode cX2_offset 3 = .ok (.invokevirtual 82, 3) := by decide +kernel
theorem dX2_offset_6 : decode cX2_offset 6 = .ok (.iconst 1, 1) := by decide +kernel
theorem dX2_offset_7 : decode cX2_offset 7 = .ok (.isub, 1) := by decide +kernel
theorem dX2_offset_8 : decode cX2_offset 8 = .ok (.invokestatic 52, 3) := by decide +kernel
theorem dX2_offset_11 : decode cX2_offset 11 = .ok (.ifCond .ne 5, 3) := by decide +kernel
theorem dX2_offset_14 : decode cX2_offset 14 = .ok (.iconst (-1), 1) := by decide +kernel
theorem dX2_offset_15 : decode cX2_offset 15 = .ok (.ireturn, 1) := by decide +kernel
theorem dX2_offset_16 : decode cX2_offset 16 = .ok (.iconst 0, 1) := by decide +kernel
theorem dX2_offset_17 : decode cX2_offset 17 = .ok (.istore_n 2, 1) := by decide +kernel
theorem dX2_offset_18 : decode cX2_offset 18 = .ok (.iconst 0, 1) := by decide +kernel
theorem dX2_offset_19 : decode cX2_offset 19 = .ok (.istore_n 3, 1) := by decide +kernel
theorem dX2_offset_20 : decode cX2_offset 20 = .ok (.iload_n 3, 1) := by decide +kernel
theorem dX2_offset_21 : decode cX2_offset 21 = .ok (.iload_n 1, 1) := by decide +kernel
theorem dX2_offset_22 : decode cX2_offset 22 = .ok (.aload_n 0, 1) := by decide +kernel
theorem dX2_offset_23 : decode cX2_offset 23 = .ok (.getfield 39, 3) := by decide +kernel
theorem dX2_offset_26 : decode cX2_offset 26 = .ok (.imul, 1) := by decide +kernel
theorem dX2_offset_27 : decode cX2_offset 27 = .ok (.if_icmp .ge 26, 3) := by decide +kernel
theorem dX2_offset_30 : decode cX2_offset 30 = .ok (.aload_n 0, 1) := by decide +kernel
theorem dX2_offset_31 : decode cX2_offset 31 = .ok (.getfield 30, 3) := by decide +kernel
theorem dX2_offset_34 : decode cX2_offset 34 = .ok (.iload_n 3, 1) := by decide +kernel
theorem dX2_offset_35 : decode cX2_offset 35 = .ok (.iaload, 1) := by decide +kernel
theorem dX2_offset_36 : decode cX2_offset 36 = .ok (.ifCond .le 9, 3) := by decide +kernel
theorem dX2_offset_39 : decode cX2_offset 39 = .ok (.iload_n 2, 1) := by decide +kernel
theorem dX2_offset_40 : decode cX2_offset 40 = .ok (.iconst 1, 1) := by decide +kernel
theorem dX2_offset_41 : decode cX2_offset 41 = .ok (.iadd, 1) := by decide +kernel
theorem dX2_offset_42 : decode cX2_offset 42 = .ok (.goto 4, 3) := by decide +kernel
theorem dX2_offset_45 : decode cX2_offset 45 = .ok (.iload_n 2, 1) := by decide +kernel
theorem dX2_offset_46 : decode cX2_offset 46 = .ok (.istore_n 2, 1) := by decide +kernel
theorem dX2_offset_47 : decode cX2_offset 47 = .ok (.iinc 3 1, 3) := by decide +kernel
theorem dX2_offset_50 : decode cX2_offset 50 = .ok (.goto (-30), 3) := by decide +kernel
theorem dX2_offset_53 : decode cX2_offset 53 = .ok (.iload_n 2, 1) := by decide +kernel
theorem dX2_offset_54 : decode cX2_offset 54 = .ok (.ireturn, 1) := by decide +kernel
set_option maxRecDepth 20000 in
theorem ggX2_moved_X2_isWord : GoodIn wsX2_moved wsX2_isWord := goodIn_r _ [6, 7, 8, 9, 5, 10, 11, 12, 13, 14, 15, 16, 17, 18, 19, 20, 21, 22, 23, 24] (by decide +kernel) (by decide +kernel)
set_option maxRecDepth 20000 in
theorem gX2_moved_X2_isWord : GoodIn wsX2_moved (wsV RX2 79 RX2 yX2_isWord wsX2_isWord) := goodIn_app (goodIn_of _ (by decide +kernel)) ggX2_moved_X2_isWord
theorem dX2_moved_0 : decode cX2_moved 0 = .ok (.aload_n 0, 1) := by decide +kernel
theorem dX2_moved_1 : decode cX2_moved 1 = .ok (.iload_n 1, 1) := by decide +kernel
theorem dX2_moved_2 : decode cX2_moved 2 = .ok (.invokevirtual 79, 3) := by decide +kernel
theorem dX2_moved_5 : decode cX2_moved 5 = .ok (.ifCond .eq 12, 3) := by decide +kernel
theorem dX2_moved_8 : decode cX2_moved 8 = .ok (.aload_n 0, 1) := by decide +kernel
theorem dX2_moved_9 : decode cX2_moved 9 = .ok (.getfield 30, 3) := by decide +kernel
theorem dX2_moved_12 : decode cX2_moved 12 = .ok (.iload_n 1, 1) := by decide +kernel
theorem dX2_moved_13 : decode cX2_moved 13 = .ok (.iaload, 1) := by decide +kernel
theorem dX2_moved_14 : decode cX2_moved 14 = .ok (.goto 4, 3) := by decide +kernel
theorem dX2_moved_17 : decode cX2_moved 17 = .ok (.iconst (-1), 1) := by decide +kernel
theorem dX2_moved_18 : decode cX2_moved 18 = .ok (.ireturn, 1) := by decide +kernel
theorem dX2_reads_0 : decode cX2_reads 0 = .ok (.aload_n 0, 1) := by decide +kernel
theorem dX2_reads_1 : decode cX2_reads 1 = .ok (.getfield 73, 3) := by decide +kernel
theorem dX2_reads_4 : decode cX2_reads 4 = .ok (.ireturn, 1) := by decide +kernel
set_option maxRecDepth 20000 in
theorem ggX2_near_X2_isIn : GoodIn wsX2_near wsX2_isIn := goodIn_r _ [6] (by decide +kernel) (by decide +kernel)
set_option maxRecDepth 20000 in
theorem gX2_near_X2_isIn : GoodIn wsX2_near (va_wsS RX2 52 yX2_isIn wsX2_isIn) := goodIn_app (goodIn_of _ (by decide +kernel)) ggX2_near_X2_isIn
set_option maxRecDepth 20000 in
theorem ggX2_near_X2_measure : GoodIn wsX2_near wsX2_measure := goodIn_r _ [10, 11, 2, 12, 13, 1, 14, 15, 16, 17, 5, 18, 19, 20, 21, 22, 23, 24, 25, 26, 27, 28, 29, 30, 31, 32, 33, 34, 35, 36, 37, 38, 39, 40] (by decide +kernel) (by decide +kernel)
set_option maxRecDepth 20000 in
theorem gX2_near_X2_measure : GoodIn wsX2_near (wsV RX2 70 RX2 yX2_measure wsX2_measure) := goodIn_app (goodIn_of _ (by decide +kernel)) ggX2_near_X2_measure
set_option maxRecDepth 20000 in
theorem ggX2_near_X2_length : GoodIn wsX2_near wsX2_length := goodIn_r _ [22, 15, 16, 17, 5, 18, 14, 23, 24, 25, 26, 27, 28, 29, 30, 31, 32, 33, 34, 35, 36, 37, 38, 39, 40] (by decide +kernel) (by decide +kernel)
set_option maxRecDepth 20000 in
theorem gX2_near_X2_length : GoodIn wsX2_near (wsV RX2 67 RX2 yX2_length wsX2_length) := goodIn_app (goodIn_of _ (by decide +kernel)) ggX2_near_X2_length
theorem dX2_near_0 : decode cX2_near 0 = .ok (.iload_n 1, 1) := by decide +kernel
theorem dX2_near_1 : decode cX2_near 1 = .ok (.iconst 0, 1) := by decide +kernel
theorem dX2_near_2 : decode cX2_near 2 = .ok (.bipush 100, 2) := by decide +kernel
theorem dX2_near_4 : decode cX2_near 4 = .ok (.invokestatic 52, 3) := by decide +kernel
theorem dX2_near_7 : decode cX2_near 7 = .ok (.ifCond .ne 5, 3) := by decide +kernel
theorem dX2_near_10 : decode cX2_near 10 = .ok (.iconst (-1), 1) := by decide +kernel
theorem dX2_near_11 : decode cX2_near 11 = .ok (.ireturn, 1) := by decide +kernel
theorem dX2_near_12 : decode cX2_near 12 = .ok (.aload_n 0, 1) := by decide +kernel
theorem dX2_near_13 : decode cX2_near 13 = .ok (.invokevirtual 70, 3) := by decide +kernel
theorem dX2_near_16 : decode cX2_near 16 = .ok (.iconst 0, 1) := by decide +kernel
theorem dX2_near_17 : decode cX2_near 17 = .ok (.istore_n 2, 1) := by decide +kernel
theorem dX2_near_18 : decode cX2_near 18 = .ok (.iconst 1, 1) := by decide +kernel
theorem dX2_near_19 : decode cX2_near 19 = .ok (.istore_n 3, 1) := by decide +kernel
theorem dX2_near_20 : decode cX2_near 20 = .ok (.iload_n 3, 1) := by decide +kernel
theorem dX2_near_21 : decode cX2_near 21 = .ok (.aload_n 0, 1) := by decide +kernel
theorem dX2_near_22 : decode cX2_near 22 = .ok (.getfield 7, 3) := by decide +kernel
theorem dX2_near_25 : decode cX2_near 25 = .ok (.if_icmp .ge 32, 3) := by decide +kernel
theorem dX2_near_28 : decode cX2_near 28 = .ok (.aload_n 0, 1) := by decide +kernel
theorem dX2_near_29 : decode cX2_near 29 = .ok (.getfield 33, 3) := by decide +kernel
theorem dX2_near_32 : decode cX2_near 32 = .ok (.iload_n 3, 1) := by decide +kernel
theorem dX2_near_33 : decode cX2_near 33 = .ok (.iaload, 1) := by decide +kernel
theorem dX2_near_34 : decode cX2_near 34 = .ok (.iload_n 1, 1) := by decide +kernel
theorem dX2_near_35 : decode cX2_near 35 = .ok (.if_icmp .gt 9, 3) := by decide +kernel
theorem dX2_near_38 : decode cX2_near 38 = .ok (.iload_n 2, 1) := by decide +kernel
theorem dX2_near_39 : decode cX2_near 39 = .ok (.iconst 1, 1) := by decide +kernel
theorem dX2_near_40 : decode cX2_near 40 = .ok (.iadd, 1) := by decide +kernel
theorem dX2_near_41 : decode cX2_near 41 = .ok (.goto 4, 3) := by decide +kernel
theorem dX2_near_44 : decode cX2_near 44 = .ok (.iload_n 2, 1) := by decide +kernel
theorem dX2_near_45 : decode cX2_near 45 = .ok (.istore_n 2, 1) := by decide +kernel
theorem dX2_near_46 : decode cX2_near 46 = .ok (.iload_n 3, 1) := by decide +kernel
end
section
theorem dX2_near_47 : decode cX2_near 47 = .ok (.aload_n 0, 1) := by decide +kernel
theorem dX2_near_48 : decode cX2_near 48 = .ok (.iload_n 3, 1) := by decide +kernel
theorem dX2_near_49 : decode cX2_near 49 = .ok (.invokevirtual 67, 3) := by decide +kernel
theorem dX2_near_52 : decode cX2_near 52 = .ok (.iadd, 1) := by decide +kernel
theorem dX2_near_53 : decode cX2_near 53 = .ok (.istore_n 3, 1) := by decide +kernel
theorem dX2_near_54 : decode cX2_near 54 = .ok (.goto (-34), 3) := by decide +kernel
theorem dX2_near_57 : decode cX2_near 57 = .ok (.iload_n 2, 1) := by decide +kernel
theorem dX2_near_58 : decode cX2_near 58 = .ok (.ireturn, 1) := by decide +kernel
set_option maxRecDepth 20000 in
theorem ggX2_sound_X2_references : GoodIn wsX2_sound wsX2_references := goodIn_r _ [10, 3, 31, 32, 33, 34, 35, 36, 37, 38, 39, 40, 41, 42, 43, 44] (by decide +kernel) (by decide +kernel)
set_option maxRecDepth 20000 in
theorem gX2_sound_X2_references : GoodIn wsX2_sound (wsV RX2 45 RX2 yX2_references wsX2_references) := goodIn_app (goodIn_of _ (by decide +kernel)) ggX2_sound_X2_references
set_option maxRecDepth 20000 in
theorem ggX2_sound_X2_isLead : GoodIn wsX2_sound wsX2_isLead := goodIn_r _ [14, 15, 16, 17, 9, 18, 19, 2, 20, 21, 22, 31, 32, 33, 34, 35, 36, 37, 38, 39, 40, 41, 42, 43, 44] (by decide +kernel) (by decide +kernel)
set_option maxRecDepth 20000 in
theorem gX2_sound_X2_isLead : GoodIn wsX2_sound (wsV RX2 63 RX2 yX2_isLead wsX2_isLead) := goodIn_app (goodIn_of _ (by decide +kernel)) ggX2_sound_X2_isLead
set_option maxRecDepth 20000 in
theorem ggX2_sound_X2_length : GoodIn wsX2_sound wsX2_length := goodIn_r _ [26, 6, 7, 8, 9, 10, 3, 27, 28, 29, 30, 31, 32, 33, 34, 35, 36, 37, 38, 39, 40, 41, 42, 43, 44] (by decide +kernel) (by decide +kernel)
set_option maxRecDepth 20000 in
theorem gX2_sound_X2_length : GoodIn wsX2_sound (wsV RX2 67 RX2 yX2_length wsX2_length) := goodIn_app (goodIn_of _ (by decide +kernel)) ggX2_sound_X2_length
theorem dX2_sound_0 : decode cX2_sound 0 = .ok (.iconst 1, 1) := by decide +kernel
theorem dX2_sound_1 : decode cX2_sound 1 = .ok (.istore_n 1, 1) := by decide +kernel
theorem dX2_sound_2 : decode cX2_sound 2 = .ok (.iconst 0, 1) := by decide +kernel
theorem dX2_sound_3 : decode cX2_sound 3 = .ok (.istore_n 2, 1) := by decide +kernel
theorem dX2_sound_4 : decode cX2_sound 4 = .ok (.iconst 1, 1) := by decide +kernel
theorem dX2_sound_5 : decode cX2_sound 5 = .ok (.istore_n 3, 1) := by decide +kernel
theorem dX2_sound_6 : decode cX2_sound 6 = .ok (.iload_n 3, 1) := by decide +kernel
theorem dX2_sound_7 : decode cX2_sound 7 = .ok (.aload_n 0, 1) := by decide +kernel
theorem dX2_sound_8 : decode cX2_sound 8 = .ok (.getfield 7, 3) := by decide +kernel
theorem dX2_sound_11 : decode cX2_sound 11 = .ok (.if_icmp .ge 83, 3) := by decide +kernel
theorem dX2_sound_14 : decode cX2_sound 14 = .ok (.iload_n 1, 1) := by decide +kernel
theorem dX2_sound_15 : decode cX2_sound 15 = .ok (.ifCond .eq 16, 3) := by decide +kernel
theorem dX2_sound_18 : decode cX2_sound 18 = .ok (.aload_n 0, 1) := by decide +kernel
theorem dX2_sound_19 : decode cX2_sound 19 = .ok (.getfield 20, 3) := by decide +kernel
theorem dX2_sound_22 : decode cX2_sound 22 = .ok (.iload_n 3, 1) := by decide +kernel
theorem dX2_sound_23 : decode cX2_sound 23 = .ok (.baload, 1) := by decide +kernel
theorem dX2_sound_24 : decode cX2_sound 24 = .ok (.ifCond .eq 7, 3) := by decide +kernel
theorem dX2_sound_27 : decode cX2_sound 27 = .ok (.iconst 1, 1) := by decide +kernel
theorem dX2_sound_28 : decode cX2_sound 28 = .ok (.goto 4, 3) := by decide +kernel
theorem dX2_sound_31 : decode cX2_sound 31 = .ok (.iconst 0, 1) := by decide +kernel
theorem dX2_sound_32 : decode cX2_sound 32 = .ok (.istore_n 1, 1) := by decide +kernel
theorem dX2_sound_33 : decode cX2_sound 33 = .ok (.iinc 2 1, 3) := by decide +kernel
theorem dX2_sound_36 : decode cX2_sound 36 = .ok (.iconst 0, 1) := by decide +kernel
theorem dX2_sound_37 : decode cX2_sound 37 = .ok (.istore 4, 2) := by decide +kernel
theorem dX2_sound_39 : decode cX2_sound 39 = .ok (.iload 4, 2) := by decide +kernel
theorem dX2_sound_41 : decode cX2_sound 41 = .ok (.aload_n 0, 1) := by decide +kernel
theorem dX2_sound_42 : decode cX2_sound 42 = .ok (.iload_n 3, 1) := by decide +kernel
theorem dX2_sound_43 : decode cX2_sound 43 = .ok (.invokevirtual 45, 3) := by decide +kernel
theorem dX2_sound_46 : decode cX2_sound 46 = .ok (.if_icmp .ge 37, 3) := by decide +kernel
theorem dX2_sound_49 : decode cX2_sound 49 = .ok (.iload_n 1, 1) := by decide +kernel
theorem dX2_sound_50 : decode cX2_sound 50 = .ok (.ifCond .eq 25, 3) := by decide +kernel
theorem dX2_sound_53 : decode cX2_sound 53 = .ok (.aload_n 0, 1) := by decide +kernel
theorem dX2_sound_54 : decode cX2_sound 54 = .ok (.aload_n 0, 1) := by decide +kernel
theorem dX2_sound_55 : decode cX2_sound 55 = .ok (.getfield 13, 3) := by decide +kernel
theorem dX2_sound_58 : decode cX2_sound 58 = .ok (.iload_n 3, 1) := by decide +kernel
theorem dX2_sound_59 : decode cX2_sound 59 = .ok (.iconst 1, 1) := by decide +kernel
theorem dX2_sound_60 : decode cX2_sound 60 = .ok (.iadd, 1) := by decide +kernel
theorem dX2_sound_61 : decode cX2_sound 61 = .ok (.iload 4, 2) := by decide +kernel
theorem dX2_sound_63 : decode cX2_sound 63 = .ok (.iadd, 1) := by decide +kernel
theorem dX2_sound_64 : decode cX2_sound 64 = .ok (.iaload, 1) := by decide +kernel
theorem dX2_sound_65 : decode cX2_sound 65 = .ok (.invokevirtual 63, 3) := by decide +kernel
theorem dX2_sound_68 : decode cX2_sound 68 = .ok (.ifCond .eq 7, 3) := by decide +kernel
theorem dX2_sound_71 : decode cX2_sound 71 = .ok (.iconst 1, 1) := by decide +kernel
theorem dX2_sound_72 : decode cX2_sound 72 = .ok (.goto 4, 3) := by decide +kernel
theorem dX2_sound_75 : decode cX2_sound 75 = .ok (.iconst 0, 1) := by decide +kernel
theorem dX2_sound_76 : decode cX2_sound 76 = .ok (.istore_n 1, 1) := by decide +kernel
theorem dX2_sound_77 : decode cX2_sound 77 = .ok (.iinc 4 1, 3) := by decide +kernel
theorem dX2_sound_80 : decode cX2_sound 80 = .ok (.goto (-41), 3) := by decide +kernel
theorem dX2_sound_83 : decode cX2_sound 83 = .ok (.iload_n 3, 1) := by decide +kernel
theorem dX2_sound_84 : decode cX2_sound 84 = .ok (.aload_n 0, 1) := by decide +kernel
theorem dX2_sound_85 : decode cX2_sound 85 = .ok (.iload_n 3, 1) := by decide +kernel
theorem dX2_sound_86 : decode cX2_sound 86 = .ok (.invokevirtual 67, 3) := by decide +kernel
theorem dX2_sound_89 : decode cX2_sound 89 = .ok (.iadd, 1) := by decide +kernel
theorem dX2_sound_90 : decode cX2_sound 90 = .ok (.istore_n 3, 1) := by decide +kernel
theorem dX2_sound_91 : decode cX2_sound 91 = .ok (.goto (-85), 3) := by decide +kernel
theorem dX2_sound_94 : decode cX2_sound 94 = .ok (.iconst 0, 1) := by decide +kernel
theorem dX2_sound_95 : decode cX2_sound 95 = .ok (.istore_n 3, 1) := by decide +kernel
theorem dX2_sound_96 : decode cX2_sound 96 = .ok (.iload_n 3, 1) := by decide +kernel
theorem dX2_sound_97 : decode cX2_sound 97 = .ok (.bipush 8, 2) := by decide +kernel
theorem dX2_sound_99 : decode cX2_sound 99 = .ok (.if_icmp .ge 32, 3) := by decide +kernel
theorem dX2_sound_102 : decode cX2_sound 102 = .ok (.iload_n 1, 1) := by decide +kernel
theorem dX2_sound_103 : decode cX2_sound 103 = .ok (.ifCond .eq 20, 3) := by decide +kernel
theorem dX2_sound_106 : decode cX2_sound 106 = .ok (.aload_n 0, 1) := by decide +kernel
theorem dX2_sound_107 : decode cX2_sound 107 = .ok (.aload_n 0, 1) := by decide +kernel
theorem dX2_sound_108 : decode cX2_sound 108 = .ok (.getfield 27, 3) := by decide +kernel
theorem dX2_sound_111 : decode cX2_sound 111 = .ok (.iload_n 3, 1) := by decide +kernel
theorem dX2_sound_112 : decode cX2_sound 112 = .ok (.iaload, 1) := by decide +kernel
theorem dX2_sound_113 : decode cX2_sound 113 = .ok (.invokevirtual 63, 3) := by decide +kernel
theorem dX2_sound_116 : decode cX2_sound 116 = .ok (.ifCond .eq 7, 3) := by decide +kernel
theorem dX2_sound_119 : decode cX2_sound 119 = .ok (.iconst 1, 1) := by decide +kernel
theorem dX2_sound_120 : decode cX2_sound 120 = .ok (.goto 4, 3) := by decide +kernel
theorem dX2_sound_123 : decode cX2_sound 123 = .ok (.iconst 0, 1) := by decide +kernel
theorem dX2_sound_124 : decode cX2_sound 124 = .ok (.istore_n 1, 1) := by decide +kernel
theorem dX2_sound_125 : decode cX2_sound 125 = .ok (.iinc 3 1, 3) := by decide +kernel
theorem dX2_sound_128 : decode cX2_sound 128 = .ok (.goto (-32), 3) := by decide +kernel
theorem dX2_sound_131 : decode cX2_sound 131 = .ok (.iload_n 1, 1) := by decide +kernel
theorem dX2_sound_132 : decode cX2_sound 132 = .ok (.ifCond .eq 15, 3) := by decide +kernel
theorem dX2_sound_135 : decode cX2_sound 135 = .ok (.iload_n 2, 1) := by decide +kernel
theorem dX2_sound_136 : decode cX2_sound 136 = .ok (.aload_n 0, 1) := by decide +kernel
theorem dX2_sound_137 : decode cX2_sound 137 = .ok (.getfield 56, 3) := by decide +kernel
theorem dX2_sound_140 : decode cX2_sound 140 = .ok (.if_icmp .ne 7, 3) := by decide +kernel
theorem dX2_sound_143 : decode cX2_sound 143 = .ok (.iconst 1, 1) := by decide +kernel
theorem dX2_sound_144 : decode cX2_sound 144 = .ok (.goto 4, 3) := by decide +kernel
theorem dX2_sound_147 : decode cX2_sound 147 = .ok (.iconst 0, 1) := by decide +kernel
theorem dX2_sound_148 : decode cX2_sound 148 = .ok (.ireturn, 1) := by decide +kernel
set_option maxRecDepth 20000 in
theorem ggX2_count_X2_blocks : GoodIn wsX2_count wsX2_blocks := goodIn_r _ [9, 4, 10, 11, 12, 13, 14, 15, 16, 17, 18, 19, 20, 21, 22, 23, 24] (by decide +kernel) (by decide +kernel)
set_option maxRecDepth 20000 in
theorem gX2_count_X2_blocks : GoodIn wsX2_count (wsV RX2 82 RX2 yX2_blocks wsX2_blocks) := goodIn_app (goodIn_of _ (by decide +kernel)) ggX2_count_X2_blocks
theorem dX2_count_0 : decode cX2_count 0 = .ok (.iload_n 1, 1) := by decide +kernel
theorem dX2_count_1 : decode cX2_count 1 = .ok (.tableswitch 60 0 4 #[35, 40, 45, 50, 55], 35) := by decide +kernel
theorem dX2_count_36 : decode cX2_count 36 = .ok (.aload_n 0, 1) := by decide +kernel
theorem dX2_count_37 : decode cX2_count 37 = .ok (.getfield 7, 3) := by decide +kernel
theorem dX2_count_40 : decode cX2_count 40 = .ok (.ireturn, 1) := by decide +kernel
theorem dX2_count_41 : decode cX2_count 41 = .ok (.aload_n 0, 1) := by decide +kernel
theorem dX2_count_42 : decode cX2_count 42 = .ok (.getfield 56, 3) := by decide +kernel
theorem dX2_count_45 : decode cX2_count 45 = .ok (.ireturn, 1) := by decide +kernel
theorem dX2_count_46 : decode cX2_count 46 = .ok (.aload_n 0, 1) := by decide +kernel
theorem dX2_count_47 : decode cX2_count 47 = .ok (.getfield 76, 3) := by decide +kernel
theorem dX2_count_50 : decode cX2_count 50 = .ok (.ireturn, 1) := by decide +kernel
theorem dX2_count_51 : decode cX2_count 51 = .ok (.aload_n 0, 1) := by decide +kernel
theorem dX2_count_52 : decode cX2_count 52 = .ok (.getfield 36, 3) := by decide +kernel
theorem dX2_count_55 : decode cX2_count 55 = .ok (.ireturn, 1) := by decide +kernel
theorem dX2_count_56 : decode cX2_count 56 = .ok (.aload_n 0, 1) := by decide +kernel
theorem dX2_count_57 : decode cX2_count 57 = .ok (.invokevirtual 82, 3) := by decide +kernel
theorem dX2_count_60 : decode cX2_count 60 = .ok (.ireturn, 1) := by decide +kernel
theorem dX2_count_61 : decode cX2_count 61 = .ok (.iconst (-1), 1) := by decide +kernel
theorem dX2_count_62 : decode cX2_count 62 = .ok (.ireturn, 1) := by decide +kernel
theorem dJ13_bitCount_95d88_0 : decode cJ13_bitCount_95d88 0 = .ok (.lload_n 0, 1) := by decide +kernel
theorem dJ13_bitCount_95d88_1 : decode cJ13_bitCount_95d88 1 = .ok (.lload_n 0, 1) := by decide +kernel
theorem dJ13_bitCount_95d88_2 : decode cJ13_bitCount_95d88 2 = .ok (.iconst 1, 1) := by decide +kernel
theorem dJ13_bitCount_95d88_3 : decode cJ13_bitCount_95d88 3 = .ok (.lushr, 1) := by decide +kernel
theorem dJ13_bitCount_95d88_4 : decode cJ13_bitCount_95d88 4 = .ok (.ldc2_w 314, 3) := by decide +kernel
theorem dJ13_bitCount_95d88_7 : decode cJ13_bitCount_95d88 7 = .ok (.land, 1) := by decide +kernel
theorem dJ13_bitCount_95d88_8 : decode cJ13_bitCount_95d88 8 = .ok (.lsub, 1) := by decide +kernel
theorem dJ13_bitCount_95d88_9 : decode cJ13_bitCount_95d88 9 = .ok (.lstore_n 0, 1) := by decide +kernel
theorem dJ13_bitCount_95d88_10 : decode cJ13_bitCount_95d88 10 = .ok (.lload_n 0, 1) := by decide +kernel
theorem dJ13_bitCount_95d88_11 : decode cJ13_bitCount_95d88 11 = .ok (.ldc2_w 316, 3) := by decide +kernel
theorem dJ13_bitCount_95d88_14 : decode cJ13_bitCount_95d88 14 = .ok (.land, 1) := by decide +kernel
theorem dJ13_bitCount_95d88_15 : decode cJ13_bitCount_95d88 15 = .ok (.lload_n 0, 1) := by decide +kernel
theorem dJ13_bitCount_95d88_16 : decode cJ13_bitCount_95d88 16 = .ok (.iconst 2, 1) := by decide +kernel
theorem dJ13_bitCount_95d88_17 : decode cJ13_bitCount_95d88 17 = .ok (.lushr, 1) := by decide +kernel
theorem dJ13_bitCount_95d88_18 : decode cJ13_bitCount_95d88 18 = .ok (.ldc2_w 316, 3) := by decide +kernel
theorem dJ13_bitCount_95d88_21 : decode cJ13_bitCount_95d88 21 = .ok (.land, 1) := by decide +kernel
theorem dJ13_bitCount_95d88_22 : decode cJ13_bitCount_95d88 22 = .ok (.ladd, 1) := by decide +kernel
theorem dJ13_bitCount_95d88_23 : decode cJ13_bitCount_95d88 23 = .ok (.lstore_n 0, 1) := by decide +kernel
theorem dJ13_bitCount_95d88_24 : decode cJ13_bitCount_95d88 24 = .ok (.lload_n 0, 1) := by decide +kernel
theorem dJ13_bitCount_95d88_25 : decode cJ13_bitCount_95d88 25 = .ok (.lload_n 0, 1) := by decide +kernel
theorem dJ13_bitCount_95d88_26 : decode cJ13_bitCount_95d88 26 = .ok (.iconst 4, 1) := by decide +kernel
theorem dJ13_bitCount_95d88_27 : decode cJ13_bitCount_95d88 27 = .ok (.lushr, 1) := by decide +kernel
theorem dJ13_bitCount_95d88_28 : decode cJ13_bitCount_95d88 28 = .ok (.ladd, 1) := by decide +kernel
theorem dJ13_bitCount_95d88_29 : decode cJ13_bitCount_95d88 29 = .ok (.ldc2_w 318, 3) := by decide +kernel
theorem dJ13_bitCount_95d88_32 : decode cJ13_bitCount_95d88 32 = .ok (.land, 1) := by decide +kernel
theorem dJ13_bitCount_95d88_33 : decode cJ13_bitCount_95d88 33 = .ok (.lstore_n 0, 1) := by decide +kernel
theorem dJ13_bitCount_95d88_34 : decode cJ13_bitCount_95d88 34 = .ok (.lload_n 0, 1) := by decide +kernel
theorem dJ13_bitCount_95d88_35 : decode cJ13_bitCount_95d88 35 = .ok (.lload_n 0, 1) := by decide +kernel
theorem dJ13_bitCount_95d88_36 : decode cJ13_bitCount_95d88 36 = .ok (.bipush 8, 2) := by decide +kernel
theorem dJ13_bitCount_95d88_38 : decode cJ13_bitCount_95d88 38 = .ok (.lushr, 1) := by decide +kernel
theorem dJ13_bitCount_95d88_39 : decode cJ13_bitCount_95d88 39 = .ok (.ladd, 1) := by decide +kernel
theorem dJ13_bitCount_95d88_40 : decode cJ13_bitCount_95d88 40 = .ok (.lstore_n 0, 1) := by decide +kernel
theorem dJ13_bitCount_95d88_41 : decode cJ13_bitCount_95d88 41 = .ok (.lload_n 0, 1) := by decide +kernel
theorem dJ13_bitCount_95d88_42 : decode cJ13_bitCount_95d88 42 = .ok (.lload_n 0, 1) := by decide +kernel
theorem dJ13_bitCount_95d88_43 : decode cJ13_bitCount_95d88 43 = .ok (.bipush 16, 2) := by decide +kernel
theorem dJ13_bitCount_95d88_45 : decode cJ13_bitCount_95d88 45 = .ok (.lushr, 1) := by decide +kernel
theorem dJ13_bitCount_95d88_46 : decode cJ13_bitCount_95d88 46 = .ok (.ladd, 1) := by decide +kernel
theorem dJ13_bitCount_95d88_47 : decode cJ13_bitCount_95d88 47 = .ok (.lstore_n 0, 1) := by decide +kernel
theorem dJ13_bitCount_95d88_48 : decode cJ13_bitCount_95d88 48 = .ok (.lload_n 0, 1) := by decide +kernel
theorem dJ13_bitCount_95d88_49 : decode cJ13_bitCount_95d88 49 = .ok (.lload_n 0, 1) := by decide +kernel
theorem dJ13_bitCount_95d88_50 : decode cJ13_bitCount_95d88 50 = .ok (.bipush 32, 2) := by decide +kernel
theorem dJ13_bitCount_95d88_52 : decode cJ13_bitCount_95d88 52 = .ok (.lushr, 1) := by decide +kernel
theorem dJ13_bitCount_95d88_53 : decode cJ13_bitCount_95d88 53 = .ok (.ladd, 1) := by decide +kernel
theorem dJ13_bitCount_95d88_54 : decode cJ13_bitCount_95d88 54 = .ok (.lstore_n 0, 1) := by decide +kernel
theorem dJ13_bitCount_95d88_55 : decode cJ13_bitCount_95d88 55 = .ok (.lload_n 0, 1) := by decide +kernel
theorem dJ13_bitCount_95d88_56 : decode cJ13_bitCount_95d88 56 = .ok (.l2i, 1) := by decide +kernel
theorem dJ13_bitCount_95d88_57 : decode cJ13_bitCount_95d88 57 = .ok (.bipush 127, 2) := by decide +kernel
theorem dJ13_bitCount_95d88_59 : decode cJ13_bitCount_95d88 59 = .ok (.iand, 1) := by decide +kernel
theorem dJ13_bitCount_95d88_60 : decode cJ13_bitCount_95d88 60 = .ok (.ireturn, 1) := by decide +kernel
theorem dJ9_max_7cf53_0 : decode cJ9_max_7cf53 0 = .ok (.iload_n 0, 1) := by decide +kernel
theorem dJ9_max_7cf53_1 : decode cJ9_max_7cf53 1 = .ok (.iload_n 1, 1) := by decide +kernel
theorem dJ9_max_7cf53_2 : decode cJ9_max_7cf53 2 = .ok (.if_icmp .lt 7, 3) := by decide +kernel
theorem dJ9_max_7cf53_5 : decode cJ9_max_7cf53 5 = .ok (.iload_n 0, 1) := by decide +kernel
theorem dJ9_max_7cf53_6 : decode cJ9_max_7cf53 6 = .ok (.goto 4, 3) := by decide +kernel
theorem dJ9_max_7cf53_9 : decode cJ9_max_7cf53 9 = .ok (.iload_n 1, 1) := by decide +kernel
theorem dJ9_max_7cf53_10 : decode cJ9_max_7cf53 10 = .ok (.ireturn, 1) := by decide +kernel
theorem dJ9_min_7cf53_0 : decode cJ9_min_7cf53 0 = .ok (.iload_n 0, 1) := by decide +kernel
theorem dJ9_min_7cf53_1 : decode cJ9_min_7cf53 1 = .ok (.iload_n 1, 1) := by decide +kernel
theorem dJ9_min_7cf53_2 : decode cJ9_min_7cf53 2 = .ok (.if_icmp .gt 7, 3) := by decide +kernel
theorem dJ9_min_7cf53_5 : decode cJ9_min_7cf53 5 = .ok (.iload_n 0, 1) := by decide +kernel
theorem dJ9_min_7cf53_6 : decode cJ9_min_7cf53 6 = .ok (.goto 4, 3) := by decide +kernel
theorem dJ9_min_7cf53_9 : decode cJ9_min_7cf53 9 = .ok (.iload_n 1, 1) := by decide +kernel
theorem dJ9_min_7cf53_10 : decode cJ9_min_7cf53 10 = .ok (.ireturn, 1) := by decide +kernel
theorem dJ7_fill_d0a16_0 : decode cJ7_fill_d0a16 0 = .ok (.iconst 0, 1) := by decide +kernel
theorem dJ7_fill_d0a16_1 : decode cJ7_fill_d0a16 1 = .ok (.istore_n 3, 1) := by decide +kernel
theorem dJ7_fill_d0a16_2 : decode cJ7_fill_d0a16 2 = .ok (.aload_n 0, 1) := by decide +kernel
theorem dJ7_fill_d0a16_3 : decode cJ7_fill_d0a16 3 = .ok (.arraylength, 1) := by decide +kernel
theorem dJ7_fill_d0a16_4 : decode cJ7_fill_d0a16 4 = .ok (.istore 4, 2) := by decide +kernel
theorem dJ7_fill_d0a16_6 : decode cJ7_fill_d0a16 6 = .ok (.iload_n 3, 1) := by decide +kernel
theorem dJ7_fill_d0a16_7 : decode cJ7_fill_d0a16 7 = .ok (.iload 4, 2) := by decide +kernel
theorem dJ7_fill_d0a16_9 : decode cJ7_fill_d0a16 9 = .ok (.if_icmp .ge 13, 3) := by decide +kernel
theorem dJ7_fill_d0a16_12 : decode cJ7_fill_d0a16 12 = .ok (.aload_n 0, 1) := by decide +kernel
theorem dJ7_fill_d0a16_13 : decode cJ7_fill_d0a16 13 = .ok (.iload_n 3, 1) := by decide +kernel
theorem dJ7_fill_d0a16_14 : decode cJ7_fill_d0a16 14 = .ok (.lload_n 1, 1) := by decide +kernel
theorem dJ7_fill_d0a16_15 : decode cJ7_fill_d0a16 15 = .ok (.lastore, 1) := by decide +kernel
theorem dJ7_fill_d0a16_16 : decode cJ7_fill_d0a16 16 = .ok (.iinc 3 1, 3) := by decide +kernel
theorem dJ7_fill_d0a16_19 : decode cJ7_fill_d0a16 19 = .ok (.goto (-13), 3) := by decide +kernel
theorem dJ7_fill_d0a16_22 : decode cJ7_fill_d0a16 22 = .ok (.return_, 1) := by decide +kernel
theorem dJ7_fill_53178_0 : decode cJ7_fill_53178 0 = .ok (.iconst 0, 1) := by decide +kernel
theorem dJ7_fill_53178_1 : decode cJ7_fill_53178 1 = .ok (.istore_n 2, 1) := by decide +kernel
theorem dJ7_fill_53178_2 : decode cJ7_fill_53178 2 = .ok (.aload_n 0, 1) := by decide +kernel
theorem dJ7_fill_53178_3 : decode cJ7_fill_53178 3 = .ok (.arraylength, 1) := by decide +kernel
theorem dJ7_fill_53178_4 : decode cJ7_fill_53178 4 = .ok (.istore_n 3, 1) := by decide +kernel
theorem dJ7_fill_53178_5 : decode cJ7_fill_53178 5 = .ok (.iload_n 2, 1) := by decide +kernel
theorem dJ7_fill_53178_6 : decode cJ7_fill_53178 6 = .ok (.iload_n 3, 1) := by decide +kernel
theorem dJ7_fill_53178_7 : decode cJ7_fill_53178 7 = .ok (.if_icmp .ge 13, 3) := by decide +kernel
theorem dJ7_fill_53178_10 : decode cJ7_fill_53178 10 = .ok (.aload_n 0, 1) := by decide +kernel
theorem dJ7_fill_53178_11 : decode cJ7_fill_53178 11 = .ok (.iload_n 2, 1) := by decide +kernel
theorem dJ7_fill_53178_12 : decode cJ7_fill_53178 12 = .ok (.iload_n 1, 1) := by decide +kernel
theorem dJ7_fill_53178_13 : decode cJ7_fill_53178 13 = .ok (.iastore, 1) := by decide +kernel
theorem dJ7_fill_53178_14 : decode cJ7_fill_53178 14 = .ok (.iinc 2 1, 3) := by decide +kernel
theorem dJ7_fill_53178_17 : decode cJ7_fill_53178 17 = .ok (.goto (-12), 3) := by decide +kernel
theorem dJ7_fill_53178_20 : decode cJ7_fill_53178 20 = .ok (.return_, 1) := by decide +kernel
theorem dL_cell_0 : decode cL_cell 0 = .ok (.iload_n 1, 1) := by decide +kernel
theorem dL_cell_1 : decode cL_cell 1 = .ok (.aload_n 0, 1) := by decide +kernel
theorem dL_cell_2 : decode cL_cell 2 = .ok (.arraylength, 1) := by decide +kernel
theorem dL_cell_3 : decode cL_cell 3 = .ok (.if_icmp .ge 9, 3) := by decide +kernel
theorem dL_cell_6 : decode cL_cell 6 = .ok (.aload_n 0, 1) := by decide +kernel
theorem dL_cell_7 : decode cL_cell 7 = .ok (.iload_n 1, 1) := by decide +kernel
theorem dL_cell_8 : decode cL_cell 8 = .ok (.iaload, 1) := by decide +kernel
theorem dL_cell_9 : decode cL_cell 9 = .ok (.goto 4, 3) := by decide +kernel
theorem dL_cell_12 : decode cL_cell 12 = .ok (.iconst 0, 1) := by decide +kernel
theorem dL_cell_13 : decode cL_cell 13 = .ok (.ireturn, 1) := by decide +kernel
set_option maxRecDepth 20000 in
theorem ggL_law_L_cell : GoodIn wsL_law wsL_cell := goodIn_r _ [9] (by decide +kernel) (by decide +kernel)
set_option maxRecDepth 20000 in
theorem gL_law_L_cell : GoodIn wsL_law (va_wsS RL 9 yL_cell wsL_cell) := goodIn_app (goodIn_of _ (by decide +kernel)) ggL_law_L_cell
set_option maxRecDepth 20000 in
theorem ggL_law_X1_init : GoodIn wsL_law wsX1_init := goodIn_r _ [12, 13, 14, 15, 16, 17, 18, 19, 20, 21, 22, 23, 24, 25, 26, 27, 28, 29, 30, 31, 32, 33, 34, 35, 36, 37, 38, 39, 40, 41, 2, 42, 43, 44, 45, 46, 47, 48, 338, 339, 340, 341, 342, 343, 344, 345, 346, 347, 348, 349, 350, 351, 352, 353, 368] (by decide +kernel) (by decide +kernel)
set_option maxRecDepth 20000 in
theorem gL_law_X1_init : GoodIn wsL_law (wsX1_init) := ggL_law_X1_init
set_option maxRecDepth 20000 in
theorem ggL_law_X2_init : GoodIn wsL_law wsX2_init := goodIn_r _ [51, 52, 14, 15, 53, 26, 54, 55, 56, 57, 58, 59, 60, 61, 62, 63, 354, 355, 356, 357, 358, 359, 360, 361, 362, 363, 364, 365, 366, 367] (by decide +kernel) (by decide +kernel)
set_option maxRecDepth 20000 in
theorem gL_law_X2_init : GoodIn wsL_law (wsX2_init) := ggL_law_X2_init
set_option maxRecDepth 20000 in
theorem ggL_law_X1_make : GoodIn wsL_law wsX1_make := goodIn_r _ [67, 23, 39, 35, 37, 68, 69, 70, 2, 71, 72, 73, 74, 75, 76, 77, 78, 79, 80, 81, 82, 83, 30, 84, 48, 338, 339, 340, 341, 342, 343, 344, 345, 346, 347, 348, 349, 350, 351, 352, 353, 368] (by decide +kernel) (by decide +kernel)
set_option maxRecDepth 20000 in
theorem gL_law_X1_make : GoodIn wsL_law (wsV RL 21 RX1 yX1_make wsX1_make) := goodIn_app (goodIn_of _ (by decide +kernel)) ggL_law_X1_make
set_option maxRecDepth 20000 in
theorem ggL_law_X2_make : GoodIn wsL_law wsX2_make := goodIn_r _ [88, 53, 62, 54, 57, 89, 90, 91, 5, 92, 354, 355, 356, 357, 358, 359, 360, 361, 362, 363, 364, 365, 366, 367] (by decide +kernel) (by decide +kernel)
set_option maxRecDepth 20000 in
theorem gL_law_X2_make : GoodIn wsL_law (wsV RL 25 RX2 yX2_make wsX2_make) := goodIn_app (goodIn_of _ (by decide +kernel)) ggL_law_X2_make
set_option maxRecDepth 20000 in
theorem ggL_law_X1_refer : GoodIn wsL_law wsX1_refer := goodIn_r _ [96, 35, 97, 98, 99, 2, 100, 39, 37, 101, 102, 103, 30, 104, 48, 75, 76, 77, 105, 106, 107, 108, 338, 339, 340, 341, 342, 343, 344, 345, 346, 347, 348, 349, 350, 351, 352, 353, 368] (by decide +kernel) (by decide +kernel)
set_option maxRecDepth 20000 in
theorem gL_law_X1_refer : GoodIn wsL_law (wsV RL 26 RX1 yX1_refer wsX1_refer) := goodIn_app (goodIn_of _ (by decide +kernel)) ggL_law_X1_refer
set_option maxRecDepth 20000 in
theorem ggL_law_X2_refer : GoodIn wsL_law wsX2_refer := goodIn_r _ [112, 54, 113, 114, 115, 5, 116, 62, 57, 90, 91, 92, 117, 118, 119, 120, 121, 122, 123, 124, 354, 355, 356, 357, 358, 359, 360, 361, 362, 363, 364, 365, 366, 367] (by decide +kernel) (by decide +kernel)
set_option maxRecDepth 20000 in
theorem gL_law_X2_refer : GoodIn wsL_law (wsV RL 30 RX2 yX2_refer wsX2_refer) := goodIn_app (goodIn_of _ (by decide +kernel)) ggL_law_X2_refer
set_option maxRecDepth 20000 in
theorem ggL_law_X1_set : GoodIn wsL_law wsX1_set := goodIn_r _ [128, 35, 97, 98, 99, 2, 100, 39, 37, 101, 102, 103, 30, 104, 48, 78, 79, 80, 75, 76, 77, 338, 339, 340, 341, 342, 343, 344, 345, 346, 347, 348, 349, 350, 351, 352, 353, 368] (by decide +kernel) (by decide +kernel)
set_option maxRecDepth 20000 in
theorem gL_law_X1_set : GoodIn wsL_law (wsV RL 31 RX1 yX1_set wsX1_set) := goodIn_app (goodIn_of _ (by decide +kernel)) ggL_law_X1_set
set_option maxRecDepth 20000 in
theorem ggL_law_X2_set : GoodIn wsL_law wsX2_set := goodIn_r _ [132, 54, 113, 114, 115, 5, 116, 62, 57, 90, 91, 92, 133, 134, 135, 136, 121, 122, 123, 124, 354, 355, 356, 357, 358, 359, 360, 361, 362, 363, 364, 365, 366, 367] (by decide +kernel) (by decide +kernel)
set_option maxRecDepth 20000 in
theorem gL_law_X2_set : GoodIn wsL_law (wsV RL 34 RX2 yX2_set wsX2_set) := goodIn_app (goodIn_of _ (by decide +kernel)) ggL_law_X2_set
set_option maxRecDepth 20000 in
theorem ggL_law_X1_root : GoodIn wsL_law wsX1_root := goodIn_r _ [140, 27, 141, 142, 2, 143, 105, 106, 107, 108, 97, 98, 99, 100, 39, 37, 101, 102, 103, 30, 104, 48, 338, 339, 340, 341, 342, 343, 344, 345, 346, 347, 348, 349, 350, 351, 352, 353, 368] (by decide +kernel) (by decide +kernel)
set_option maxRecDepth 20000 in
theorem gL_law_X1_root : GoodIn wsL_law (wsV RL 35 RX1 yX1_root wsX1_root) := goodIn_app (goodIn_of _ (by decide +kernel)) ggL_law_X1_root
set_option maxRecDepth 20000 in
theorem ggL_law_X2_root : GoodIn wsL_law wsX2_root := goodIn_r _ [147, 59, 90, 91, 5, 92, 117, 118, 119, 120, 113, 114, 115, 116, 62, 57, 354, 355, 356, 357, 358, 359, 360, 361, 362, 363, 364, 365, 366, 367] (by decide +kernel) (by decide +kernel)
set_option maxRecDepth 20000 in
theorem gL_law_X2_root : GoodIn wsL_law (wsV RL 39 RX2 yX2_root wsX2_root) := goodIn_app (goodIn_of _ (by decide +kernel)) ggL_law_X2_root
set_option maxRecDepth 20000 in
theorem ggL_law_X1_collect : GoodIn wsL_law wsX1_collect := goodIn_r _ [151, 39, 152, 153, 154, 155, 2, 156, 23, 31, 33, 35, 157, 158, 159, 160, 34, 27, 161, 162, 163, 30, 164, 48, 165, 166, 167, 168, 169, 170, 171, 172, 101, 102, 103, 104, 81, 82, 83, 84, 173, 174, 175, 176, 75, 76, 77, 72, 73, 74, 78, 79, 80, 177, 178, 179, 180, 24, 32, 181, 182, 183, 184, 36, 38, 185, 68, 186, 187, 188, 189, 190, 191, 192, 193, 194, 195, 196, 197, 198, 199, 200, 201, 202, 203, 204, 205, 206, 207, 208, 209, 210, 211, 212, 213, 214, 215, 216, 37, 338, 339, 340, 341, 342, 343, 344, 345, 346, 347, 348, 349, 350, 351, 352, 353, 368] (by decide +kernel) (by decide +kernel)
set_option maxRecDepth 20000 in
theorem gL_law_X1_collect : GoodIn wsL_law (wsV RL 40 RX1 yX1_collect wsX1_collect) := goodIn_app (goodIn_of _ (by decide +kernel)) ggL_law_X1_collect
set_option maxRecDepth 20000 in
theorem ggL_law_X2_collect : GoodIn wsL_law wsX2_collect := goodIn_r _ [220, 62, 60, 58, 53, 61, 221, 55, 89, 54, 57, 59, 222, 223, 224, 225, 226, 5, 227, 121, 122, 123, 124, 228, 229, 230, 231, 133, 134, 135, 136, 354, 355, 356, 357, 358, 359, 360, 361, 362, 363, 364, 365, 366, 367] (by decide +kernel) (by decide +kernel)
set_option maxRecDepth 20000 in
theorem gL_law_X2_collect : GoodIn wsL_law (wsV RL 44 RX2 yX2_collect wsX2_collect) := goodIn_app (goodIn_of _ (by decide +kernel)) ggL_law_X2_collect
set_option maxRecDepth 20000 in
theorem ggL_law_X1_word : GoodIn wsL_law wsX1_word := goodIn_r _ [235, 35, 236, 237, 238, 2, 239, 23, 338, 339, 340, 341, 342, 343, 344, 345, 346, 347, 348, 349, 350, 351, 352, 353] (by decide +kernel) (by decide +kernel)
set_option maxRecDepth 20000 in
theorem gL_law_X1_word : GoodIn wsL_law (wsV RL 45 RX1 yX1_word wsX1_word) := goodIn_app (goodIn_of _ (by decide +kernel)) ggL_law_X1_word
set_option maxRecDepth 20000 in
theorem ggL_law_X2_word : GoodIn wsL_law wsX2_word := goodIn_r _ [243, 54, 244, 245, 246, 5, 247, 62, 90, 91, 92, 354, 355, 356, 357, 358, 359, 360, 361, 362, 363, 364, 365, 366, 367] (by decide +kernel) (by decide +kernel)
set_option maxRecDepth 20000 in
theorem gL_law_X2_word : GoodIn wsL_law (wsV RL 49 RX2 yX2_word wsX2_word) := goodIn_app (goodIn_of _ (by decide +kernel)) ggL_law_X2_word
set_option maxRecDepth 20000 in
theorem ggL_law_X1_isObject : GoodIn wsL_law wsX1_isObject := goodIn_r _ [100, 39, 37, 101, 102, 103, 30, 104, 48, 338, 339, 340, 341, 342, 343, 344, 345, 346, 347, 348, 349, 350, 351, 352, 353, 368] (by decide +kernel) (by decide +kernel)
set_option maxRecDepth 20000 in
theorem gL_law_X1_isObject : GoodIn wsL_law (wsV RL 50 RX1 yX1_isObject wsX1_isObject) := goodIn_app (goodIn_of _ (by decide +kernel)) ggL_law_X1_isObject
set_option maxRecDepth 20000 in
theorem ggL_law_X2_isObject : GoodIn wsL_law wsX2_isObject := goodIn_r _ [116, 62, 57, 90, 91, 5, 92, 354, 355, 356, 357, 358, 359, 360, 361, 362, 363, 364, 365, 366, 367] (by decide +kernel) (by decide +kernel)
set_option maxRecDepth 20000 in
theorem gL_law_X2_isObject : GoodIn wsL_law (wsV RL 54 RX2 yX2_isObject wsX2_isObject) := goodIn_app (goodIn_of _ (by decide +kernel)) ggL_law_X2_isObject
set_option maxRecDepth 20000 in
theorem ggL_law_X1_rootOf : GoodIn wsL_law wsX1_rootOf := goodIn_r _ [253, 27, 141, 142, 2, 143, 338, 339, 340, 341, 342, 343, 344, 345, 346, 347, 348, 349, 350, 351, 352, 353] (by decide +kernel) (by decide +kernel)
set_option maxRecDepth 20000 in
theorem gL_law_X1_rootOf : GoodIn wsL_law (wsV RL 55 RX1 yX1_rootOf wsX1_rootOf) := goodIn_app (goodIn_of _ (by decide +kernel)) ggL_law_X1_rootOf
set_option maxRecDepth 20000 in
theorem ggL_law_X2_rootOf : GoodIn wsL_law wsX2_rootOf := goodIn_r _ [257, 59, 90, 91, 5, 92, 354, 355, 356, 357, 358, 359, 360, 361, 362, 363, 364, 365, 366, 367] (by decide +kernel) (by decide +kernel)
set_option maxRecDepth 20000 in
theorem gL_law_X2_rootOf : GoodIn wsL_law (wsV RL 58 RX2 yX2_rootOf wsX2_rootOf) := goodIn_app (goodIn_of _ (by decide +kernel)) ggL_law_X2_rootOf
set_option maxRecDepth 20000 in
theorem ggL_law_X1_bit : GoodIn wsL_law wsX1_bit := goodIn_r _ [261, 31, 236, 237, 238, 2, 239, 23, 101, 102, 103, 30, 104, 48, 338, 339, 340, 341, 342, 343, 344, 345, 346, 347, 348, 349, 350, 351, 352, 353, 368] (by decide +kernel) (by decide +kernel)
set_option maxRecDepth 20000 in
theorem gL_law_X1_bit : GoodIn wsL_law (wsV RL 59 RX1 yX1_bit wsX1_bit) := goodIn_app (goodIn_of _ (by decide +kernel)) ggL_law_X1_bit
set_option maxRecDepth 20000 in
theorem ggL_law_X2_bit : GoodIn wsL_law wsX2_bit := goodIn_r _ [265, 60, 244, 245, 246, 5, 247, 62, 90, 91, 92, 354, 355, 356, 357, 358, 359, 360, 361, 362, 363, 364, 365, 366, 367] (by decide +kernel) (by decide +kernel)
set_option maxRecDepth 20000 in
theorem gL_law_X2_bit : GoodIn wsL_law (wsV RL 62 RX2 yX2_bit wsX2_bit) := goodIn_app (goodIn_of _ (by decide +kernel)) ggL_law_X2_bit
set_option maxRecDepth 20000 in
theorem ggL_law_X1_offset : GoodIn wsL_law wsX1_offset := goodIn_r _ [269, 25, 32, 338, 339, 340, 341, 342, 343, 344, 345, 346, 347, 348, 349, 350, 351, 352, 353] (by decide +kernel) (by decide +kernel)
set_option maxRecDepth 20000 in
theorem gL_law_X1_offset : GoodIn wsL_law (wsV RL 63 RX1 yX1_offset wsX1_offset) := goodIn_app (goodIn_of _ (by decide +kernel)) ggL_law_X1_offset
set_option maxRecDepth 20000 in
theorem ggL_law_X2_offset : GoodIn wsL_law wsX2_offset := goodIn_r _ [273, 63, 60, 274, 275, 276, 5, 277, 62, 90, 91, 92, 354, 355, 356, 357, 358, 359, 360, 361, 362, 363, 364, 365, 366, 367] (by decide +kernel) (by decide +kernel)
set_option maxRecDepth 20000 in
theorem gL_law_X2_offset : GoodIn wsL_law (wsV RL 66 RX2 yX2_offset wsX2_offset) := goodIn_app (goodIn_of _ (by decide +kernel)) ggL_law_X2_offset
set_option maxRecDepth 20000 in
theorem ggL_law_X1_moved : GoodIn wsL_law wsX1_moved := goodIn_r _ [281, 31, 236, 237, 238, 2, 239, 23, 101, 102, 103, 30, 104, 48, 189, 190, 191, 192, 24, 32, 193, 194, 195, 196, 197, 198, 199, 200, 201, 202, 203, 204, 338, 339, 340, 341, 342, 343, 344, 345, 346, 347, 348, 349, 350, 351, 352, 353, 368] (by decide +kernel) (by decide +kernel)
set_option maxRecDepth 20000 in
theorem gL_law_X1_moved : GoodIn wsL_law (wsV RL 67 RX1 yX1_moved wsX1_moved) := goodIn_app (goodIn_of _ (by decide +kernel)) ggL_law_X1_moved
set_option maxRecDepth 20000 in
theorem ggL_law_X2_moved : GoodIn wsL_law wsX2_moved := goodIn_r _ [285, 60, 244, 245, 246, 5, 247, 62, 90, 91, 92, 354, 355, 356, 357, 358, 359, 360, 361, 362, 363, 364, 365, 366, 367] (by decide +kernel) (by decide +kernel)
set_option maxRecDepth 20000 in
theorem gL_law_X2_moved : GoodIn wsL_law (wsV RL 70 RX2 yX2_moved wsX2_moved) := goodIn_app (goodIn_of _ (by decide +kernel)) ggL_law_X2_moved
set_option maxRecDepth 20000 in
theorem ggL_law_X1_reads : GoodIn wsL_law wsX1_reads := goodIn_r _ [289, 185, 338, 339, 340, 341, 342, 343, 344, 345, 346, 347, 348, 349, 350, 351, 352, 353] (by decide +kernel) (by decide +kernel)
set_option maxRecDepth 20000 in
theorem gL_law_X1_reads : GoodIn wsL_law (wsV RL 71 RX1 yX1_reads wsX1_reads) := goodIn_app (goodIn_of _ (by decide +kernel)) ggL_law_X1_reads
set_option maxRecDepth 20000 in
theorem ggL_law_X2_reads : GoodIn wsL_law wsX2_reads := goodIn_r _ [293, 222, 354, 355, 356, 357, 358, 359, 360, 361, 362, 363, 364, 365, 366, 367] (by decide +kernel) (by decide +kernel)
set_option maxRecDepth 20000 in
theorem gL_law_X2_reads : GoodIn wsL_law (wsV RL 74 RX2 yX2_reads wsX2_reads) := goodIn_app (goodIn_of _ (by decide +kernel)) ggL_law_X2_reads
set_option maxRecDepth 20000 in
theorem ggL_law_X1_near : GoodIn wsL_law wsX1_near := goodIn_r _ [297, 157, 158, 159, 2, 160, 34, 27, 33, 161, 162, 163, 30, 164, 48, 165, 166, 167, 168, 169, 170, 171, 172, 101, 102, 103, 104, 81, 82, 83, 84, 173, 174, 175, 176, 35, 75, 76, 77, 338, 339, 340, 341, 342, 343, 344, 345, 346, 347, 348, 349, 350, 351, 352, 353, 368] (by decide +kernel) (by decide +kernel)
set_option maxRecDepth 20000 in
theorem gL_law_X1_near : GoodIn wsL_law (wsV RL 75 RX1 yX1_near wsX1_near) := goodIn_app (goodIn_of _ (by decide +kernel)) ggL_law_X1_near
set_option maxRecDepth 20000 in
theorem ggL_law_X2_near : GoodIn wsL_law wsX2_near := goodIn_r _ [301, 53, 61, 90, 91, 5, 92, 224, 225, 226, 227, 62, 221, 59, 54, 121, 122, 123, 124, 228, 229, 230, 231, 133, 134, 135, 136, 354, 355, 356, 357, 358, 359, 360, 361, 362, 363, 364, 365, 366, 367] (by decide +kernel) (by decide +kernel)
set_option maxRecDepth 20000 in
theorem gL_law_X2_near : GoodIn wsL_law (wsV RL 78 RX2 yX2_near wsX2_near) := goodIn_app (goodIn_of _ (by decide +kernel)) ggL_law_X2_near
set_option maxRecDepth 20000 in
theorem ggL_law_X1_sound : GoodIn wsL_law wsX1_sound := goodIn_r _ [305, 306, 307, 308, 2, 309, 39, 37, 35, 101, 102, 103, 30, 104, 48, 72, 73, 74, 75, 76, 77, 78, 79, 80, 310, 311, 312, 313, 27, 105, 106, 107, 108, 97, 98, 99, 100, 314, 315, 316, 317, 318, 319, 320, 321, 322, 323, 324, 325, 23, 31, 189, 190, 191, 192, 24, 32, 193, 194, 195, 196, 197, 198, 199, 200, 201, 202, 203, 204, 338, 339, 340, 341, 342, 343, 344, 345, 346, 347, 348, 349, 350, 351, 352, 353, 368] (by decide +kernel) (by decide +kernel)
set_option maxRecDepth 20000 in
theorem gL_law_X1_sound : GoodIn wsL_law (wsV RL 79 RX1 yX1_sound wsX1_sound) := goodIn_app (goodIn_of _ (by decide +kernel)) ggL_law_X1_sound
set_option maxRecDepth 20000 in
theorem ggL_law_X2_sound : GoodIn wsL_law wsX2_sound := goodIn_r _ [329, 53, 57, 54, 59, 89, 121, 122, 123, 5, 124, 117, 118, 119, 120, 113, 114, 115, 116, 62, 90, 91, 92, 228, 229, 230, 231, 133, 134, 135, 136, 354, 355, 356, 357, 358, 359, 360, 361, 362, 363, 364, 365, 366, 367] (by decide +kernel) (by decide +kernel)
set_option maxRecDepth 20000 in
theorem gL_law_X2_sound : GoodIn wsL_law (wsV RL 83 RX2 yX2_sound wsX2_sound) := goodIn_app (goodIn_of _ (by decide +kernel)) ggL_law_X2_sound
set_option maxRecDepth 20000 in
theorem ggL_law_X1_count : GoodIn wsL_law wsX1_count := goodIn_r _ [333, 39, 68, 152, 23, 25, 338, 339, 340, 341, 342, 343, 344, 345, 346, 347, 348, 349, 350, 351, 352, 353] (by decide +kernel) (by decide +kernel)
set_option maxRecDepth 20000 in
theorem gL_law_X1_count : GoodIn wsL_law (wsV RL 84 RX1 yX1_count wsX1_count) := goodIn_app (goodIn_of _ (by decide +kernel)) ggL_law_X1_count
set_option maxRecDepth 20000 in
theorem ggL_law_X2_count : GoodIn wsL_law wsX2_count := goodIn_r _ [337, 53, 89, 223, 62, 274, 275, 276, 5, 277, 63, 354, 355, 356, 357, 358, 359, 360, 361, 362, 363, 364, 365, 366, 367] (by decide +kernel) (by decide +kernel)
set_option maxRecDepth 20000 in
theorem gL_law_X2_count : GoodIn wsL_law (wsV RL 87 RX2 yX2_count wsX2_count) := goodIn_app (goodIn_of _ (by decide +kernel)) ggL_law_X2_count
theorem dL_law_0 : decode cL_law 0 = .ok (.new 7, 3) := by decide +kernel
theorem dL_law_3 : decode cL_law 3 = .ok (.dup, 1) := by decide +kernel
theorem dL_law_4 : decode cL_law 4 = .ok (.aload_n 0, 1) := by decide +kernel
theorem dL_law_5 : decode cL_law 5 = .ok (.iconst 0, 1) := by decide +kernel
theorem dL_law_6 : decode cL_law 6 = .ok (.invokestatic 9, 3) := by decide +kernel
theorem dL_law_9 : decode cL_law 9 = .ok (.aload_n 0, 1) := by decide +kernel
theorem dL_law_10 : decode cL_law 10 = .ok (.iconst 1, 1) := by decide +kernel
theorem dL_law_11 : decode cL_law 11 = .ok (.invokestatic 9, 3) := by decide +kernel
theorem dL_law_14 : decode cL_law 14 = .ok (.invokespecial 15, 3) := by decide +kernel
theorem dL_law_17 : decode cL_law 17 = .ok (.astore_n 1, 1) := by decide +kernel
theorem dL_law_18 : decode cL_law 18 = .ok (.new 18, 3) := by decide +kernel
theorem dL_law_21 : decode cL_law 21 = .ok (.dup, 1) := by decide +kernel
theorem dL_law_22 : decode cL_law 22 = .ok (.aload_n 0, 1) := by decide +kernel
theorem dL_law_23 : decode cL_law 23 = .ok (.iconst 0, 1) := by decide +kernel
theorem dL_law_24 : decode cL_law 24 = .ok (.invokestatic 9, 3) := by decide +kernel
theorem dL_law_27 : decode cL_law 27 = .ok (.aload_n 0, 1) := by decide +kernel
theorem dL_law_28 : decode cL_law 28 = .ok (.iconst 1, 1) := by decide +kernel
theorem dL_law_29 : decode cL_law 29 = .ok (.invokestatic 9, 3) := by decide +kernel
theorem dL_law_32 : decode cL_law 32 = .ok (.invokespecial 20, 3) := by decide +kernel
theorem dL_law_35 : decode cL_law 35 = .ok (.astore_n 2, 1) := by decide +kernel
theorem dL_law_36 : decode cL_law 36 = .ok (.iconst 2, 1) := by decide +kernel
theorem dL_law_37 : decode cL_law 37 = .ok (.istore_n 3, 1) := by decide +kernel
theorem dL_law_38 : decode cL_law 38 = .ok (.iload_n 3, 1) := by decide +kernel
theorem dL_law_39 : decode cL_law 39 = .ok (.aload_n 0, 1) := by decide +kernel
theorem dL_law_40 : decode cL_law 40 = .ok (.arraylength, 1) := by decide +kernel
theorem dL_law_41 : decode cL_law 41 = .ok (.iconst 4, 1) := by decide +kernel
theorem dL_law_42 : decode cL_law 42 = .ok (.isub, 1) := by decide +kernel
theorem dL_law_43 : decode cL_law 43 = .ok (.if_icmp .gt 466, 3) := by decide +kernel
theorem dL_law_46 : decode cL_law 46 = .ok (.aload_n 0, 1) := by decide +kernel
theorem dL_law_47 : decode cL_law 47 = .ok (.iload_n 3, 1) := by decide +kernel
theorem dL_law_48 : decode cL_law 48 = .ok (.iaload, 1) := by decide +kernel
theorem dL_law_49 : decode cL_law 49 = .ok (.bipush 15, 2) := by decide +kernel
theorem dL_law_51 : decode cL_law 51 = .ok (.iand, 1) := by decide +kernel
theorem dL_law_52 : decode cL_law 52 = .ok (.tableswitch 451 0 14 #[76, 109, 152, 195, 228, 241, 264, 287, 310, 333, 356, 379, 392, 415, 428], 76) := by decide +kernel
theorem dL_law_128 : decode cL_law 128 = .ok (.aload_n 1, 1) := by decide +kernel
theorem dL_law_129 : decode cL_law 129 = .ok (.aload_n 0, 1) := by decide +kernel
theorem dL_law_130 : decode cL_law 130 = .ok (.iload_n 3, 1) := by decide +kernel
theorem dL_law_131 : decode cL_law 131 = .ok (.iconst 1, 1) := by decide +kernel
theorem dL_law_132 : decode cL_law 132 = .ok (.iadd, 1) := by decide +kernel
theorem dL_law_133 : decode cL_law 133 = .ok (.iaload, 1) := by decide +kernel
theorem dL_law_134 : decode cL_law 134 = .ok (.aload_n 0, 1) := by decide +kernel
theorem dL_law_135 : decode cL_law 135 = .ok (.iload_n 3, 1) := by decide +kernel
theorem dL_law_136 : decode cL_law 136 = .ok (.iconst 2, 1) := by decide +kernel
theorem dL_law_137 : decode cL_law 137 = .ok (.iadd, 1) := by decide +kernel
theorem dL_law_138 : decode cL_law 138 = .ok (.iaload, 1) := by decide +kernel
theorem dL_law_139 : decode cL_law 139 = .ok (.invokevirtual 21, 3) := by decide +kernel
theorem dL_law_142 : decode cL_law 142 = .ok (.aload_n 2, 1) := by decide +kernel
theorem dL_law_143 : decode cL_law 143 = .ok (.aload_n 0, 1) := by decide +kernel
theorem dL_law_144 : decode cL_law 144 = .ok (.iload_n 3, 1) := by decide +kernel
theorem dL_law_145 : decode cL_law 145 = .ok (.iconst 1, 1) := by decide +kernel
theorem dL_law_146 : decode cL_law 146 = .ok (.iadd, 1) := by decide +kernel
theorem dL_law_147 : decode cL_law 147 = .ok (.iaload, 1) := by decide +kernel
theorem dL_law_148 : decode cL_law 148 = .ok (.aload_n 0, 1) := by decide +kernel
theorem dL_law_149 : decode cL_law 149 = .ok (.iload_n 3, 1) := by decide +kernel
theorem dL_law_150 : decode cL_law 150 = .ok (.iconst 2, 1) := by decide +kernel
theorem dL_law_151 : decode cL_law 151 = .ok (.iadd, 1) := by decide +kernel
theorem dL_law_152 : decode cL_law 152 = .ok (.iaload, 1) := by decide +kernel
theorem dL_law_153 : decode cL_law 153 = .ok (.invokevirtual 25, 3) := by decide +kernel
theorem dL_law_156 : decode cL_law 156 = .ok (.if_icmp .eq 347, 3) := by decide +kernel
theorem dL_law_159 : decode cL_law 159 = .ok (.iconst 0, 1) := by decide +kernel
theorem dL_law_160 : decode cL_law 160 = .ok (.ireturn, 1) := by decide +kernel
theorem dL_law_161 : decode cL_law 161 = .ok (.aload_n 1, 1) := by decide +kernel
theorem dL_law_162 : decode cL_law 162 = .ok (.aload_n 0, 1) := by decide +kernel
theorem dL_law_163 : decode cL_law 163 = .ok (.iload_n 3, 1) := by decide +kernel
theorem dL_law_164 : decode cL_law 164 = .ok (.iconst 1, 1) := by decide +kernel
theorem dL_law_165 : decode cL_law 165 = .ok (.iadd, 1) := by decide +kernel
theorem dL_law_166 : decode cL_law 166 = .ok (.iaload, 1) := by decide +kernel
theorem dL_law_167 : decode cL_law 167 = .ok (.aload_n 0, 1) := by decide +kernel
theorem dL_law_168 : decode cL_law 168 = .ok (.iload_n 3, 1) := by decide +kernel
theorem dL_law_169 : decode cL_law 169 = .ok (.iconst 2, 1) := by decide +kernel
theorem dL_law_170 : decode cL_law 170 = .ok (.iadd, 1) := by decide +kernel
theorem dL_law_171 : decode cL_law 171 = .ok (.iaload, 1) := by decide +kernel
theorem dL_law_172 : decode cL_law 172 = .ok (.aload_n 0, 1) := by decide +kernel
theorem dL_law_173 : decode cL_law 173 = .ok (.iload_n 3, 1) := by decide +kernel
theorem dL_law_174 : decode cL_law 174 = .ok (.iconst 3, 1) := by decide +kernel
theorem dL_law_175 : decode cL_law 175 = .ok (.iadd, 1) := by decide +kernel
theorem dL_law_176 : decode cL_law 176 = .ok (.iaload, 1) := by decide +kernel
theorem dL_law_177 : decode cL_law 177 = .ok (.invokevirtual 26, 3) := by decide +kernel
theorem dL_law_180 : decode cL_law 180 = .ok (.aload_n 2, 1) := by decide +kernel
theorem dL_law_181 : decode cL_law 181 = .ok (.aload_n 0, 1) := by decide +kernel
theorem dL_law_182 : decode cL_law 182 = .ok (.iload_n 3, 1) := by decide +kernel
theorem dL_law_183 : decode cL_law 183 = .ok (.iconst 1, 1) := by decide +kernel
theorem dL_law_184 : decode cL_law 184 = .ok (.iadd, 1) := by decide +kernel
theorem dL_law_185 : decode cL_law 185 = .ok (.iaload, 1) := by decide +kernel
theorem dL_law_186 : decode cL_law 186 = .ok (.aload_n 0, 1) := by decide +kernel
theorem dL_law_187 : decode cL_law 187 = .ok (.iload_n 3, 1) := by decide +kernel
theorem dL_law_188 : decode cL_law 188 = .ok (.iconst 2, 1) := by decide +kernel
theorem dL_law_189 : decode cL_law 189 = .ok (.iadd, 1) := by decide +kernel
theorem dL_law_190 : decode cL_law 190 = .ok (.iaload, 1) := by decide +kernel
theorem dL_law_191 : decode cL_law 191 = .ok (.aload_n 0, 1) := by decide +kernel
theorem dL_law_192 : decode cL_law 192 = .ok (.iload_n 3, 1) := by decide +kernel
theorem dL_law_193 : decode cL_law 193 = .ok (.iconst 3, 1) := by decide +kernel
theorem dL_law_194 : decode cL_law 194 = .ok (.iadd, 1) := by decide +kernel
theorem dL_law_195 : decode cL_law 195 = .ok (.iaload, 1) := by decide +kernel
theorem dL_law_196 : decode cL_law 196 = .ok (.invokevirtual 30, 3) := by decide +kernel
theorem dL_law_199 : decode cL_law 199 = .ok (.if_icmp .eq 304, 3) := by decide +kernel
theorem dL_law_202 : decode cL_law 202 = .ok (.iconst 0, 1) := by decide +kernel
theorem dL_law_203 : decode cL_law 203 = .ok (.ireturn, 1) := by decide +kernel
theorem dL_law_204 : decode cL_law 204 = .ok (.aload_n 1, 1) := by decide +kernel
theorem dL_law_205 : decode cL_law 205 = .ok (.aload_n 0, 1) := by decide +kernel
theorem dL_law_206 : decode cL_law 206 = .ok (.iload_n 3, 1) := by decide +kernel
theorem dL_law_207 : decode cL_law 207 = .ok (.iconst 1, 1) := by decide +kernel
theorem dL_law_208 : decode cL_law 208 = .ok (.iadd, 1) := by decide +kernel
theorem dL_law_209 : decode cL_law 209 = .ok (.iaload, 1) := by decide +kernel
theorem dL_law_210 : decode cL_law 210 = .ok (.aload_n 0, 1) := by decide +kernel
theorem dL_law_211 : decode cL_law 211 = .ok (.iload_n 3, 1) := by decide +kernel
theorem dL_law_212 : decode cL_law 212 = .ok (.iconst 2, 1) := by decide +kernel
theorem dL_law_213 : decode cL_law 213 = .ok (.iadd, 1) := by decide +kernel
theorem dL_law_214 : decode cL_law 214 = .ok (.iaload, 1) := by decide +kernel
theorem dL_law_215 : decode cL_law 215 = .ok (.aload_n 0, 1) := by decide +kernel
theorem dL_law_216 : decode cL_law 216 = .ok (.iload_n 3, 1) := by decide +kernel
theorem dL_law_217 : decode cL_law 217 = .ok (.iconst 3, 1) := by decide +kernel
theorem dL_law_218 : decode cL_law 218 = .ok (.iadd, 1) := by decide +kernel
theorem dL_law_219 : decode cL_law 219 = .ok (.iaload, 1) := by decide +kernel
theorem dL_law_220 : decode cL_law 220 = .ok (.invokevirtual 31, 3) := by decide +kernel
theorem dL_law_223 : decode cL_law 223 = .ok (.aload_n 2, 1) := by decide +kernel
theorem dL_law_224 : decode cL_law 224 = .ok (.aload_n 0, 1) := by decide +kernel
theorem dL_law_225 : decode cL_law 225 = .ok (.iload_n 3, 1) := by decide +kernel
theorem dL_law_226 : decode cL_law 226 = .ok (.iconst 1, 1) := by decide +kernel
theorem dL_law_227 : decode cL_law 227 = .ok (.iadd, 1) := by decide +kernel
theorem dL_law_228 : decode cL_law 228 = .ok (.iaload, 1) := by decide +kernel
theorem dL_law_229 : decode cL_law 229 = .ok (.aload_n 0, 1) := by decide +kernel
theorem dL_law_230 : decode cL_law 230 = .ok (.iload_n 3, 1) := by decide +kernel
theorem dL_law_231 : decode cL_law 231 = .ok (.iconst 2, 1) := by decide +kernel
theorem dL_law_232 : decode cL_law 232 = .ok (.iadd, 1) := by decide +kernel
theorem dL_law_233 : decode cL_law 233 = .ok (.iaload, 1) := by decide +kernel
theorem dL_law_234 : decode cL_law 234 = .ok (.aload_n 0, 1) := by decide +kernel
theorem dL_law_235 : decode cL_law 235 = .ok (.iload_n 3, 1) := by decide +kernel
theorem dL_law_236 : decode cL_law 236 = .ok (.iconst 3, 1) := by decide +kernel
theorem dL_law_237 : decode cL_law 237 = .ok (.iadd, 1) := by decide +kernel
theorem dL_law_238 : decode cL_law 238 = .ok (.iaload, 1) := by decide +kernel
theorem dL_law_239 : decode cL_law 239 = .ok (.invokevirtual 34, 3) := by decide +kernel
theorem dL_law_242 : decode cL_law 242 = .ok (.if_icmp .eq 261, 3) := by decide +kernel
theorem dL_law_245 : decode cL_law 245 = .ok (.iconst 0, 1) := by decide +kernel
theorem dL_law_246 : decode cL_law 246 = .ok (.ireturn, 1) := by decide +kernel
theorem dL_law_247 : decode cL_law 247 = .ok (.aload_n 1, 1) := by decide +kernel
theorem dL_law_248 : decode cL_law 248 = .ok (.aload_n 0, 1) := by decide +kernel
theorem dL_law_249 : decode cL_law 249 = .ok (.iload_n 3, 1) := by decide +kernel
theorem dL_law_250 : decode cL_law 250 = .ok (.iconst 1, 1) := by decide +kernel
theorem dL_law_251 : decode cL_law 251 = .ok (.iadd, 1) := by decide +kernel
theorem dL_law_252 : decode cL_law 252 = .ok (.iaload, 1) := by decide +kernel
theorem dL_law_253 : decode cL_law 253 = .ok (.aload_n 0, 1) := by decide +kernel
theorem dL_law_254 : decode cL_law 254 = .ok (.iload_n 3, 1) := by decide +kernel
theorem dL_law_255 : decode cL_law 255 = .ok (.iconst 2, 1) := by decide +kernel
theorem dL_law_256 : decode cL_law 256 = .ok (.iadd, 1) := by decide +kernel
theorem dL_law_257 : decode cL_law 257 = .ok (.iaload, 1) := by decide +kernel
theorem dL_law_258 : decode cL_law 258 = .ok (.invokevirtual 35, 3) := by decide +kernel
theorem dL_law_261 : decode cL_law 261 = .ok (.aload_n 2, 1) := by decide +kernel
theorem dL_law_262 : decode cL_law 262 = .ok (.aload_n 0, 1) := by decide +kernel
theorem dL_law_263 : decode cL_law 263 = .ok (.iload_n 3, 1) := by decide +kernel
theorem dL_law_264 : decode cL_law 264 = .ok (.iconst 1, 1) := by decide +kernel
theorem dL_law_265 : decode cL_law 265 = .ok (.iadd, 1) := by decide +kernel
theorem dL_law_266 : decode cL_law 266 = .ok (.iaload, 1) := by decide +kernel
theorem dL_law_267 : decode cL_law 267 = .ok (.aload_n 0, 1) := by decide +kernel
theorem dL_law_268 : decode cL_law 268 = .ok (.iload_n 3, 1) := by decide +kernel
theorem dL_law_269 : decode cL_law 269 = .ok (.iconst 2, 1) := by decide +kernel
theorem dL_law_270 : decode cL_law 270 = .ok (.iadd, 1) := by decide +kernel
theorem dL_law_271 : decode cL_law 271 = .ok (.iaload, 1) := by decide +kernel
theorem dL_law_272 : decode cL_law 272 = .ok (.invokevirtual 39, 3) := by decide +kernel
theorem dL_law_275 : decode cL_law 275 = .ok (.if_icmp .eq 228, 3) := by decide +kernel
theorem dL_law_278 : decode cL_law 278 = .ok (.iconst 0, 1) := by decide +kernel
theorem dL_law_279 : decode cL_law 279 = .ok (.ireturn, 1) := by decide +kernel
theorem dL_law_280 : decode cL_law 280 = .ok (.aload_n 1, 1) := by decide +kernel
theorem dL_law_281 : decode cL_law 281 = .ok (.invokevirtual 40, 3) := by decide +kernel
theorem dL_law_284 : decode cL_law 284 = .ok (.aload_n 2, 1) := by decide +kernel
theorem dL_law_285 : decode cL_law 285 = .ok (.invokevirtual 44, 3) := by decide +kernel
theorem dL_law_288 : decode cL_law 288 = .ok (.if_icmp .eq 215, 3) := by decide +kernel
theorem dL_law_291 : decode cL_law 291 = .ok (.iconst 0, 1) := by decide +kernel
theorem dL_law_292 : decode cL_law 292 = .ok (.ireturn, 1) := by decide +kernel
theorem dL_law_293 : decode cL_law 293 = .ok (.aload_n 1, 1) := by decide +kernel
theorem dL_law_294 : decode cL_law 294 = .ok (.aload_n 0, 1) := by decide +kernel
theorem dL_law_295 : decode cL_law 295 = .ok (.iload_n 3, 1) := by decide +kernel
theorem dL_law_296 : decode cL_law 296 = .ok (.iconst 1, 1) := by decide +kernel
theorem dL_law_297 : decode cL_law 297 = .ok (.iadd, 1) := by decide +kernel
theorem dL_law_298 : decode cL_law 298 = .ok (.iaload, 1) := by decide +kernel
theorem dL_law_299 : decode cL_law 299 = .ok (.invokevirtual 45, 3) := by decide +kernel
theorem dL_law_302 : decode cL_law 302 = .ok (.aload_n 2, 1) := by decide +kernel
theorem dL_law_303 : decode cL_law 303 = .ok (.aload_n 0, 1) := by decide +kernel
theorem dL_law_304 : decode cL_law 304 = .ok (.iload_n 3, 1) := by decide +kernel
theorem dL_law_305 : decode cL_law 305 = .ok (.iconst 1, 1) := by decide +kernel
theorem dL_law_306 : decode cL_law 306 = .ok (.iadd, 1) := by decide +kernel
theorem dL_law_307 : decode cL_law 307 = .ok (.iaload, 1) := by decide +kernel
theorem dL_law_308 : decode cL_law 308 = .ok (.invokevirtual 49, 3) := by decide +kernel
theorem dL_law_311 : decode cL_law 311 = .ok (.if_icmp .eq 192, 3) := by decide +kernel
theorem dL_law_314 : decode cL_law 314 = .ok (.iconst 0, 1) := by decide +kernel
theorem dL_law_315 : decode cL_law 315 = .ok (.ireturn, 1) := by decide +kernel
theorem dL_law_316 : decode cL_law 316 = .ok (.aload_n 1, 1) := by decide +kernel
theorem dL_law_317 : decode cL_law 317 = .ok (.aload_n 0, 1) := by decide +kernel
theorem dL_law_318 : decode cL_law 318 = .ok (.iload_n 3, 1) := by decide +kernel
theorem dL_law_319 : decode cL_law 319 = .ok (.iconst 1, 1) := by decide +kernel
theorem dL_law_320 : decode cL_law 320 = .ok (.iadd, 1) := by decide +kernel
theorem dL_law_321 : decode cL_law 321 = .ok (.iaload, 1) := by decide +kernel
theorem dL_law_322 : decode cL_law 322 = .ok (.invokevirtual 50, 3) := by decide +kernel
theorem dL_law_325 : decode cL_law 325 = .ok (.aload_n 2, 1) := by decide +kernel
theorem dL_law_326 : decode cL_law 326 = .ok (.aload_n 0, 1) := by decide +kernel
theorem dL_law_327 : decode cL_law 327 = .ok (.iload_n 3, 1) := by decide +kernel
theorem dL_law_328 : decode cL_law 328 = .ok (.iconst 1, 1) := by decide +kernel
theorem dL_law_329 : decode cL_law 329 = .ok (.iadd, 1) := by decide +kernel
theorem dL_law_330 : decode cL_law 330 = .ok (.iaload, 1) := by decide +kernel
theorem dL_law_331 : decode cL_law 331 = .ok (.invokevirtual 54, 3) := by decide +kernel
theorem dL_law_334 : decode cL_law 334 = .ok (.if_icmp .eq 169, 3) := by decide +kernel
theorem dL_law_337 : decode cL_law 337 = .ok (.iconst 0, 1) := by decide +kernel
theorem dL_law_338 : decode cL_law 338 = .ok (.ireturn, 1) := by decide +kernel
theorem dL_law_339 : decode cL_law 339 = .ok (.aload_n 1, 1) := by decide +kernel
theorem dL_law_340 : decode cL_law 340 = .ok (.aload_n 0, 1) := by decide +kernel
theorem dL_law_341 : decode cL_law 341 = .ok (.iload_n 3, 1) := by decide +kernel
theorem dL_law_342 : decode cL_law 342 = .ok (.iconst 1, 1) := by decide +kernel
theorem dL_law_343 : decode cL_law 343 = .ok (.iadd, 1) := by decide +kernel
theorem dL_law_344 : decode cL_law 344 = .ok (.iaload, 1) := by decide +kernel
theorem dL_law_345 : decode cL_law 345 = .ok (.invokevirtual 55, 3) := by decide +kernel
theorem dL_law_348 : decode cL_law 348 = .ok (.aload_n 2, 1) := by decide +kernel
theorem dL_law_349 : decode cL_law 349 = .ok (.aload_n 0, 1) := by decide +kernel
theorem dL_law_350 : decode cL_law 350 = .ok (.iload_n 3, 1) := by decide +kernel
theorem dL_law_351 : decode cL_law 351 = .ok (.iconst 1, 1) := by decide +kernel
theorem dL_law_352 : decode cL_law 352 = .ok (.iadd, 1) := by decide +kernel
theorem dL_law_353 : decode cL_law 353 = .ok (.iaload, 1) := by decide +kernel
theorem dL_law_354 : decode cL_law 354 = .ok (.invokevirtual 58, 3) := by decide +kernel
theorem dL_law_357 : decode cL_law 357 = .ok (.if_icmp .eq 146, 3) := by decide +kernel
theorem dL_law_360 : decode cL_law 360 = .ok (.iconst 0, 1) := by decide +kernel
theorem dL_law_361 : decode cL_law 361 = .ok (.ireturn, 1) := by decide +kernel
theorem dL_law_362 : decode cL_law 362 = .ok (.aload_n 1, 1) := by decide +kernel
theorem dL_law_363 : decode cL_law 363 = .ok (.aload_n 0, 1) := by decide +kernel
theorem dL_law_364 : decode cL_law 364 = .ok (.iload_n 3, 1) := by decide +kernel
theorem dL_law_365 : decode cL_law 365 = .ok (.iconst 1, 1) := by decide +kernel
theorem dL_law_366 : decode cL_law 366 = .ok (.iadd, 1) := by decide +kernel
theorem dL_law_367 : decode cL_law 367 = .ok (.iaload, 1) := by decide +kernel
theorem dL_law_368 : decode cL_law 368 = .ok (.invokevirtual 59, 3) := by decide +kernel
theorem dL_law_371 : decode cL_law 371 = .ok (.aload_n 2, 1) := by decide +kernel
theorem dL_law_372 : decode cL_law 372 = .ok (.aload_n 0, 1) := by decide +kernel
theorem dL_law_373 : decode cL_law 373 = .ok (.iload_n 3, 1) := by decide +kernel
theorem dL_law_374 : decode cL_law 374 = .ok (.iconst 1, 1) := by decide +kernel
theorem dL_law_375 : decode cL_law 375 = .ok (.iadd, 1) := by decide +kernel
theorem dL_law_376 : decode cL_law 376 = .ok (.iaload, 1) := by decide +kernel
theorem dL_law_377 : decode cL_law 377 = .ok (.invokevirtual 62, 3) := by decide +kernel
theorem dL_law_380 : decode cL_law 380 = .ok (.if_icmp .eq 123, 3) := by decide +kernel
theorem dL_law_383 : decode cL_law 383 = .ok (.iconst 0, 1) := by decide +kernel
theorem dL_law_384 : decode cL_law 384 = .ok (.ireturn, 1) := by decide +kernel
theorem dL_law_385 : decode cL_law 385 = .ok (.aload_n 1, 1) := by decide +kernel
theorem dL_law_386 : decode cL_law 386 = .ok (.aload_n 0, 1) := by decide +kernel
theorem dL_law_387 : decode cL_law 387 = .ok (.iload_n 3, 1) := by decide +kernel
theorem dL_law_388 : decode cL_law 388 = .ok (.iconst 1, 1) := by decide +kernel
theorem dL_law_389 : decode cL_law 389 = .ok (.iadd, 1) := by decide +kernel
theorem dL_law_390 : decode cL_law 390 = .ok (.iaload, 1) := by decide +kernel
theorem dL_law_391 : decode cL_law 391 = .ok (.invokevirtual 63, 3) := by decide +kernel
theorem dL_law_394 : decode cL_law 394 = .ok (.aload_n 2, 1) := by decide +kernel
theorem dL_law_395 : decode cL_law 395 = .ok (.aload_n 0, 1) := by decide +kernel
theorem dL_law_396 : decode cL_law 396 = .ok (.iload_n 3, 1) := by decide +kernel
theorem dL_law_397 : decode cL_law 397 = .ok (.iconst 1, 1) := by decide +kernel
theorem dL_law_398 : decode cL_law 398 = .ok (.iadd, 1) := by decide +kernel
theorem dL_law_399 : decode cL_law 399 = .ok (.iaload, 1) := by decide +kernel
theorem dL_law_400 : decode cL_law 400 = .ok (.invokevirtual 66, 3) := by decide +kernel
theorem dL_law_403 : decode cL_law 403 = .ok (.if_icmp .eq 100, 3) := by decide +kernel
theorem dL_law_406 : decode cL_law 406 = .ok (.iconst 0, 1) := by decide +kernel
theorem dL_law_407 : decode cL_law 407 = .ok (.ireturn, 1) := by decide +kernel
theorem dL_law_408 : decode cL_law 408 = .ok (.aload_n 1, 1) := by decide +kernel
theorem dL_law_409 : decode cL_law 409 = .ok (.aload_n 0, 1) := by decide +kernel
theorem dL_law_410 : decode cL_law 410 = .ok (.iload_n 3, 1) := by decide +kernel
theorem dL_law_411 : decode cL_law 411 = .ok (.iconst 1, 1) := by decide +kernel
theorem dL_law_412 : decode cL_law 412 = .ok (.iadd, 1) := by decide +kernel
theorem dL_law_413 : decode cL_law 413 = .ok (.iaload, 1) := by decide +kernel
theorem dL_law_414 : decode cL_law 414 = .ok (.invokevirtual 67, 3) := by decide +kernel
theorem dL_law_417 : decode cL_law 417 = .ok (.aload_n 2, 1) := by decide +kernel
theorem dL_law_418 : decode cL_law 418 = .ok (.aload_n 0, 1) := by decide +kernel
theorem dL_law_419 : decode cL_law 419 = .ok (.iload_n 3, 1) := by decide +kernel
theorem dL_law_420 : decode cL_law 420 = .ok (.iconst 1, 1) := by decide +kernel
theorem dL_law_421 : decode cL_law 421 = .ok (.iadd, 1) := by decide +kernel
theorem dL_law_422 : decode cL_law 422 = .ok (.iaload, 1) := by decide +kernel
theorem dL_law_423 : decode cL_law 423 = .ok (.invokevirtual 70, 3) := by decide +kernel
theorem dL_law_426 : decode cL_law 426 = .ok (.if_icmp .eq 77, 3) := by decide +kernel
theorem dL_law_429 : decode cL_law 429 = .ok (.iconst 0, 1) := by decide +kernel
theorem dL_law_430 : decode cL_law 430 = .ok (.ireturn, 1) := by decide +kernel
theorem dL_law_431 : decode cL_law 431 = .ok (.aload_n 1, 1) := by decide +kernel
theorem dL_law_432 : decode cL_law 432 = .ok (.invokevirtual 71, 3) := by decide +kernel
theorem dL_law_435 : decode cL_law 435 = .ok (.aload_n 2, 1) := by decide +kernel
theorem dL_law_436 : decode cL_law 436 = .ok (.invokevirtual 74, 3) := by decide +kernel
theorem dL_law_439 : decode cL_law 439 = .ok (.if_icmp .eq 64, 3) := by decide +kernel
theorem dL_law_442 : decode cL_law 442 = .ok (.iconst 0, 1) := by decide +kernel
theorem dL_law_443 : decode cL_law 443 = .ok (.ireturn, 1) := by decide +kernel
theorem dL_law_444 : decode cL_law 444 = .ok (.aload_n 1, 1) := by decide +kernel
theorem dL_law_445 : decode cL_law 445 = .ok (.aload_n 0, 1) := by decide +kernel
theorem dL_law_446 : decode cL_law 446 = .ok (.iload_n 3, 1) := by decide +kernel
theorem dL_law_447 : decode cL_law 447 = .ok (.iconst 1, 1) := by decide +kernel
theorem dL_law_448 : decode cL_law 448 = .ok (.iadd, 1) := by decide +kernel
theorem dL_law_449 : decode cL_law 449 = .ok (.iaload, 1) := by decide +kernel
theorem dL_law_450 : decode cL_law 450 = .ok (.invokevirtual 75, 3) := by decide +kernel
theorem dL_law_453 : decode cL_law 453 = .ok (.aload_n 2, 1) := by decide +kernel
theorem dL_law_454 : decode cL_law 454 = .ok (.aload_n 0, 1) := by decide +kernel
theorem dL_law_455 : decode cL_law 455 = .ok (.iload_n 3, 1) := by decide +kernel
theorem dL_law_456 : decode cL_law 456 = .ok (.iconst 1, 1) := by decide +kernel
theorem dL_law_457 : decode cL_law 457 = .ok (.iadd, 1) := by decide +kernel
theorem dL_law_458 : decode cL_law 458 = .ok (.iaload, 1) := by decide +kernel
theorem dL_law_459 : decode cL_law 459 = .ok (.invokevirtual 78, 3) := by decide +kernel
theorem dL_law_462 : decode cL_law 462 = .ok (.if_icmp .eq 41, 3) := by decide +kernel
theorem dL_law_465 : decode cL_law 465 = .ok (.iconst 0, 1) := by decide +kernel
theorem dL_law_466 : decode cL_law 466 = .ok (.ireturn, 1) := by decide +kernel
theorem dL_law_467 : decode cL_law 467 = .ok (.aload_n 1, 1) := by decide +kernel
theorem dL_law_468 : decode cL_law 468 = .ok (.invokevirtual 79, 3) := by decide +kernel
theorem dL_law_471 : decode cL_law 471 = .ok (.aload_n 2, 1) := by decide +kernel
theorem dL_law_472 : decode cL_law 472 = .ok (.invokevirtual 83, 3) := by decide +kernel
theorem dL_law_475 : decode cL_law 475 = .ok (.if_icmp .eq 28, 3) := by decide +kernel
theorem dL_law_478 : decode cL_law 478 = .ok (.iconst 0, 1) := by decide +kernel
theorem dL_law_479 : decode cL_law 479 = .ok (.ireturn, 1) := by decide +kernel
theorem dL_law_480 : decode cL_law 480 = .ok (.aload_n 1, 1) := by decide +kernel
theorem dL_law_481 : decode cL_law 481 = .ok (.aload_n 0, 1) := by decide +kernel
theorem dL_law_482 : decode cL_law 482 = .ok (.iload_n 3, 1) := by decide +kernel
theorem dL_law_483 : decode cL_law 483 = .ok (.iconst 1, 1) := by decide +kernel
theorem dL_law_484 : decode cL_law 484 = .ok (.iadd, 1) := by decide +kernel
theorem dL_law_485 : decode cL_law 485 = .ok (.iaload, 1) := by decide +kernel
theorem dL_law_486 : decode cL_law 486 = .ok (.invokevirtual 84, 3) := by decide +kernel
theorem dL_law_489 : decode cL_law 489 = .ok (.aload_n 2, 1) := by decide +kernel
theorem dL_law_490 : decode cL_law 490 = .ok (.aload_n 0, 1) := by decide +kernel
theorem dL_law_491 : decode cL_law 491 = .ok (.iload_n 3, 1) := by decide +kernel
theorem dL_law_492 : decode cL_law 492 = .ok (.iconst 1, 1) := by decide +kernel
theorem dL_law_493 : decode cL_law 493 = .ok (.iadd, 1) := by decide +kernel
theorem dL_law_494 : decode cL_law 494 = .ok (.iaload, 1) := by decide +kernel
theorem dL_law_495 : decode cL_law 495 = .ok (.invokevirtual 87, 3) := by decide +kernel
theorem dL_law_498 : decode cL_law 498 = .ok (.if_icmp .eq 5, 3) := by decide +kernel
theorem dL_law_501 : decode cL_law 501 = .ok (.iconst 0, 1) := by decide +kernel
theorem dL_law_502 : decode cL_law 502 = .ok (.ireturn, 1) := by decide +kernel
theorem dL_law_503 : decode cL_law 503 = .ok (.iinc 3 4, 3) := by decide +kernel
theorem dL_law_506 : decode cL_law 506 = .ok (.goto (-468), 3) := by decide +kernel
theorem dL_law_509 : decode cL_law 509 = .ok (.iconst 1, 1) := by decide +kernel
theorem dL_law_510 : decode cL_law 510 = .ok (.ireturn, 1) := by decide +kernel
abbrev vwCl : List vw_C := [(RX0, TX0, 1), (RX1, TX1, 16), (RX2, TX2, 14)]
end
section
/-! rows over the kit's: Nat indices, calls that only read, calls that write -/
section XK
variable {p : Program} {l : Launch} {e : Env} {R : Room} {s : State} {m : MethodId} {args : Array Value} {below : List Frame} {meth : Method} {c : Code} {H : Heap} {locs : List Loc} {cells slots : Nat} {Q : State → Prop}
variable {cc : ByteArray} {pc : Nat} {ls : Array Slot} {rest : List Value} {D : va_G} {cl : List vw_C} {A : Nat → Prop} {a : Nat} {tys : List (ClassId × FieldType)} {ws : va_W} {H0 : Heap}
theorem xk_top {x y : Int32} (h : x = y) (k : W p l e R s m args below meth c H locs cells slots Q (F0 m pc ls (.int y :: rest))) : W p l e R s m args below meth c H locs cells slots Q (F0 m pc ls (.int x :: rest)) := by
  subst h; exact k
theorem xk_topl {x y : Int64} (h : x = y) (k : W p l e R s m args below meth c H locs cells slots Q (F0 m pc ls (.long y :: rest))) : W p l e R s m args below meth c H locs cells slots Q (F0 m pc ls (.long x :: rest)) := by
  subst h; exact k
theorem xk_iald (hexec : p.tables.exec = Jvm.exec) (hb : c.code = cc) (hK : va_K D cl tys s) (hP : va_P D cl ws H) (q0 t0 : Nat) {cA : ClassId} {n : Nat} {f : Nat → Int32} (ha : ws[q0]? = some (a, .inl (cA, n, .inl f))) (ht : tys[t0]? = some (cA, .int)) {i : Nat} (hi : i < n) (hn : n < 2 ^ 31) (hdg : decode cc pc = .ok (.iaload, 1))
    (kk : W p l e R s m args below meth c H locs cells slots Q (F0 m (pc + 1) ls (.int (f i) :: rest))) : W p l e R s m args below meth c H locs cells slots Q (F0 m pc ls (.int (nI i) :: .ref a :: rest)) :=
  va_iald hexec hb hK hP q0 t0 ha ht (vp_in_nI hi hn) hdg (by rw [nI_clamp (by omega)]; exact kk)
theorem xk_lald (hexec : p.tables.exec = Jvm.exec) (hb : c.code = cc) (hK : va_K D cl tys s) (hP : va_P D cl ws H) (q0 t0 : Nat) {cA : ClassId} {n : Nat} {f : Nat → Int64} (ha : ws[q0]? = some (a, .inl (cA, n, .inr (.inl f)))) (ht : tys[t0]? = some (cA, .long)) {i : Nat} (hi : i < n) (hn : n < 2 ^ 31) (hdg : decode cc pc = .ok (.laload, 1))
    (kk : W p l e R s m args below meth c H locs cells slots Q (F0 m (pc + 1) ls (.long (f i) :: rest))) : W p l e R s m args below meth c H locs cells slots Q (F0 m pc ls (.int (nI i) :: .ref a :: rest)) :=
  va_lald hexec hb hK hP q0 t0 ha ht (vp_in_nI hi hn) hdg (by rw [nI_clamp (by omega)]; exact kk)
theorem xk_iast (hexec : p.tables.exec = Jvm.exec) (hb : c.code = cc) (hK : va_K D cl tys s) (hP : va_P D cl ws H) (hD : va_D A ws) (hS : va_S A H0 H locs) (q0 t0 : Nat) {cA : ClassId} {n : Nat} {f : Nat → Int32} (ha : ws[q0]? = some (a, .inl (cA, n, .inl f))) (ht : tys[t0]? = some (cA, .int)) {i : Nat} {x : Int32} (hi : i < n) (hn : n < 2 ^ 31) (hdg : decode cc pc = .ok (.iastore, 1))
    (kk : ∀ (H1 : Heap) (locs1 : List Loc), va_P D cl (ws.set q0 (a, .inl (cA, n, .inl (upd f i x)))) H1 → va_D A (ws.set q0 (a, .inl (cA, n, .inl (upd f i x)))) → va_S A H0 H1 locs1 → W p l e R s m args below meth c H1 locs1 cells slots Q (F0 m (pc + 1) ls rest)) : W p l e R s m args below meth c H locs cells slots Q (F0 m pc ls (.int x :: .int (nI i) :: .ref a :: rest)) :=
  va_iast hexec hb hK hP hD hS q0 t0 ha ht (vp_in_nI hi hn) hdg (by rw [nI_clamp (by omega)]; exact kk)
theorem xk_last (hexec : p.tables.exec = Jvm.exec) (hb : c.code = cc) (hK : va_K D cl tys s) (hP : va_P D cl ws H) (hD : va_D A ws) (hS : va_S A H0 H locs) (q0 t0 : Nat) {cA : ClassId} {n : Nat} {f : Nat → Int64} (ha : ws[q0]? = some (a, .inl (cA, n, .inr (.inl f)))) (ht : tys[t0]? = some (cA, .long)) {i : Nat} {x : Int64} (hi : i < n) (hn : n < 2 ^ 31) (hdg : decode cc pc = .ok (.lastore, 1))
    (kk : ∀ (H1 : Heap) (locs1 : List Loc), va_P D cl (ws.set q0 (a, .inl (cA, n, .inr (.inl (vp_updL f i x))))) H1 → va_D A (ws.set q0 (a, .inl (cA, n, .inr (.inl (vp_updL f i x))))) → va_S A H0 H1 locs1 → W p l e R s m args below meth c H1 locs1 cells slots Q (F0 m (pc + 1) ls rest)) : W p l e R s m args below meth c H locs cells slots Q (F0 m pc ls (.long x :: .int (nI i) :: .ref a :: rest)) :=
  va_last hexec hb hK hP hD hS q0 t0 ha ht (vp_in_nI hi hn) hdg (by rw [nI_clamp (by omega)]; exact kk)
variable {y : MethodName} {bytes : ByteArray} {maxL nL n index mc ms : Nat} {ret : Option FieldType} {wy : List Cond} {rm : Room} {Ts : List Cond} {own C : String} {b : Nat} {As st0 : List Value} {wc wr : va_W} {tyc : List (ClassId × FieldType)} {E : Int32}
/-- an instance method that only reads: the answer is known -/
theorem xk_roV (S : CallFix p m c cc nL s args Ts own) (hM : Met l y wy rm (va_Pc (.ref b :: As) (fun U => va_P D cl wc U.heap ∧ va_K D cl tyc U)) (vp_Si (fun r => r = E)) 0 0 (fun _ => False)) (cw : CallW R s args own C index y bytes maxL ret wy rm 0 0 n) (hr : ∃ cell : Cell, H[b]? = some cell ∧ cell.vm.isStatics = false ∧ s.vm.findClass C = some cell.cls) (hPc : va_P D cl wc H) (hKc : va_K D cl tyc s) (hn : As.length = n) (hsz : ls.size = nL) (hst : st0 = As.reverse ++ .ref b :: rest) (hroom : (rest.map fun v => v.category).sum ≤ 8) (hdg : decode cc pc = .ok (.invokevirtual index, 3)) (hf : cells ≤ R.cells ∧ slots ≤ R.slots)
    (kk : W p l e R s m args below meth c H locs cells slots Q (F0 m (pc + 3) ls (.int E :: rest))) : W p l e R s m args below meth c H locs cells slots Q (F0 m pc ls st0) := by
  refine vp_callSi (W.runV (rest := rest) (As := As) S hM cw ⟨?_, hr, fun U hU hW => ⟨rfl, by rw [hU]; exact hPc, va_K.moved hW.alike hKc⟩⟩ rfl hn hsz hst (lv_room hroom) hdg hf) (fun r hr => by subst hr; exact kk)
  intro a U g mk q
  obtain ⟨q0, qP, qK⟩ := q
  exact ⟨q0, qP, va_K.moved (u := U) (U := U.calling g mk a) (Vm.Alike.refl U.vm) qK⟩
/-- a static method of numbers alone -/
theorem xk_roS (S : CallFix p m c cc nL s args Ts own) (hM : Met l y wy rm (va_Pc As (fun _ => True)) (vp_Si (fun r => r = E)) 0 0 (fun _ => False)) (cw : CallB R s args own index y bytes maxL ret wy rm 0 0 n ∧ (Cond.static y).before args s = true) (hn : As.length = n) (hsz : ls.size = nL) (hst : st0 = As.reverse ++ rest) (hroom : (rest.map fun v => v.category).sum ≤ 8) (hdg : decode cc pc = .ok (.invokestatic index, 3)) (hf : cells ≤ R.cells ∧ slots ≤ R.slots)
    (kk : W p l e R s m args below meth c H locs cells slots Q (F0 m (pc + 3) ls (.int E :: rest))) : W p l e R s m args below meth c H locs cells slots Q (F0 m pc ls st0) := by
  refine vp_callSi (W.runS (rest := rest) (As := As) S hM cw ⟨fun _ _ _ _ q => q, fun U hU hW => ⟨rfl, trivial⟩⟩ rfl hn hsz hst (lv_room hroom) hdg hf) (fun r hr => by subst hr; exact kk)
/-- what a caller owes a method that writes -/
theorem xk_preV {sz : Nat} (hr : ∃ cell : Cell, H[b]? = some cell ∧ cell.vm.isStatics = false ∧ s.vm.findClass C = some cell.cls) (hsz : H.size = sz) (hPc : va_P D cl wc H) (hKc : va_K D cl tyc s) (hDc : va_D (fun _ => True) wc) : PreV s H C b (va_Pc (.ref b :: As) (fun U => U.heap.size = sz ∧ va_P D cl wc U.heap ∧ va_K D cl tyc U ∧ va_D (fun _ => True) wc)) As := by
  refine ⟨?_, hr, fun U hU hW => ⟨rfl, by rw [hU]; exact hsz, by rw [hU]; exact hPc, va_K.moved hW.alike hKc, hDc⟩⟩
  intro a U g mk q
  obtain ⟨q0, q1, qP, qK, qD⟩ := q
  exact ⟨q0, q1, qP, va_K.moved (u := U) (U := U.calling g mk a) (Vm.Alike.refl U.vm) qK, qD⟩
theorem xk_preS {sz : Nat} (hsz : H.size = sz) (hPc : va_P D cl wc H) (hKc : va_K D cl tyc s) (hDc : va_D (fun _ => True) wc) : PreS s H (va_Pc As (fun U => U.heap.size = sz ∧ va_P D cl wc U.heap ∧ va_K D cl tyc U ∧ va_D (fun _ => True) wc)) As := by
  refine ⟨?_, fun U hU hW => ⟨rfl, by rw [hU]; exact hsz, by rw [hU]; exact hPc, va_K.moved hW.alike hKc, hDc⟩⟩
  intro a U g mk q
  obtain ⟨q0, q1, qP, qK, qD⟩ := q
  exact ⟨q0, q1, qP, va_K.moved (u := U) (U := U.calling g mk a) (Vm.Alike.refl U.vm) qK, qD⟩
/-- behind a method that writes and answers nothing: the caller's world, the callee's cells anew, in the order perm -/
theorem xk_aftv {T : Type} {post : T → Prop} {w1 ws' : T → va_W} {av : Array Value} (hr : va_Run p l e R s m args below meth c H locs cells slots mc ms (F0 m pc ls st0) rest (va_Qv post (fun u t => va_P D cl (w1 u) t.heap ∧ va_D (va_A wc H.size) (w1 u)) (va_A wc H.size) av) (va_A wc H.size)) (hP : va_P D cl ws H) (hD : va_D A ws) (hS : va_S A H0 H locs) (hA : ∀ q, H0.size ≤ q → A q) (isC isR perm : List Nat) (hC : isC.map (fun i => ws[i]?) = wc.map some) (hR : isR.map (fun i => ws[i]?) = wr.map some) (hnR : va_nd isR = true) (hdis : ∀ i ∈ isR, i ∉ isC) (hp : ∀ u, perm.map (fun i => (wr ++ w1 u)[i]?) = (ws' u).map some) (hnp : va_nd perm = true)
    (kk : ∀ (u : T) (H1 : Heap) (locs1 : List Loc), post u → va_P D cl (ws' u) H1 → va_D A (ws' u) → va_S A H0 H1 locs1 → W p l e R s m args below meth c H1 locs1 (cells + mc) (slots + ms) Q (F0 m (pc + 3) ls rest)) : W p l e R s m args below meth c H locs cells slots Q (F0 m pc ls st0) := by
  have hF := va_free (wc := wc) hD hS hA isC hC
  refine va_callv hr hS (fun q _ h => hF q h) hF (fun u t H1 locs1 ht hvm hw hB hz1 hk1 hS1 => ?_)
  obtain ⟨hP1, hD1⟩ := hB
  rw [ht] at hP1
  obtain ⟨g1, g2⟩ := va_join hP hD isC isR hC hR hnR hdis hk1 hF hP1 hD1
  refine kk u H1 locs1 hw ?_ (g2.sub perm hnp (hp u)) hS1
  intro k q hk
  have h1 : (perm.map (fun i => (wr ++ w1 u)[i]?))[k]? = some (some q) := by rw [hp u, List.getElem?_map, hk]; rfl
  rw [List.getElem?_map] at h1
  cases hi : perm[k]? with
  | none => rw [hi] at h1; cases h1
  | some i => rw [hi] at h1; exact g1 i q (Option.some.inj h1)
theorem xk_afti {T : Type} {post : Int32 → T → Prop} {w1 ws' : T → va_W} {av : Array Value} (hr : va_Run p l e R s m args below meth c H locs cells slots mc ms (F0 m pc ls st0) rest (va_Qi post (fun u t => va_P D cl (w1 u) t.heap ∧ va_D (va_A wc H.size) (w1 u)) (va_A wc H.size) av) (va_A wc H.size)) (hP : va_P D cl ws H) (hD : va_D A ws) (hS : va_S A H0 H locs) (hA : ∀ q, H0.size ≤ q → A q) (isC isR perm : List Nat) (hC : isC.map (fun i => ws[i]?) = wc.map some) (hR : isR.map (fun i => ws[i]?) = wr.map some) (hnR : va_nd isR = true) (hdis : ∀ i ∈ isR, i ∉ isC) (hp : ∀ u, perm.map (fun i => (wr ++ w1 u)[i]?) = (ws' u).map some) (hnp : va_nd perm = true)
    (kk : ∀ (r : Int32) (u : T) (H1 : Heap) (locs1 : List Loc), post r u → va_P D cl (ws' u) H1 → va_D A (ws' u) → va_S A H0 H1 locs1 → W p l e R s m args below meth c H1 locs1 (cells + mc) (slots + ms) Q (F0 m (pc + 3) ls (.int r :: rest))) : W p l e R s m args below meth c H locs cells slots Q (F0 m pc ls st0) := by
  have hF := va_free (wc := wc) hD hS hA isC hC
  refine va_calli hr hS (fun q _ h => hF q h) hF (fun r u t H1 locs1 ht hvm hw hB hz1 hk1 hS1 => ?_)
  obtain ⟨hP1, hD1⟩ := hB
  rw [ht] at hP1
  obtain ⟨g1, g2⟩ := va_join hP hD isC isR hC hR hnR hdis hk1 hF hP1 hD1
  refine kk r u H1 locs1 hw ?_ (g2.sub perm hnp (hp u)) hS1
  intro k q hk
  have h1 : (perm.map (fun i => (wr ++ w1 u)[i]?))[k]? = some (some q) := by rw [hp u, List.getElem?_map, hk]; rfl
  rw [List.getElem?_map] at h1
  cases hi : perm[k]? with
  | none => rw [hi] at h1; cases h1
  | some i => rw [hi] at h1; exact g1 i q (Option.some.inj h1)
end XK
end
section
/-! rows over the kit's, 2: branches on natural numbers and on truth values -/
def bI (b : Bool) : Int32 := nI b.toNat
theorem bI_t : bI true = nI 1 := rfl
theorem bI_f : bI false = nI 0 := rfl
theorem bI_nar (b : Bool) : narrow .boolean (.int (bI b)) = .int (bI b) := by cases b <;> rfl
theorem bI_1 {b : Bool} (h : b = true) : nI 1 = bI b := by rw [h]; rfl
theorem bI_0 {b : Bool} (h : b = false) : nI 0 = bI b := by rw [h]; rfl
theorem bI_inj {a b : Bool} (h : bI a = bI b) : a = b := by
  cases a <;> cases b <;> first | rfl | exact absurd h (by decide)
theorem bI_eq0 (b : Bool) : bI b = 0 ↔ b = false := by cases b <;> decide
theorem nI_eq0 {a : Nat} (h : a < 2 ^ 31) : nI a = 0 ↔ a = 0 := by
  rw [← nI_0]; exact nI_eq h (by decide)
/-- an int is negative or a number -/
theorem xk_sgn (x : Int32) : x < 0 ∨ ∃ a : Nat, a < 2 ^ 31 ∧ x = nI a := by
  by_cases h : x < 0
  · exact Or.inl h
  · exact Or.inr (nI_of h)
def nn (x : Int32) : Option Nat := if x < 0 then none else some x.toNatClampNeg
theorem nn_neg {x : Int32} (h : x < 0) : nn x = none := if_pos h
theorem nn_nat {a : Nat} (h : a < 2 ^ 31) : nn (nI a) = some a := by
  unfold nn
  rw [if_neg (nI_pos h), nI_clamp h]
theorem neg_lt {x : Int32} (h : x < 0) {a : Nat} (ha : a < 2 ^ 31) : x < nI a := by
  rw [Int32.lt_iff_toInt_lt] at h ⊢
  rw [nI_toInt ha]
  have : (0 : Int32).toInt = 0 := rfl
  omega
theorem neg_le {x : Int32} (h : x < 0) {a : Nat} (ha : a < 2 ^ 31) : ¬ nI a ≤ x := by
  rw [Int32.lt_iff_toInt_lt] at h
  rw [Int32.le_iff_toInt_le, nI_toInt ha]
  have : (0 : Int32).toInt = 0 := rfl
  omega
theorem neg_ne {x : Int32} (h : x < 0) {a : Nat} (ha : a < 2 ^ 31) : ¬ x = nI a := fun q => by
  rw [q] at h; exact nI_pos ha h
section XB
variable {p : Program} {l : Launch} {e : Env} {R : Room} {s : State} {m : MethodId} {args : Array Value} {below : List Frame} {meth : Method} {c : Code} {H : Heap} {locs : List Loc} {cells slots : Nat} {Q : State → Prop}
variable {cc : ByteArray} {pc tgt : Nat} {off : Int} {ls : Array Slot} {rest : List Value}
theorem xk_icmp_eq (hexec : p.tables.exec = Jvm.exec) (hb : c.code = cc) {a b : Nat} (ha : a < 2 ^ 31) (hb9 : b < 2 ^ 31) (hdg : decode cc pc = .ok (.if_icmp .eq off, 3)) (ht : (pc : Int) + off = (tgt : Int))
    (kt : a = b → W p l e R s m args below meth c H locs cells slots Q (F0 m tgt ls rest)) (kf : ¬ a = b → W p l e R s m args below meth c H locs cells slots Q (F0 m (pc + 3) ls rest)) : W p l e R s m args below meth c H locs cells slots Q (F0 m pc ls (.int (nI b) :: .int (nI a) :: rest)) :=
  lv_icmp_eq hexec hb hdg ht (fun h => kt ((nI_eq ha hb9).mp h)) (fun h => kf (fun q => h ((nI_eq ha hb9).mpr q)))
theorem xk_icmp_ne (hexec : p.tables.exec = Jvm.exec) (hb : c.code = cc) {a b : Nat} (ha : a < 2 ^ 31) (hb9 : b < 2 ^ 31) (hdg : decode cc pc = .ok (.if_icmp .ne off, 3)) (ht : (pc : Int) + off = (tgt : Int))
    (kt : ¬ a = b → W p l e R s m args below meth c H locs cells slots Q (F0 m tgt ls rest)) (kf : a = b → W p l e R s m args below meth c H locs cells slots Q (F0 m (pc + 3) ls rest)) : W p l e R s m args below meth c H locs cells slots Q (F0 m pc ls (.int (nI b) :: .int (nI a) :: rest)) :=
  lv_icmp_ne hexec hb hdg ht (fun h => kt (fun q => h ((nI_eq ha hb9).mpr q))) (fun h => kf ((nI_eq ha hb9).mp h))
theorem xk_icmp_lt (hexec : p.tables.exec = Jvm.exec) (hb : c.code = cc) {a b : Nat} (ha : a < 2 ^ 31) (hb9 : b < 2 ^ 31) (hdg : decode cc pc = .ok (.if_icmp .lt off, 3)) (ht : (pc : Int) + off = (tgt : Int))
    (kt : a < b → W p l e R s m args below meth c H locs cells slots Q (F0 m tgt ls rest)) (kf : b ≤ a → W p l e R s m args below meth c H locs cells slots Q (F0 m (pc + 3) ls rest)) : W p l e R s m args below meth c H locs cells slots Q (F0 m pc ls (.int (nI b) :: .int (nI a) :: rest)) :=
  lv_icmp_lt hexec hb hdg ht (fun h => kt ((nI_ltI ha hb9).mp h)) (fun h => kf (Nat.not_lt.mp (fun q => h ((nI_ltI ha hb9).mpr q))))
theorem xk_icmp_ge (hexec : p.tables.exec = Jvm.exec) (hb : c.code = cc) {a b : Nat} (ha : a < 2 ^ 31) (hb9 : b < 2 ^ 31) (hdg : decode cc pc = .ok (.if_icmp .ge off, 3)) (ht : (pc : Int) + off = (tgt : Int))
    (kt : b ≤ a → W p l e R s m args below meth c H locs cells slots Q (F0 m tgt ls rest)) (kf : a < b → W p l e R s m args below meth c H locs cells slots Q (F0 m (pc + 3) ls rest)) : W p l e R s m args below meth c H locs cells slots Q (F0 m pc ls (.int (nI b) :: .int (nI a) :: rest)) :=
  lv_icmp_ge hexec hb hdg ht (fun h => kt ((nI_leI hb9 ha).mp h)) (fun h => kf (Nat.not_le.mp (fun q => h ((nI_leI hb9 ha).mpr q))))
theorem xk_icmp_gt (hexec : p.tables.exec = Jvm.exec) (hb : c.code = cc) {a b : Nat} (ha : a < 2 ^ 31) (hb9 : b < 2 ^ 31) (hdg : decode cc pc = .ok (.if_icmp .gt off, 3)) (ht : (pc : Int) + off = (tgt : Int))
    (kt : b < a → W p l e R s m args below meth c H locs cells slots Q (F0 m tgt ls rest)) (kf : a ≤ b → W p l e R s m args below meth c H locs cells slots Q (F0 m (pc + 3) ls rest)) : W p l e R s m args below meth c H locs cells slots Q (F0 m pc ls (.int (nI b) :: .int (nI a) :: rest)) :=
  lv_icmp_gt hexec hb hdg ht (fun h => kt ((nI_ltI hb9 ha).mp h)) (fun h => kf (Nat.not_lt.mp (fun q => h ((nI_ltI hb9 ha).mpr q))))
theorem xk_icmp_le (hexec : p.tables.exec = Jvm.exec) (hb : c.code = cc) {a b : Nat} (ha : a < 2 ^ 31) (hb9 : b < 2 ^ 31) (hdg : decode cc pc = .ok (.if_icmp .le off, 3)) (ht : (pc : Int) + off = (tgt : Int))
    (kt : a ≤ b → W p l e R s m args below meth c H locs cells slots Q (F0 m tgt ls rest)) (kf : b < a → W p l e R s m args below meth c H locs cells slots Q (F0 m (pc + 3) ls rest)) : W p l e R s m args below meth c H locs cells slots Q (F0 m pc ls (.int (nI b) :: .int (nI a) :: rest)) :=
  lv_icmp_le hexec hb hdg ht (fun h => kt ((nI_leI ha hb9).mp h)) (fun h => kf (Nat.not_le.mp (fun q => h ((nI_leI ha hb9).mpr q))))
theorem xk_if_eq (hexec : p.tables.exec = Jvm.exec) (hb : c.code = cc) {a : Nat} (ha : a < 2 ^ 31) (hdg : decode cc pc = .ok (.ifCond .eq off, 3)) (ht : (pc : Int) + off = (tgt : Int))
    (kt : a = 0 → W p l e R s m args below meth c H locs cells slots Q (F0 m tgt ls rest)) (kf : 0 < a → W p l e R s m args below meth c H locs cells slots Q (F0 m (pc + 3) ls rest)) : W p l e R s m args below meth c H locs cells slots Q (F0 m pc ls (.int (nI a) :: rest)) :=
  lv_if_eq hexec hb hdg ht (fun h => kt ((nI_eq0 ha).mp h)) (fun h => kf (Nat.pos_of_ne_zero (fun q => h ((nI_eq0 ha).mpr q))))
theorem xk_if_ne (hexec : p.tables.exec = Jvm.exec) (hb : c.code = cc) {a : Nat} (ha : a < 2 ^ 31) (hdg : decode cc pc = .ok (.ifCond .ne off, 3)) (ht : (pc : Int) + off = (tgt : Int))
    (kt : 0 < a → W p l e R s m args below meth c H locs cells slots Q (F0 m tgt ls rest)) (kf : a = 0 → W p l e R s m args below meth c H locs cells slots Q (F0 m (pc + 3) ls rest)) : W p l e R s m args below meth c H locs cells slots Q (F0 m pc ls (.int (nI a) :: rest)) :=
  lv_if_ne hexec hb hdg ht (fun h => kt (Nat.pos_of_ne_zero (fun q => h ((nI_eq0 ha).mpr q)))) (fun h => kf ((nI_eq0 ha).mp h))
theorem xk_if_gt (hexec : p.tables.exec = Jvm.exec) (hb : c.code = cc) {a : Nat} (ha : a < 2 ^ 31) (hdg : decode cc pc = .ok (.ifCond .gt off, 3)) (ht : (pc : Int) + off = (tgt : Int))
    (kt : 0 < a → W p l e R s m args below meth c H locs cells slots Q (F0 m tgt ls rest)) (kf : a = 0 → W p l e R s m args below meth c H locs cells slots Q (F0 m (pc + 3) ls rest)) : W p l e R s m args below meth c H locs cells slots Q (F0 m pc ls (.int (nI a) :: rest)) :=
  lv_if_gt hexec hb hdg ht (fun h => kt (by rw [← nI_0] at h; exact (nI_ltI (by decide) ha).mp h)) (fun h => kf (Nat.eq_zero_of_not_pos (fun q => h (by rw [← nI_0]; exact (nI_ltI (by decide) ha).mpr q))))
theorem xk_if_le (hexec : p.tables.exec = Jvm.exec) (hb : c.code = cc) {a : Nat} (ha : a < 2 ^ 31) (hdg : decode cc pc = .ok (.ifCond .le off, 3)) (ht : (pc : Int) + off = (tgt : Int))
    (kt : a = 0 → W p l e R s m args below meth c H locs cells slots Q (F0 m tgt ls rest)) (kf : 0 < a → W p l e R s m args below meth c H locs cells slots Q (F0 m (pc + 3) ls rest)) : W p l e R s m args below meth c H locs cells slots Q (F0 m pc ls (.int (nI a) :: rest)) :=
  lv_if_le hexec hb hdg ht (fun h => kt (Nat.le_zero.mp (by rw [← nI_0] at h; exact (nI_leI ha (by decide)).mp h))) (fun h => kf (Nat.pos_of_ne_zero (fun q => h (by rw [← nI_0]; exact (nI_leI ha (by decide)).mpr (Nat.le_of_eq q)))))
theorem xk_if_lt (hexec : p.tables.exec = Jvm.exec) (hb : c.code = cc) {a : Nat} (ha : a < 2 ^ 31) (hdg : decode cc pc = .ok (.ifCond .lt off, 3)) (ht : (pc : Int) + off = (tgt : Int))
    (kf : W p l e R s m args below meth c H locs cells slots Q (F0 m (pc + 3) ls rest)) : W p l e R s m args below meth c H locs cells slots Q (F0 m pc ls (.int (nI a) :: rest)) :=
  lv_if_lt hexec hb hdg ht (fun h => absurd h (nI_pos ha)) (fun _ => kf)
theorem xk_if_ge (hexec : p.tables.exec = Jvm.exec) (hb : c.code = cc) {a : Nat} (ha : a < 2 ^ 31) (hdg : decode cc pc = .ok (.ifCond .ge off, 3)) (ht : (pc : Int) + off = (tgt : Int))
    (kt : W p l e R s m args below meth c H locs cells slots Q (F0 m tgt ls rest)) : W p l e R s m args below meth c H locs cells slots Q (F0 m pc ls (.int (nI a) :: rest)) :=
  lv_if_ge hexec hb hdg ht (fun _ => kt) (fun h => absurd (nI_pos' ha) h)
theorem xk_if_eqB (hexec : p.tables.exec = Jvm.exec) (hb : c.code = cc) {b : Bool} (hdg : decode cc pc = .ok (.ifCond .eq off, 3)) (ht : (pc : Int) + off = (tgt : Int))
    (kt : b = false → W p l e R s m args below meth c H locs cells slots Q (F0 m tgt ls rest)) (kf : b = true → W p l e R s m args below meth c H locs cells slots Q (F0 m (pc + 3) ls rest)) : W p l e R s m args below meth c H locs cells slots Q (F0 m pc ls (.int (bI b) :: rest)) :=
  lv_if_eq hexec hb hdg ht (fun h => kt ((bI_eq0 b).mp h)) (fun h => kf (eq_true_of_ne_false (fun q => h ((bI_eq0 b).mpr q))))
theorem xk_if_neB (hexec : p.tables.exec = Jvm.exec) (hb : c.code = cc) {b : Bool} (hdg : decode cc pc = .ok (.ifCond .ne off, 3)) (ht : (pc : Int) + off = (tgt : Int))
    (kt : b = true → W p l e R s m args below meth c H locs cells slots Q (F0 m tgt ls rest)) (kf : b = false → W p l e R s m args below meth c H locs cells slots Q (F0 m (pc + 3) ls rest)) : W p l e R s m args below meth c H locs cells slots Q (F0 m pc ls (.int (bI b) :: rest)) :=
  lv_if_ne hexec hb hdg ht (fun h => kt (eq_true_of_ne_false (fun q => h ((bI_eq0 b).mpr q)))) (fun h => kf ((bI_eq0 b).mp h))
/-- a long against a long: only whether they are the same -/
theorem xk_lcmp0 (hexec : p.tables.exec = Jvm.exec) (hb : c.code = cc) {x y : Int64} {b : Bool} (he : x = y ↔ b = false) (hdg : decode cc pc = .ok (.lcmp, 1)) (hdg2 : decode cc (pc + 1) = .ok (.ifCond .eq off, 3)) (ht : ((pc + 1 : Nat) : Int) + off = (tgt : Int))
    (kt : b = false → W p l e R s m args below meth c H locs cells slots Q (F0 m tgt ls rest)) (kf : b = true → W p l e R s m args below meth c H locs cells slots Q (F0 m (pc + 4) ls rest)) : W p l e R s m args below meth c H locs cells slots Q (F0 m pc ls (.long y :: .long x :: rest)) :=
  W.lcmp hexec hb hdg (lv_if_eq hexec hb hdg2 ht (fun h => kt (he.mp ((lg_cmp_eq x y).mp h))) (fun h => kf (eq_true_of_ne_false (fun q => h ((lg_cmp_eq x y).mpr (he.mpr q))))))
end XB
theorem xk_inc (a : Nat) : nI a + Int32.ofInt 1 = nI (a + 1) := nI_1 a
theorem xk_inc4 (a : Nat) : nI a + Int32.ofInt 4 = nI (a + 4) := nI_add a 4
theorem xk_dec {a : Nat} (h : 0 < a) : nI a + Int32.ofInt (-1) = nI (a - 1) := sb_m1 h
section XZ
variable {p : Program} {l : Launch} {e : Env} {R : Room} {s : State} {m : MethodId} {args : Array Value} {below : List Frame} {meth : Method} {c : Code} {H : Heap} {locs : List Loc} {cells slots : Nat} {Q : State → Prop}
variable {cc : ByteArray} {pc : Nat} {ls : Array Slot} {rest : List Value} {D : va_G} {cl : List vw_C} {A : Nat → Prop} {a : Nat} {tys : List (ClassId × FieldType)} {ws : va_W} {H0 : Heap}
theorem xk_zald (hexec : p.tables.exec = Jvm.exec) (hb : c.code = cc) (hK : va_K D cl tys s) (hP : va_P D cl ws H) (q0 t0 : Nat) {cA : ClassId} {n : Nat} {f : Nat → Int32} (ha : ws[q0]? = some (a, .inl (cA, n, .inl f))) (ht : tys[t0]? = some (cA, .boolean)) {i : Nat} (hi : i < n) (hn : n < 2 ^ 31) (hdg : decode cc pc = .ok (.baload, 1))
    (kk : W p l e R s m args below meth c H locs cells slots Q (F0 m (pc + 1) ls (.int (f i) :: rest))) : W p l e R s m args below meth c H locs cells slots Q (F0 m pc ls (.int (nI i) :: .ref a :: rest)) :=
  va_zald hexec hb hK hP q0 t0 ha ht (vp_in_nI hi hn) hdg (by rw [nI_clamp (by omega)]; exact kk)
theorem bI_vn (z : Bool) : vp_nar .boolean (bI z) = bI z := by cases z <;> rfl
theorem xk_zast (hexec : p.tables.exec = Jvm.exec) (hb : c.code = cc) (hK : va_K D cl tys s) (hP : va_P D cl ws H) (hD : va_D A ws) (hS : va_S A H0 H locs) (q0 t0 : Nat) {cA : ClassId} {n : Nat} {f : Nat → Int32} (ha : ws[q0]? = some (a, .inl (cA, n, .inl f))) (ht : tys[t0]? = some (cA, .boolean)) {i : Nat} {z : Bool} (hi : i < n) (hn : n < 2 ^ 31) (hdg : decode cc pc = .ok (.bastore, 1))
    (kk : ∀ (H1 : Heap) (locs1 : List Loc), va_P D cl (ws.set q0 (a, .inl (cA, n, .inl (upd f i (bI z))))) H1 → va_D A (ws.set q0 (a, .inl (cA, n, .inl (upd f i (bI z))))) → va_S A H0 H1 locs1 → W p l e R s m args below meth c H1 locs1 cells slots Q (F0 m (pc + 1) ls rest)) : W p l e R s m args below meth c H locs cells slots Q (F0 m pc ls (.int (bI z) :: .int (nI i) :: .ref a :: rest)) :=
  va_zast hexec hb hK hP hD hS q0 t0 ha ht (vp_in_nI hi hn) hdg (by rw [nI_clamp (by omega), bI_vn]; exact kk)
end XZ
end
section
/-! the number of bits set, and the JDK's way to count them -/
def pb_c : Nat → Nat → Nat
  | 0, _ => 0
  | n + 1, x => x % 2 + pb_c n (x / 2)
def pb_mk (b : Nat) : Nat → Nat
  | 0 => 0
  | n + 1 => 256 * pb_mk b n + b
def pb_by (f : Nat → Nat) : Nat → Nat → Nat
  | 0, _ => 0
  | n + 1, x => 256 * pb_by f n (x / 256) + f (x % 256)
def pb_a (l : Nat) : Nat := l - ((l / 2) &&& 85)
def pb_b (l : Nat) : Nat := (l &&& 51) + ((l / 4) &&& 51)
def pb_d (l : Nat) : Nat := (l + l / 16) &&& 15
def pb_ok : Nat → Nat → Prop
  | 0, _ => True
  | n + 1, x => (x % 16 ≤ 4 ∧ x / 16 % 16 ≤ 4) ∧ pb_ok n (x / 256)
theorem pb_and (a c : Nat) {b d : Nat} (hb : b < 256) (hd : d < 256) : (256 * a + b) &&& (256 * c + d) = 256 * (a &&& c) + (b &&& d) := by
  have h1 : b &&& d < 2 ^ 8 := Nat.and_lt_two_pow _ hd
  apply Nat.eq_of_testBit_eq
  intro i
  rw [show (256 : Nat) = 2 ^ 8 from rfl, Nat.testBit_and, Nat.testBit_two_pow_mul_add a hb, Nat.testBit_two_pow_mul_add c hd, Nat.testBit_two_pow_mul_add _ h1]
  split <;> simp [Nat.testBit_and]
theorem pb_e1 : ∀ r, r < 2 → ∀ l, l < 256 → ((r * 128 + l / 2) &&& 85) = ((l / 2) &&& 85) ∧ ((l / 2) &&& 85) ≤ l ∧ r * 128 + l / 2 < 256 := by decide +kernel
theorem pb_e2 : ∀ r, r < 4 → ∀ l, l < 256 → ((r * 64 + l / 4) &&& 51) = ((l / 4) &&& 51) := by decide +kernel
theorem pb_e2b : ∀ r, r < 4 → ∀ l, l < 256 → r * 64 + l / 4 < 256 := by omega
theorem pb_e3 : ∀ r, r < 5 → ∀ l, l < 256 → l % 16 ≤ 4 → l / 16 ≤ 4 → ((16 * r + (l + l / 16)) &&& 15) = ((l + l / 16) &&& 15) := by decide +kernel
theorem pb_e4 : ∀ l, l < 256 → pb_a l < 256 ∧ pb_b (pb_a l) < 256 ∧ pb_b (pb_a l) % 16 ≤ 4 ∧ pb_b (pb_a l) / 16 ≤ 4 ∧ pb_d (pb_b (pb_a l)) = pb_c 8 l := by decide +kernel
theorem pb_A : ∀ n x, x < 256 ^ n → x - ((x / 2) &&& pb_mk 85 n) = pb_by pb_a n x := by
  intro n
  induction n with
  | zero => intro x hx; simp at hx; subst hx; rfl
  | succ n ih =>
    intro x hx
    have hd : x = 256 * (x / 256) + x % 256 := (Nat.div_add_mod x 256).symm
    have hl : x % 256 < 256 := Nat.mod_lt _ (by decide)
    have hh : x / 256 < 256 ^ n := by rw [Nat.pow_succ] at hx; omega
    generalize hH : x / 256 = h at *
    generalize hL : x % 256 = l at *
    have h2 : x / 2 = 256 * (h / 2) + (h % 2 * 128 + l / 2) := by omega
    obtain ⟨e1, e2, e3⟩ := pb_e1 (h % 2) (Nat.mod_lt _ (by decide)) l hl
    have i1 := ih h hh
    have i2 : (h / 2) &&& pb_mk 85 n ≤ h / 2 := Nat.and_le_left
    show x - ((x / 2) &&& (256 * pb_mk 85 n + 85)) = 256 * pb_by pb_a n (x / 256) + pb_a (x % 256)
    rw [h2, pb_and _ _ e3 (by decide), e1, hH, hL, ← i1, pb_a]
    omega
theorem pb_B : ∀ n x, x < 256 ^ n → (x &&& pb_mk 51 n) + ((x / 4) &&& pb_mk 51 n) = pb_by pb_b n x := by
  intro n
  induction n with
  | zero => intro x hx; simp at hx; subst hx; rfl
  | succ n ih =>
    intro x hx
    have hd : x = 256 * (x / 256) + x % 256 := (Nat.div_add_mod x 256).symm
    have hl : x % 256 < 256 := Nat.mod_lt _ (by decide)
    have hh : x / 256 < 256 ^ n := by rw [Nat.pow_succ] at hx; omega
    generalize hH : x / 256 = h at *
    generalize hL : x % 256 = l at *
    have h2 : x / 4 = 256 * (h / 4) + (h % 4 * 64 + l / 4) := by omega
    have e1 := pb_e2 (h % 4) (Nat.mod_lt _ (by decide)) l hl
    have e3 := pb_e2b (h % 4) (Nat.mod_lt _ (by decide)) l hl
    have i1 := ih h hh
    show (x &&& (256 * pb_mk 51 n + 51)) + ((x / 4) &&& (256 * pb_mk 51 n + 51)) = 256 * pb_by pb_b n (x / 256) + pb_b (x % 256)
    rw [h2, pb_and _ _ e3 (by decide), e1, hH, hL, ← i1, pb_b]
    rw [hd, pb_and _ _ hl (by decide)]
    omega
theorem pb_C : ∀ n x, x < 256 ^ n → pb_ok n x → ((x + x / 16) &&& pb_mk 15 n) = pb_by pb_d n x := by
  intro n
  induction n with
  | zero => intro x hx _; simp at hx; subst hx; rfl
  | succ n ih =>
    intro x hx ho
    have hd : x = 256 * (x / 256) + x % 256 := (Nat.div_add_mod x 256).symm
    have hl : x % 256 < 256 := Nat.mod_lt _ (by decide)
    have hh : x / 256 < 256 ^ n := by rw [Nat.pow_succ] at hx; omega
    obtain ⟨⟨o1, o2⟩, o3⟩ := ho
    have o4 : x / 256 % 16 ≤ 4 := by
      cases n with
      | zero => simp at hh; omega
      | succ n => exact o3.1.1
    have o5 : x % 256 % 16 ≤ 4 := by omega
    have o6 : x % 256 / 16 ≤ 4 := by omega
    have i1 := ih _ hh o3
    generalize hH : x / 256 = h at *
    generalize hL : x % 256 = l at *
    have h2 : x + x / 16 = 256 * (h + h / 16) + (16 * (h % 16) + (l + l / 16)) := by omega
    have e1 := pb_e3 (h % 16) (by omega) l hl o5 o6
    show ((x + x / 16) &&& (256 * pb_mk 15 n + 15)) = 256 * pb_by pb_d n (x / 256) + pb_d (x % 256)
    rw [h2, pb_and _ _ (by omega) (by decide), e1, hH, hL, ← i1, pb_d]
theorem pb_by_lt {f : Nat → Nat} (hf : ∀ l, l < 256 → f l < 256) : ∀ n x, pb_by f n x < 256 ^ n := by
  intro n
  induction n with
  | zero => intro x; exact Nat.lt_of_lt_of_eq Nat.zero_lt_one rfl
  | succ n ih =>
    intro x
    have h1 := ih (x / 256)
    have h2 := hf (x % 256) (Nat.mod_lt _ (by decide))
    rw [Nat.pow_succ]
    show 256 * pb_by f n (x / 256) + f (x % 256) < 256 ^ n * 256
    omega
theorem pb_by_by {f g : Nat → Nat} (hf : ∀ l, l < 256 → f l < 256) : ∀ n x, pb_by g n (pb_by f n x) = pb_by (fun l => g (f l)) n x := by
  intro n
  induction n with
  | zero => intro x; rfl
  | succ n ih =>
    intro x
    have h2 := hf (x % 256) (Nat.mod_lt _ (by decide))
    show 256 * pb_by g n ((256 * pb_by f n (x / 256) + f (x % 256)) / 256) + g ((256 * pb_by f n (x / 256) + f (x % 256)) % 256) = 256 * pb_by (fun l => g (f l)) n (x / 256) + g (f (x % 256))
    rw [show (256 * pb_by f n (x / 256) + f (x % 256)) / 256 = pb_by f n (x / 256) by omega, show (256 * pb_by f n (x / 256) + f (x % 256)) % 256 = f (x % 256) by omega, ih]
theorem pb_by_ok {f : Nat → Nat} (hf : ∀ l, l < 256 → f l < 256 ∧ f l % 16 ≤ 4 ∧ f l / 16 ≤ 4) : ∀ n x, pb_ok n (pb_by f n x) := by
  intro n
  induction n with
  | zero => intro x; trivial
  | succ n ih =>
    intro x
    obtain ⟨h1, h2, h3⟩ := hf (x % 256) (Nat.mod_lt _ (by decide))
    have e : (256 * pb_by f n (x / 256) + f (x % 256)) / 256 = pb_by f n (x / 256) := by omega
    refine ⟨⟨?_, ?_⟩, ?_⟩
    · show (256 * pb_by f n (x / 256) + f (x % 256)) % 16 ≤ 4
      omega
    · show (256 * pb_by f n (x / 256) + f (x % 256)) / 16 % 16 ≤ 4
      omega
    · show pb_ok n ((256 * pb_by f n (x / 256) + f (x % 256)) / 256)
      rw [e]; exact ih _
theorem pb_by_congr {f g : Nat → Nat} (h : ∀ l, l < 256 → f l = g l) : ∀ n x, pb_by f n x = pb_by g n x := by
  intro n
  induction n with
  | zero => intro x; rfl
  | succ n ih =>
    intro x
    show 256 * pb_by f n (x / 256) + f (x % 256) = 256 * pb_by g n (x / 256) + g (x % 256)
    rw [ih, h _ (Nat.mod_lt _ (by decide))]
/-- the three first steps, over n bytes: each byte comes to hold the number of its bits -/
theorem pb_steps (n x : Nat) (hx : x < 256 ^ n) (y1 y2 y3 : Nat) (h1 : y1 = x - ((x / 2) &&& pb_mk 85 n)) (h2 : y2 = (y1 &&& pb_mk 51 n) + ((y1 / 4) &&& pb_mk 51 n)) (h3 : y3 = ((y2 + y2 / 16) &&& pb_mk 15 n)) : y3 = pb_by (pb_c 8) n x := by
  rw [pb_A n x hx] at h1
  have k1 : ∀ l, l < 256 → pb_a l < 256 := fun l h => (pb_e4 l h).1
  have g1 : y1 < 256 ^ n := by rw [h1]; exact pb_by_lt k1 n x
  rw [pb_B n y1 g1, h1, pb_by_by k1] at h2
  have g2 : y2 < 256 ^ n := by rw [h2]; exact pb_by_lt (fun l h => (pb_e4 l h).2.1) n x
  have g3 : pb_ok n y2 := by rw [h2]; exact pb_by_ok (fun l h => ⟨(pb_e4 l h).2.1, (pb_e4 l h).2.2.1, (pb_e4 l h).2.2.2.1⟩) n x
  rw [pb_C n y2 g2 g3, h2, pb_by_by (f := fun l => pb_b (pb_a l)) (fun l h => (pb_e4 l h).2.1)] at h3
  rw [h3]
  exact pb_by_congr (fun l h => (pb_e4 l h).2.2.2.2) n x
theorem pb_c_le : ∀ n x, pb_c n x ≤ n := by
  intro n
  induction n with
  | zero => intro x; exact Nat.le_refl 0
  | succ n ih => intro x; have := ih (x / 2); show x % 2 + pb_c n (x / 2) ≤ n + 1; omega
theorem pb_c_add : ∀ a b x, pb_c (a + b) x = pb_c a x + pb_c b (x / 2 ^ a) := by
  intro a
  induction a with
  | zero => intro b x; simp [pb_c]
  | succ a ih =>
    intro b x
    rw [show a + 1 + b = (a + b) + 1 by omega]
    show x % 2 + pb_c (a + b) (x / 2) = (x % 2 + pb_c a (x / 2)) + pb_c b (x / 2 ^ (a + 1))
    rw [ih b (x / 2), Nat.div_div_eq_div_mul, show 2 * 2 ^ a = 2 ^ (a + 1) by rw [Nat.pow_succ]; omega]
    omega
theorem pb_c_mod : ∀ n x, pb_c n (x % 2 ^ n) = pb_c n x := by
  intro n
  induction n with
  | zero => intro x; rfl
  | succ n ih =>
    intro x
    show x % 2 ^ (n + 1) % 2 + pb_c n (x % 2 ^ (n + 1) / 2) = x % 2 + pb_c n (x / 2)
    have e1 : x % 2 ^ (n + 1) % 2 = x % 2 := by rw [Nat.pow_succ, Nat.mul_comm]; exact Nat.mod_mul_right_mod x 2 (2 ^ n)
    have e2 : x % 2 ^ (n + 1) / 2 = x / 2 % 2 ^ n := by rw [Nat.pow_succ, Nat.mul_comm]; exact Nat.mod_mul_right_div_self x 2 (2 ^ n)
    rw [e1, e2, ih]
/-- the last steps: the bytes are added up -/
theorem pb_fold (x z1 z2 z3 : Nat) (h1 : z1 = pb_by (pb_c 8) 8 x + pb_by (pb_c 8) 8 x / 256) (h2 : z2 = z1 + z1 / 65536) (h3 : z3 = z2 + z2 / 4294967296) : z3 % 128 = pb_c 64 x ∧ z3 < 18446744073709551616 ∧ z2 < 18446744073709551616 ∧ z1 < 18446744073709551616 := by
  have e : pb_c 64 x = pb_c 8 (x % 256) + (pb_c 8 (x / 256 % 256) + (pb_c 8 (x / 256 / 256 % 256) + (pb_c 8 (x / 256 / 256 / 256 % 256) + (pb_c 8 (x / 256 / 256 / 256 / 256 % 256) + (pb_c 8 (x / 256 / 256 / 256 / 256 / 256 % 256) + (pb_c 8 (x / 256 / 256 / 256 / 256 / 256 / 256 % 256) + pb_c 8 (x / 256 / 256 / 256 / 256 / 256 / 256 / 256 % 256))))))) := by
    rw [show (256 : Nat) = 2 ^ 8 from rfl]
    simp only [pb_c_mod 8]
    rw [show (64 : Nat) = 8 + (8 + (8 + (8 + (8 + (8 + (8 + 8)))))) from rfl]
    simp only [pb_c_add 8]
  have d : pb_by (pb_c 8) 8 x = 256 * (256 * (256 * (256 * (256 * (256 * (256 * (256 * 0 + pb_c 8 (x / 256 / 256 / 256 / 256 / 256 / 256 / 256 % 256)) + pb_c 8 (x / 256 / 256 / 256 / 256 / 256 / 256 % 256)) + pb_c 8 (x / 256 / 256 / 256 / 256 / 256 % 256)) + pb_c 8 (x / 256 / 256 / 256 / 256 % 256)) + pb_c 8 (x / 256 / 256 / 256 % 256)) + pb_c 8 (x / 256 / 256 % 256)) + pb_c 8 (x / 256 % 256)) + pb_c 8 (x % 256) := rfl
  rw [e]
  rw [d] at h1
  clear d e
  have b0 := pb_c_le 8 (x % 256)
  have b1 := pb_c_le 8 (x / 256 % 256)
  have b2 := pb_c_le 8 (x / 256 / 256 % 256)
  have b3 := pb_c_le 8 (x / 256 / 256 / 256 % 256)
  have b4 := pb_c_le 8 (x / 256 / 256 / 256 / 256 % 256)
  have b5 := pb_c_le 8 (x / 256 / 256 / 256 / 256 / 256 % 256)
  have b6 := pb_c_le 8 (x / 256 / 256 / 256 / 256 / 256 / 256 % 256)
  have b7 := pb_c_le 8 (x / 256 / 256 / 256 / 256 / 256 / 256 / 256 % 256)
  generalize pb_c 8 (x % 256) = c0 at *
  generalize pb_c 8 (x / 256 % 256) = c1 at *
  generalize pb_c 8 (x / 256 / 256 % 256) = c2 at *
  generalize pb_c 8 (x / 256 / 256 / 256 % 256) = c3 at *
  generalize pb_c 8 (x / 256 / 256 / 256 / 256 % 256) = c4 at *
  generalize pb_c 8 (x / 256 / 256 / 256 / 256 / 256 % 256) = c5 at *
  generalize pb_c 8 (x / 256 / 256 / 256 / 256 / 256 / 256 % 256) = c6 at *
  generalize pb_c 8 (x / 256 / 256 / 256 / 256 / 256 / 256 / 256 % 256) = c7 at *
  have f1 : z1 = 72057594037927936 * c7 + 281474976710656 * (c6 + c7) + 1099511627776 * (c5 + c6) + 4294967296 * (c4 + c5) + 16777216 * (c3 + c4) + 65536 * (c2 + c3) + 256 * (c1 + c2) + (c0 + c1) := by omega
  have f2 : z2 = 72057594037927936 * c7 + 281474976710656 * (c6 + c7) + 1099511627776 * (c5 + c6 + c7) + 4294967296 * (c4 + c5 + c6 + c7) + 16777216 * (c3 + c4 + c5 + c6) + 65536 * (c2 + c3 + c4 + c5) + 256 * (c1 + c2 + c3 + c4) + (c0 + c1 + c2 + c3) := by omega
  clear h1 h2
  have f3 : z2 / 4294967296 = 16777216 * c7 + 65536 * (c6 + c7) + 256 * (c5 + c6 + c7) + (c4 + c5 + c6 + c7) := by clear f1 h3; omega
  rw [f3] at h3
  have f5 : z3 = 256 * (281474976710656 * c7 + 1099511627776 * (c6 + c7) + 4294967296 * (c5 + c6 + c7) + 16777216 * (c4 + c5 + c6 + c7) + 65536 * (c3 + c4 + c5 + c6 + c7) + 256 * (c2 + c3 + c4 + c5 + c6 + c7) + (c1 + c2 + c3 + c4 + c5 + c6 + c7)) + (c0 + (c1 + (c2 + (c3 + (c4 + (c5 + (c6 + c7))))))) := by clear f1 f3; omega
  refine ⟨?_, ?_, ?_, ?_⟩
  · generalize 281474976710656 * c7 + 1099511627776 * (c6 + c7) + 4294967296 * (c5 + c6 + c7) + 16777216 * (c4 + c5 + c6 + c7) + 65536 * (c3 + c4 + c5 + c6 + c7) + 256 * (c2 + c3 + c4 + c5 + c6 + c7) + (c1 + c2 + c3 + c4 + c5 + c6 + c7) = K at f5
    clear f1 f2 f3 h3
    omega
  · clear f1 f2 f3 h3
    omega
  · clear f1 f3 f5 h3
    omega
  · clear f2 f3 f5 h3
    omega
end
section
/-! counting -/
def cn (b : Nat → Bool) : Nat → Nat
  | 0 => 0
  | k + 1 => cn b k + (b k).toNat
theorem cn_s (b : Nat → Bool) (k : Nat) : cn b (k + 1) = cn b k + (b k).toNat := rfl
theorem cn_t {b : Nat → Bool} {k : Nat} (h : b k = true) : cn b (k + 1) = cn b k + 1 := by rw [cn_s, h]; rfl
theorem cn_f {b : Nat → Bool} {k : Nat} (h : b k = false) : cn b (k + 1) = cn b k := by rw [cn_s, h]; rfl
theorem cn_le (b : Nat → Bool) : ∀ k, cn b k ≤ k := by
  intro k
  induction k with
  | zero => exact Nat.le_refl 0
  | succ k ih => rw [cn_s]; have : (b k).toNat ≤ 1 := Bool.toNat_le (b k); omega
theorem cn_congr {b b' : Nat → Bool} : ∀ {k : Nat}, (∀ i, i < k → b i = b' i) → cn b k = cn b' k := by
  intro k
  induction k with
  | zero => intro _; rfl
  | succ k ih => intro h; rw [cn_s, cn_s, ih (fun i hi => h i (by omega)), h k (by omega)]
theorem cn_mono (b : Nat → Bool) {i j : Nat} (h : i ≤ j) : cn b i ≤ cn b j := by
  induction j with
  | zero => rw [show i = 0 by omega]; exact Nat.le_refl _
  | succ j ih =>
    rcases Nat.lt_or_ge j i with q | q
    · rw [show i = j + 1 by omega]; exact Nat.le_refl _
    · have := ih q; rw [cn_s]; omega
theorem cn_gap (b : Nat → Bool) {i j : Nat} (h : i ≤ j) : cn b j ≤ cn b i + (j - i) := by
  induction j with
  | zero => rw [show i = 0 by omega]; omega
  | succ j ih =>
    rcases Nat.lt_or_ge j i with q | q
    · rw [show i = j + 1 by omega]; omega
    · have := ih q; rw [cn_s]; have : (b j).toNat ≤ 1 := Bool.toNat_le (b j); omega
theorem cn_0 {b : Nat → Bool} : ∀ {k : Nat}, (∀ i, i < k → b i = false) → cn b k = 0 := by
  intro k
  induction k with
  | zero => intro _; rfl
  | succ k ih => intro h; rw [cn_f (h k (by omega)), ih (fun i hi => h i (by omega))]
/-- a new member -/
theorem cn_add {b b' : Nat → Bool} {a : Nat} (ha : b a = false) (h' : ∀ i, b' i = (b i || decide (i = a))) : ∀ {k : Nat}, cn b' k = cn b k + (if a < k then 1 else 0) := by
  intro k
  induction k with
  | zero => rfl
  | succ k ih =>
    rw [cn_s, cn_s, ih, h' k]
    by_cases hk : k = a
    · subst hk
      simp [ha]
    · by_cases h2 : a < k
      · simp [hk, h2, show a < k + 1 by omega]
        omega
      · simp [hk, h2, show ¬ a < k + 1 by omega]
theorem cn_lt {b : Nat → Bool} {a k : Nat} (ha : a < k) (h : b a = false) : cn b k < k := by
  have h1 := cn_add (b := b) (b' := fun i => b i || decide (i = a)) h (fun _ => rfl) (k := k)
  have h2 := cn_le (fun i => b i || decide (i = a)) k
  rw [if_pos ha] at h1
  omega
theorem cn_lt2 {b : Nat → Bool} {a0 a k : Nat} (h0 : a0 < k) (hb0 : b a0 = false) (ha : a < k) (h : b a = false) (hne : a ≠ a0) : cn b k + 1 < k := by
  have h1 := cn_add (b := b) (b' := fun i => b i || decide (i = a)) h (fun _ => rfl) (k := k)
  have h2 := cn_lt (b := fun i => b i || decide (i = a)) h0 (by simp [hb0, Ne.symm hne])
  rw [if_pos ha] at h1
  omega
/-- all of a stretch -/
theorem cn_run {b : Nat → Bool} {i : Nat} : ∀ {d : Nat}, (∀ j, i ≤ j → j < i + d → b j = true) → cn b (i + d) = cn b i + d := by
  intro d
  induction d with
  | zero => intro _; rfl
  | succ d ih =>
    intro h
    rw [show i + (d + 1) = (i + d) + 1 by omega, cn_t (h (i + d) (by omega) (by omega)), ih (fun j h1 h2 => h j h1 (by omega))]
    omega
theorem cn_gap0 {b : Nat → Bool} {i : Nat} : ∀ {d : Nat}, (∀ j, i ≤ j → j < i + d → b j = false) → cn b (i + d) = cn b i := by
  intro d
  induction d with
  | zero => intro _; rfl
  | succ d ih =>
    intro h
    rw [show i + (d + 1) = (i + d) + 1 by omega, cn_f (h (i + d) (by omega) (by omega)), ih (fun j h1 h2 => h j h1 (by omega))]
/-- members have their own numbers -/
theorem cn_inj {b : Nat → Bool} {i j : Nat} (hi : b i = true) (hj : b j = true) (h : cn b i = cn b j) : i = j := by
  rcases Nat.lt_trichotomy i j with q | q | q
  · have h1 := cn_mono b (show i + 1 ≤ j by omega)
    rw [cn_t hi] at h1
    omega
  · exact q
  · have h1 := cn_mono b (show j + 1 ≤ i by omega)
    rw [cn_t hj] at h1
    omega
theorem cn_lt_of {b : Nat → Bool} {i j : Nat} (hi : b i = true) (h : i < j) : cn b i < cn b j := by
  have h1 := cn_mono b (show i + 1 ≤ j by omega)
  rw [cn_t hi] at h1
  omega
/-- each number below the count has its member -/
theorem cn_sur {b : Nat → Bool} : ∀ {k t : Nat}, t < cn b k → ∃ i, i < k ∧ b i = true ∧ cn b i = t := by
  intro k
  induction k with
  | zero => intro t h; exact absurd h (Nat.not_lt_zero t)
  | succ k ih =>
    intro t h
    by_cases hb : b k = true
    · rw [cn_t hb] at h
      by_cases ht : t = cn b k
      · exact ⟨k, by omega, hb, ht.symm⟩
      · obtain ⟨i, h1, h2, h3⟩ := ih (show t < cn b k by omega)
        exact ⟨i, by omega, h2, h3⟩
    · rw [cn_f (by simpa using hb)] at h
      obtain ⟨i, h1, h2, h3⟩ := ih h
      exact ⟨i, by omega, h2, h3⟩
end
section
/-! ===== Int64 as a set of bits: test, set, clear ===== -/
theorem ts_nf {x : Bool} (h : ¬ x = false) : x = true := by cases x <;> first | rfl | exact absurd rfl h
theorem ts_nt {x : Bool} (h : ¬ x = true) : x = false := by cases x <;> first | rfl | exact absurd rfl h
theorem ts_bit {w : Int64} {s : UInt64} {j : Nat} (hj : j < 64) (hs : s.toNat = j) : ((w.toUInt64 >>> s).toInt64 &&& 1) = 0 ↔ w.toBitVec.getLsbD j = false := by
  have e : (w.toUInt64 >>> s).toInt64.toBitVec = w.toBitVec >>> j := by
    apply BitVec.eq_of_toNat_eq
    show (w.toUInt64 >>> s).toNat = _
    rw [UInt64.toNat_shiftRight, hs, Nat.mod_eq_of_lt hj, BitVec.toNat_ushiftRight]
    rfl
  rw [← Int64.toBitVec_inj, Int64.toBitVec_and, e]
  show w.toBitVec >>> j &&& 1#64 = 0#64 ↔ _
  constructor
  · intro h
    have t := congrArg (fun x => x.getLsbD 0) h
    simpa using t
  · intro h
    apply BitVec.eq_of_getLsbD_eq
    intro i hi
    cases i with
    | zero => simp [h]
    | succ i => simp
/-! ===== lN n to 2^64: shifts, and, or, masks, one bit ===== -/
theorem wb_tb (n : Nat) : (lN n).toBitVec = BitVec.ofNat 64 n := rfl
theorem wb_inj {a b : Int64} (h : a.toBitVec = b.toBitVec) : a = b := Int64.toBitVec_inj.mp h
theorem wb_tn {n : Nat} (h : n < 2 ^ 64) : (lN n).toBitVec.toNat = n := by rw [wb_tb, BitVec.toNat_ofNat, Nat.mod_eq_of_lt h]
theorem wb_of (x : Int64) : ∃ n, n < 2 ^ 64 ∧ x = lN n := ⟨x.toBitVec.toNat, x.toBitVec.isLt, wb_inj (by rw [wb_tb]; simp)⟩
theorem wb_of32 (x : Int32) : ∃ n, n < 2 ^ 32 ∧ x = nI n := ⟨x.toBitVec.toNat, x.toBitVec.isLt, Int32.toBitVec_inj.mp (by show _ = BitVec.ofNat 32 _; simp)⟩
theorem wb_c : ∀ k, k < 64 → ((nI k).toInt64 &&& 63) = lN k := by decide +kernel
theorem wb_cu : ∀ k, k < 64 → ((nI k).toInt64.toUInt64 &&& Int64.toUInt64 63) = UInt64.ofNat k := by decide +kernel
theorem wb_sm : ∀ k, k < 64 → (BitVec.ofNat 64 k).smod 64 = BitVec.ofNat 64 k := by decide +kernel
theorem wb_pw {a b : Nat} (h : a ≤ b) : 2 ^ b = 2 ^ a * 2 ^ (b - a) := by rw [← Nat.pow_add]; congr 1; omega
theorem wb_lt2 {a b : Nat} (h : a < b) : 2 ^ a < 2 ^ b := Nat.pow_lt_pow_right (by decide) h
theorem wb_mod (n : Nat) : lN n = lN (n % 2 ^ 64) := wb_inj (by rw [wb_tb, wb_tb]; apply BitVec.eq_of_toNat_eq; rw [BitVec.toNat_ofNat, BitVec.toNat_ofNat, Nat.mod_mod])
theorem wb_shr {n k : Nat} (hn : n < 2 ^ 64) (hk : k < 64) : ((lN n).toUInt64 >>> ((nI k).toInt64.toUInt64 &&& Int64.toUInt64 63)).toInt64 = lN (n / 2 ^ k) := by
  rw [wb_cu k hk]
  apply wb_inj
  apply BitVec.eq_of_toNat_eq
  show ((lN n).toUInt64 >>> UInt64.ofNat k).toNat = (BitVec.ofNat 64 _).toNat
  have h1 : (UInt64.ofNat k).toNat = k := by
    show (BitVec.ofNat 64 k).toNat = k
    rw [BitVec.toNat_ofNat, Nat.mod_eq_of_lt (by omega)]
  have h2 : (lN n).toUInt64.toNat = n := wb_tn hn
  rw [UInt64.toNat_shiftRight, h1, h2, Nat.mod_eq_of_lt hk, Nat.shiftRight_eq_div_pow, BitVec.toNat_ofNat, Nat.mod_eq_of_lt (Nat.lt_of_le_of_lt (Nat.div_le_self _ _) hn)]
theorem wb_shl (n : Nat) {k : Nat} (hk : k < 64) : lN n <<< ((nI k).toInt64 &&& 63) = lN (n * 2 ^ k) := by
  rw [wb_c k hk]
  apply wb_inj
  rw [Int64.toBitVec_shiftLeft, wb_tb, wb_tb, wb_tb, wb_sm k hk]
  apply BitVec.eq_of_toNat_eq
  rw [BitVec.shiftLeft_eq', BitVec.toNat_shiftLeft, BitVec.toNat_ofNat, BitVec.toNat_ofNat, BitVec.toNat_ofNat, Nat.mod_eq_of_lt (show k < 2 ^ 64 by omega), Nat.shiftLeft_eq, Nat.mul_mod, Nat.mod_mod, ← Nat.mul_mod]
theorem wb_and {a b : Nat} (ha : a < 2 ^ 64) (hb : b < 2 ^ 64) : lN a &&& lN b = lN (a &&& b) := by
  apply wb_inj
  rw [Int64.toBitVec_and, wb_tb, wb_tb, wb_tb]
  apply BitVec.eq_of_toNat_eq
  rw [BitVec.toNat_and, BitVec.toNat_ofNat, BitVec.toNat_ofNat, BitVec.toNat_ofNat, Nat.mod_eq_of_lt ha, Nat.mod_eq_of_lt hb, Nat.mod_eq_of_lt (Nat.and_lt_two_pow _ hb)]
theorem wb_or {a b : Nat} (ha : a < 2 ^ 64) (hb : b < 2 ^ 64) : lN a ||| lN b = lN (a ||| b) := by
  apply wb_inj
  rw [Int64.toBitVec_or, wb_tb, wb_tb, wb_tb]
  apply BitVec.eq_of_toNat_eq
  rw [BitVec.toNat_or, BitVec.toNat_ofNat, BitVec.toNat_ofNat, BitVec.toNat_ofNat, Nat.mod_eq_of_lt ha, Nat.mod_eq_of_lt hb, Nat.mod_eq_of_lt (Nat.or_lt_two_pow ha hb)]
theorem wb_mask {n k : Nat} (hn : n < 2 ^ 64) (hk : k < 64) : lN n &&& lN (2 ^ k - 1) = lN (n % 2 ^ k) := by
  rw [wb_and hn (by have := wb_lt2 hk; omega), Nat.and_two_pow_sub_one_eq_mod]
theorem wb_a1 {n : Nat} (hn : n < 2 ^ 64) : lN n &&& 1 = lN (n % 2) := wb_mask (k := 1) hn (by decide)
theorem wb_bit {n k : Nat} (hn : n < 2 ^ 64) (hk : k < 64) : ((lN n).toUInt64 >>> ((nI k).toInt64.toUInt64 &&& Int64.toUInt64 63)).toInt64 &&& 1 = lN (n / 2 ^ k % 2) := by
  rw [wb_shr hn hk, wb_a1 (Nat.lt_of_le_of_lt (Nat.div_le_self _ _) hn)]
theorem wb_xor {q k : Nat} (hk : k < 63) (h : 2 ^ k ≤ q) (h2 : q < 2 ^ (k + 1)) : lN q ^^^ lN (2 ^ k) = lN (q - 2 ^ k) := by
  obtain ⟨r, rfl⟩ : ∃ r, q = 2 ^ k + r := ⟨q - 2 ^ k, by omega⟩
  have hr : r < 2 ^ k := by rw [Nat.pow_succ] at h2; omega
  have hx : (2 ^ k + r) ^^^ 2 ^ k = r := by
    apply Nat.eq_of_testBit_eq
    intro i
    rw [Nat.testBit_xor, Nat.testBit_two_pow]
    rcases Nat.lt_trichotomy i k with h | h | h
    · rw [Nat.testBit_two_pow_add_gt h]
      simp [show ¬ k = i by omega]
    · subst h
      rw [Nat.testBit_two_pow_add_eq]
      simp
    · have a1 : 2 ^ (k + 1) ≤ 2 ^ i := Nat.pow_le_pow_right (by decide) h
      rw [Nat.testBit_lt_two_pow (show 2 ^ k + r < 2 ^ i by omega), Nat.testBit_lt_two_pow (show r < 2 ^ i by omega)]
      simp [show ¬ k = i by omega]
  have b1 := wb_lt2 (show k + 1 < 64 by omega)
  have b2 := wb_lt2 (show k < 64 by omega)
  apply wb_inj
  rw [Int64.toBitVec_xor, wb_tb, wb_tb, wb_tb]
  apply BitVec.eq_of_toNat_eq
  rw [BitVec.toNat_xor, BitVec.toNat_ofNat, BitVec.toNat_ofNat, BitVec.toNat_ofNat, Nat.mod_eq_of_lt (by omega : 2 ^ k + r < 2 ^ 64), Nat.mod_eq_of_lt b2, hx, Nat.add_sub_cancel_left, Nat.mod_eq_of_lt (by omega)]
/-! ===== Int64 as an unsigned number: uN x ===== -/
def uN (x : Int64) : Nat := x.toUInt64.toNat
theorem uN_lt (x : Int64) : uN x < 18446744073709551616 := x.toUInt64.toNat_lt
theorem uN_inj {x y : Int64} (h : uN x = uN y) : x = y := congrArg UInt64.toInt64 (UInt64.toNat_inj.mp h)
theorem uN_add (x y : Int64) : uN (x + y) = (uN x + uN y) % 18446744073709551616 := by
  show (x.toUInt64 + y.toUInt64).toNat = _
  exact UInt64.toNat_add _ _
theorem uN_mul (x y : Int64) : uN (x * y) = (uN x * uN y) % 18446744073709551616 := by
  show (x.toUInt64 * y.toUInt64).toNat = _
  exact UInt64.toNat_mul _ _
theorem uN_shl (x : Int64) : uN (x <<< ((1 : Int32).toInt64 &&& 63)) = (2 * uN x) % 18446744073709551616 := by
  have h : (((1 : Int32).toInt64 &&& 63).toBitVec.smod 64).toNat = 1 := by decide
  show (x.toBitVec <<< (((1 : Int32).toInt64 &&& 63).toBitVec.smod 64).toNat).toNat = _
  rw [h, BitVec.toNat_shiftLeft, Nat.shiftLeft_eq, Nat.mul_comm]
  rfl
theorem uN_shr (x : Int64) (s : UInt64) : uN (x.toUInt64 >>> s).toInt64 = uN x / 2 ^ (s.toNat % 64) := by
  show (x.toUInt64 >>> s).toNat = _
  rw [UInt64.toNat_shiftRight, Nat.shiftRight_eq_div_pow]
  rfl
theorem uN_s32 (x : Int64) : uN (x.toUInt64 >>> ((32 : Int32).toInt64.toUInt64 &&& Int64.toUInt64 63)).toInt64 = uN x / 4294967296 := by
  have h : ((32 : Int32).toInt64.toUInt64 &&& Int64.toUInt64 63).toNat % 64 = 32 := by decide
  rw [uN_shr, h]
theorem uN_s63 (x : Int64) : uN (x.toUInt64 >>> ((63 : Int32).toInt64.toUInt64 &&& Int64.toUInt64 63)).toInt64 = uN x / 9223372036854775808 := by
  have h : ((63 : Int32).toInt64.toUInt64 &&& Int64.toUInt64 63).toNat % 64 = 63 := by decide
  rw [uN_shr, h]
theorem uN_lo (x : Int64) : uN (x &&& 4294967295) = uN x % 4294967296 := by
  show (x.toUInt64 &&& Int64.toUInt64 4294967295).toNat = _
  rw [UInt64.toNat_and]
  exact Nat.and_two_pow_sub_one_eq_mod _ 32
end
section
/-! rows of bits, 64 to a long -/
def bo (w : Nat → Int64) (i : Nat) : Bool := (w (i / 64)).toBitVec.getLsbD (i % 64)
def bput (w : Nat → Int64) (i : Nat) : Nat → Int64 := vp_updL w (i / 64) (w (i / 64) ||| lN (2 ^ (i % 64)))
theorem bo_lN (k j : Nat) (hk : k < 64) : (lN (2 ^ k)).toBitVec.getLsbD j = decide (j = k) := by
  rw [wb_tb, BitVec.getLsbD_ofNat, Nat.testBit_two_pow]
  by_cases h : j = k
  · subst h; simp [hk]
  · simp [h, Ne.symm h]
theorem bo_put (w : Nat → Int64) (i j : Nat) : bo (bput w i) j = (bo w j || decide (j = i)) := by
  unfold bo bput vp_updL
  by_cases h : j / 64 = i / 64
  · rw [if_pos h, Int64.toBitVec_or, BitVec.getLsbD_or, bo_lN _ _ (Nat.mod_lt _ (by decide)), h]
    congr 1
    rw [decide_eq_decide]
    omega
  · rw [if_neg h, show decide (j = i) = false from decide_eq_false (fun q => h (by rw [q])), Bool.or_false]
theorem bo_0 (j : Nat) : bo (fun _ => 0) j = false := by
  unfold bo
  show (0#64).getLsbD _ = false
  simp
theorem bo_c0 {w : Nat → Int64} {i : Nat} (h : w (i / 64) = 0) : bo w i = false := by
  unfold bo
  rw [h]
  show (0#64).getLsbD _ = false
  simp
theorem bo_has (w : Int64) (k : Nat) (hk : k < 64) : ((w.toUInt64 >>> ((nI k).toInt64.toUInt64 &&& Int64.toUInt64 63)).toInt64 &&& 1) = 0 ↔ w.toBitVec.getLsbD k = false := by
  refine ts_bit hk ?_
  rw [wb_cu k hk]
  show (BitVec.ofNat 64 k).toNat = k
  rw [BitVec.toNat_ofNat, Nat.mod_eq_of_lt (by omega)]
theorem bo_bit (k : Nat) (hk : k < 64) : (1 : Int64) <<< ((nI k).toInt64 &&& 63) = lN (2 ^ k) := by
  have h := wb_shl 1 hk
  rw [Nat.one_mul] at h
  exact h
theorem pb_cn : ∀ n x, pb_c n x = cn (fun j => x.testBit j) n := by
  intro n
  induction n with
  | zero => intro x; rfl
  | succ n ih =>
    intro x
    rw [pb_c_add n 1, cn_s, ih, Nat.toNat_testBit]
    show _ + (x / 2 ^ n % 2 + 0) = _
    omega
theorem cn_win {b : Nat → Bool} {f t : Nat} (h : f ≤ t) : ∀ N, cn (fun j => (b j && decide (f ≤ j)) && decide (j < t)) N = cn b (min N t) - cn b (min N f) := by
  intro N
  induction N with
  | zero => simp [cn]
  | succ N ih =>
    rw [cn_s, ih]
    rcases Nat.lt_or_ge N f with h1 | h1
    · rw [show min N t = N by omega, show min N f = N by omega, show min (N + 1) t = N + 1 by omega, show min (N + 1) f = N + 1 by omega]
      simp [show ¬ f ≤ N by omega]
    · rcases Nat.lt_or_ge N t with h2 | h2
      · rw [show min N t = N by omega, show min N f = f by omega, show min (N + 1) t = N + 1 by omega, show min (N + 1) f = f by omega, cn_s]
        have h3 := cn_mono b h1
        simp [h1, h2]
        omega
      · rw [show min N t = t by omega, show min N f = f by omega, show min (N + 1) t = t by omega, show min (N + 1) f = f by omega]
        simp [show ¬ N < t by omega]
theorem cn_shift (b : Nat → Bool) (a : Nat) : ∀ k, cn b (a + k) = cn b a + cn (fun j => b (a + j)) k := by
  intro k
  induction k with
  | zero => rfl
  | succ k ih => rw [show a + (k + 1) = (a + k) + 1 by omega, cn_s, cn_s, ih]; omega
/-- the masked word's bits -/
theorem bo_mask (w : Int64) (f t j : Nat) (hf : f < 64) (ht : t < 64) (hj : j < 64) : ((w &&& ((-1 : Int64) <<< ((nI f).toInt64 &&& 63))) &&& ((1 : Int64) <<< ((nI t).toInt64 &&& 63) - 1)).toBitVec.getLsbD j = ((w.toBitVec.getLsbD j && decide (f ≤ j)) && decide (j < t)) := by
  have e1 : (1 : Int64) <<< ((nI t).toInt64 &&& 63) - 1 = lN (2 ^ t - 1) := by
    rw [bo_bit t ht]
    exact lN_sub (a := 2 ^ t) (b := 1) Nat.one_le_two_pow
  rw [e1, wb_c f hf, Int64.toBitVec_and, Int64.toBitVec_and, BitVec.getLsbD_and, BitVec.getLsbD_and, Int64.toBitVec_shiftLeft, wb_tb, wb_tb, wb_sm f hf]
  have e2 : (-1 : Int64).toBitVec = BitVec.allOnes 64 := by decide
  rw [e2, BitVec.getLsbD_ofNat, Nat.testBit_two_pow_sub_one, BitVec.shiftLeft_eq', BitVec.getLsbD_shiftLeft, BitVec.getLsbD_allOnes, BitVec.toNat_ofNat, Nat.mod_eq_of_lt (show f < 2 ^ 64 by omega)]
  by_cases h : j < f
  · simp [hj, h, show ¬ f ≤ j by omega]
  · simp [hj, h, show f ≤ j by omega, show j - f < 64 by omega]
/-- how many bits are set in from .. to - 1, both in one long -/
theorem bo_between (w : Nat → Int64) (a b : Nat) (hab : a ≤ b) (hq : a / 64 = b / 64) : pb_c 64 (uN ((w (b / 64) &&& ((-1 : Int64) <<< ((nI (a % 64)).toInt64 &&& 63))) &&& ((1 : Int64) <<< ((nI (b % 64)).toInt64 &&& 63) - 1))) = cn (bo w) b - cn (bo w) a := by
  have hf : a % 64 < 64 := Nat.mod_lt _ (by decide)
  have ht : b % 64 < 64 := Nat.mod_lt _ (by decide)
  rw [pb_cn]
  have e1 : cn (fun j => (uN ((w (b / 64) &&& ((-1 : Int64) <<< ((nI (a % 64)).toInt64 &&& 63))) &&& ((1 : Int64) <<< ((nI (b % 64)).toInt64 &&& 63) - 1))).testBit j) 64 = cn (fun j => ((w (b / 64)).toBitVec.getLsbD j && decide (a % 64 ≤ j)) && decide (j < b % 64)) 64 :=
    cn_congr (fun j hj => bo_mask (w (b / 64)) (a % 64) (b % 64) j hf ht hj)
  rw [e1, cn_win (by omega), show min 64 (b % 64) = b % 64 by omega, show min 64 (a % 64) = a % 64 by omega]
  have e2 : ∀ k, k ≤ 64 → cn (bo w) (64 * (b / 64) + k) = cn (bo w) (64 * (b / 64)) + cn (w (b / 64)).toBitVec.getLsbD k := by
    intro k hk
    rw [cn_shift]
    congr 1
    refine cn_congr (fun j hj => ?_)
    unfold bo
    rw [show (64 * (b / 64) + j) / 64 = b / 64 by omega, show (64 * (b / 64) + j) % 64 = j by omega]
  have e3 := e2 (b % 64) (by omega)
  have e4 := e2 (a % 64) (by omega)
  rw [show 64 * (b / 64) + b % 64 = b by omega] at e3
  rw [show 64 * (b / 64) + a % 64 = a by omega] at e4
  omega
end
section
/-! the JDK's methods and the rows of bits: contracts -/
theorem in_X0_init_X0 : ∀ w ∈ wsX00, w ∈ wsX0_init := by decide +kernel
theorem in_X0_has_X0 : ∀ w ∈ wsX00, w ∈ wsX0_has := by decide +kernel
theorem in_X0_put_X0 : ∀ w ∈ wsX00, w ∈ wsX0_put := by decide +kernel
theorem in_X0_clear_X0 : ∀ w ∈ wsX00, w ∈ wsX0_clear := by decide +kernel
theorem in_X0_between_X0 : ∀ w ∈ wsX00, w ∈ wsX0_between := by decide +kernel
theorem jb_and (z : Nat) : nI z &&& nI 127 = nI (z % 128) := by
  rw [pk_and (nI z) 7 (by decide)]
  congr 1
  show (BitVec.ofNat 32 z).toNat % 128 = z % 128
  rw [BitVec.toNat_ofNat]
  omega
theorem jb_k1 : (6148914691236517205 : Int64) = lN (pb_mk 85 8) := by decide +kernel
theorem jb_k2 : (3689348814741910323 : Int64) = lN (pb_mk 51 8) := by decide +kernel
theorem jb_k3 : (1085102592571150095 : Int64) = lN (pb_mk 15 8) := by decide +kernel
theorem jb_m2 : pb_mk 51 8 = 3689348814741910323 := by decide +kernel
theorem jb_m1 : pb_mk 85 8 = 6148914691236517205 := by decide +kernel
theorem jb_m3 : pb_mk 15 8 = 1085102592571150095 := by decide +kernel
theorem fl_J {f : Nat → Int64} {i : Nat} {v : Int64} (h : ∀ j, j < i → f j = v) : ∀ j, j < i + 1 → vp_updL f i v j = v := fun j hj => by
  by_cases q : j = i
  · rw [q]; exact pk_uLs
  · rw [pk_uLn q]; exact h j (by omega)
theorem fl_I {f : Nat → Int32} {i : Nat} {v : Int32} (h : ∀ j, j < i → f j = v) : ∀ j, j < i + 1 → upd f i v j = v := fun j hj => by
  by_cases q : j = i
  · rw [q]; exact pk_us
  · rw [pk_un q]; exact h j (by omega)
set_option maxHeartbeats 4000000 in
set_option maxRecDepth 100000 in
/-- Long.bitCount: the number of bits -/
theorem c_bitCount (l : Launch) (u : Nat) (hu : u < 2 ^ 64) : Met l yJ13_bitCount_95d88 wsJ13_bitCount_95d88 ({ frames := 0, cells := 0, slots := 0, locals := 0 }) (va_Pc [.long (lN u)] (fun _ => True)) (vp_Si (fun r => r = nI (pb_c 64 u))) 0 0 (fun _ => False) := by
  refine Met.ofW (cc := cJ13_bitCount_95d88) (maxL := 2) (ret := (some .int)) (by decide) rfl ?_
  intro p e s m args below meth c s₁ B hml hv
  obtain ⟨rfl, -⟩ := hv
  have hx := B.exec
  have hb := B.bytes
  have hr := B.returns
  have hts := atoms_spec (ws := wsJ13_bitCount_95d88) B.pre
  have hown : s.vm.findClass RJ13 = some m.cls := findClass_of_methodNamed B.named
  have hlocks := B.notSynchronized
  have hl := lv_entry ([.long (lN u)]) (n := 2) (Nat.le_of_ble_eq_true rfl)
  rw [lg_entry_eq]
  generalize (lg_sl ([.long (lN u)]) ++ List.replicate (2 - (lg_sl ([.long (lN u)])).length) Slot.unset).toArray = ls at hl ⊢
  have hl : lv_has ls 2 [(0, .long (lN u))] := hl
  have hs1 : u / 2 ^ 1 &&& pb_mk 85 8 ≤ u := Nat.le_trans Nat.and_le_left (Nat.div_le_self _ _)
  refine lv_lload_n hx hb dJ13_bitCount_95d88_0 rfl (lv_at hl 0 rfl) ?_
  refine lv_lload_n hx hb dJ13_bitCount_95d88_1 rfl (lv_at hl 0 rfl) ?_
  refine lv_iconst (v := nI 1) hx hb dJ13_bitCount_95d88_2 (by decide +kernel) ?_
  refine lv_lushr (v := lN (u / 2 ^ 1)) hx hb dJ13_bitCount_95d88_3 (wb_shr (by omega) (by decide)) ?_
  refine lv_ldc2 (v := 6148914691236517205) hx hb hown (hts (.constantLong RJ13 314 (6148914691236517205)) (by decide +kernel)) dJ13_bitCount_95d88_4 ?_
  refine xk_topl jb_k1 ?_
  refine lv_land hx hb dJ13_bitCount_95d88_7 ?_
  refine xk_topl (wb_and (by omega) (by rw [jb_m1]; omega)) ?_
  refine lv_lsub hx hb dJ13_bitCount_95d88_8 ?_
  refine xk_topl (lN_sub hs1) ?_
  obtain ⟨y1, hy1⟩ : ∃ z, z = (u - ((u / 2 ^ 1) &&& (pb_mk 85 8))) := ⟨_, rfl⟩
  refine xk_topl (show lN ((u - ((u / 2 ^ 1) &&& (pb_mk 85 8)))) = lN y1 by rw [hy1]) ?_
  have b1 : y1 < 2 ^ 64 := by omega
  refine lv_lstore_n (lv' := [(0, .long (lN y1))]) hx hb dJ13_bitCount_95d88_9 rfl hl (by decide) rfl (fun ls hl => ?_)
  refine lv_lload_n hx hb dJ13_bitCount_95d88_10 rfl (lv_at hl 0 rfl) ?_
  refine lv_ldc2 (v := 3689348814741910323) hx hb hown (hts (.constantLong RJ13 316 (3689348814741910323)) (by decide +kernel)) dJ13_bitCount_95d88_11 ?_
  refine xk_topl jb_k2 ?_
  refine lv_land hx hb dJ13_bitCount_95d88_14 ?_
  refine xk_topl (wb_and (by omega) (by rw [jb_m2]; omega)) ?_
  refine lv_lload_n hx hb dJ13_bitCount_95d88_15 rfl (lv_at hl 0 rfl) ?_
  refine lv_iconst (v := nI 2) hx hb dJ13_bitCount_95d88_16 (by decide +kernel) ?_
  refine lv_lushr (v := lN (y1 / 2 ^ 2)) hx hb dJ13_bitCount_95d88_17 (wb_shr (by omega) (by decide)) ?_
  refine lv_ldc2 (v := 3689348814741910323) hx hb hown (hts (.constantLong RJ13 316 (3689348814741910323)) (by decide +kernel)) dJ13_bitCount_95d88_18 ?_
  refine xk_topl jb_k2 ?_
  refine lv_land hx hb dJ13_bitCount_95d88_21 ?_
  refine xk_topl (wb_and (by omega) (by rw [jb_m2]; omega)) ?_
  refine lv_ladd hx hb dJ13_bitCount_95d88_22 ?_
  refine xk_topl (lN_add _ _) ?_
  obtain ⟨y2, hy2⟩ : ∃ z, z = ((y1 &&& (pb_mk 51 8)) + ((y1 / 2 ^ 2) &&& (pb_mk 51 8))) := ⟨_, rfl⟩
  refine xk_topl (show lN (((y1 &&& (pb_mk 51 8)) + ((y1 / 2 ^ 2) &&& (pb_mk 51 8)))) = lN y2 by rw [hy2]) ?_
  have b2 : y2 ≤ 7378697629483820646 := by
    have q1 : y1 &&& pb_mk 51 8 ≤ pb_mk 51 8 := Nat.and_le_right
    have q2 : y1 / 2 ^ 2 &&& pb_mk 51 8 ≤ pb_mk 51 8 := Nat.and_le_right
    rw [jb_m2] at q1 q2 hy2
    omega
  refine lv_lstore_n (lv' := [(0, .long (lN y2))]) hx hb dJ13_bitCount_95d88_23 rfl hl (by decide) rfl (fun ls hl => ?_)
  refine lv_lload_n hx hb dJ13_bitCount_95d88_24 rfl (lv_at hl 0 rfl) ?_
  refine lv_lload_n hx hb dJ13_bitCount_95d88_25 rfl (lv_at hl 0 rfl) ?_
  refine lv_iconst (v := nI 4) hx hb dJ13_bitCount_95d88_26 (by decide +kernel) ?_
  refine lv_lushr (v := lN (y2 / 2 ^ 4)) hx hb dJ13_bitCount_95d88_27 (wb_shr (by omega) (by decide)) ?_
  refine lv_ladd hx hb dJ13_bitCount_95d88_28 ?_
  refine xk_topl (lN_add _ _) ?_
  refine lv_ldc2 (v := 1085102592571150095) hx hb hown (hts (.constantLong RJ13 318 (1085102592571150095)) (by decide +kernel)) dJ13_bitCount_95d88_29 ?_
  refine xk_topl jb_k3 ?_
  refine lv_land hx hb dJ13_bitCount_95d88_32 ?_
  refine xk_topl (wb_and (by omega) (by rw [jb_m3]; omega)) ?_
  obtain ⟨y3, hy3⟩ : ∃ z, z = ((y2 + (y2 / 2 ^ 4)) &&& (pb_mk 15 8)) := ⟨_, rfl⟩
  refine xk_topl (show lN (((y2 + (y2 / 2 ^ 4)) &&& (pb_mk 15 8))) = lN y3 by rw [hy3]) ?_
  have e3 : y3 = pb_by (pb_c 8) 8 u := pb_steps 8 u (by omega) y1 y2 y3 hy1 hy2 hy3
  have b3 : y3 < 2 ^ 64 := by rw [e3]; exact pb_by_lt (fun l _ => by have := pb_c_le 8 l; omega) 8 u
  refine lv_lstore_n (lv' := [(0, .long (lN y3))]) hx hb dJ13_bitCount_95d88_33 rfl hl (by decide) rfl (fun ls hl => ?_)
  refine lv_lload_n hx hb dJ13_bitCount_95d88_34 rfl (lv_at hl 0 rfl) ?_
  refine lv_lload_n hx hb dJ13_bitCount_95d88_35 rfl (lv_at hl 0 rfl) ?_
  refine lv_bipush (v := nI 8) hx hb dJ13_bitCount_95d88_36 (by decide +kernel) ?_
  refine lv_lushr (v := lN (y3 / 2 ^ 8)) hx hb dJ13_bitCount_95d88_38 (wb_shr (by omega) (by decide)) ?_
  refine lv_ladd hx hb dJ13_bitCount_95d88_39 ?_
  refine xk_topl (lN_add _ _) ?_
  obtain ⟨z1, hz1⟩ : ∃ z, z = (y3 + (y3 / 2 ^ 8)) := ⟨_, rfl⟩
  refine xk_topl (show lN ((y3 + (y3 / 2 ^ 8))) = lN z1 by rw [hz1]) ?_
  have b4 := (pb_fold u z1 (z1 + z1 / 65536) _ (by rw [← e3]; exact hz1) rfl rfl).2.2.2
  refine lv_lstore_n (lv' := [(0, .long (lN z1))]) hx hb dJ13_bitCount_95d88_40 rfl hl (by decide) rfl (fun ls hl => ?_)
  refine lv_lload_n hx hb dJ13_bitCount_95d88_41 rfl (lv_at hl 0 rfl) ?_
  refine lv_lload_n hx hb dJ13_bitCount_95d88_42 rfl (lv_at hl 0 rfl) ?_
  refine lv_bipush (v := nI 16) hx hb dJ13_bitCount_95d88_43 (by decide +kernel) ?_
  refine lv_lushr (v := lN (z1 / 2 ^ 16)) hx hb dJ13_bitCount_95d88_45 (wb_shr (by omega) (by decide)) ?_
  refine lv_ladd hx hb dJ13_bitCount_95d88_46 ?_
  refine xk_topl (lN_add _ _) ?_
  obtain ⟨z2, hz2⟩ : ∃ z, z = (z1 + (z1 / 2 ^ 16)) := ⟨_, rfl⟩
  refine xk_topl (show lN ((z1 + (z1 / 2 ^ 16))) = lN z2 by rw [hz2]) ?_
  have b5 := (pb_fold u z1 z2 _ (by rw [← e3]; exact hz1) hz2 rfl).2.2.1
  refine lv_lstore_n (lv' := [(0, .long (lN z2))]) hx hb dJ13_bitCount_95d88_47 rfl hl (by decide) rfl (fun ls hl => ?_)
  refine lv_lload_n hx hb dJ13_bitCount_95d88_48 rfl (lv_at hl 0 rfl) ?_
  refine lv_lload_n hx hb dJ13_bitCount_95d88_49 rfl (lv_at hl 0 rfl) ?_
  refine lv_bipush (v := nI 32) hx hb dJ13_bitCount_95d88_50 (by decide +kernel) ?_
  refine lv_lushr (v := lN (z2 / 2 ^ 32)) hx hb dJ13_bitCount_95d88_52 (wb_shr (by omega) (by decide)) ?_
  refine lv_ladd hx hb dJ13_bitCount_95d88_53 ?_
  refine xk_topl (lN_add _ _) ?_
  obtain ⟨z3, hz3⟩ : ∃ z, z = (z2 + (z2 / 2 ^ 32)) := ⟨_, rfl⟩
  refine xk_topl (show lN ((z2 + (z2 / 2 ^ 32))) = lN z3 by rw [hz3]) ?_
  have b6 := (pb_fold u z1 z2 z3 (by rw [← e3]; exact hz1) hz2 hz3).1
  refine lv_lstore_n (lv' := [(0, .long (lN z3))]) hx hb dJ13_bitCount_95d88_54 rfl hl (by decide) rfl (fun ls hl => ?_)
  refine lv_lload_n hx hb dJ13_bitCount_95d88_55 rfl (lv_at hl 0 rfl) ?_
  refine lv_l2i (v := nI z3) hx hb dJ13_bitCount_95d88_56 (lN_i z3) ?_
  refine lv_bipush (v := nI 127) hx hb dJ13_bitCount_95d88_57 (by decide +kernel) ?_
  refine lv_iand hx hb dJ13_bitCount_95d88_59 ?_
  refine xk_top (jb_and z3) ?_
  exact W.iret hx hb hr (fun t ht hW => ⟨_, rfl, by rw [b6], ht⟩) t_nil dJ13_bitCount_95d88_60
set_option maxHeartbeats 4000000 in
set_option maxRecDepth 100000 in
/-- Arrays.fill: every place holds v -/
theorem c_fillJ (l : Launch) (D : va_G) (r : Nat) (cA : ClassId) (n sz : Nat) (f : Nat → Int64) (v : Int64) (hn : n < 2 ^ 31) : Met l yJ7_fill_d0a16 wsJ7_fill_d0a16 ({ frames := 0, cells := 0, slots := 0, locals := 0 }) (va_Pc [.ref r, .long v] (fun U => U.heap.size = sz ∧ va_P D vwCl [(r, .inl (cA, n, .inr (.inl f)))] U.heap ∧ va_K D vwCl [(cA, .long)] U ∧ va_D (fun _ => True) [(r, .inl (cA, n, .inr (.inl f)))])) (va_Qv (fun f2 : Nat → Int64 => ∀ i, i < n → f2 i = v) (fun f2 t => va_P D vwCl [(r, .inl (cA, n, .inr (.inl f2)))] t.heap ∧ va_D (va_A [(r, .inl (cA, n, .inr (.inl f)))] sz) [(r, .inl (cA, n, .inr (.inl f2)))]) (va_A [(r, .inl (cA, n, .inr (.inl f)))] sz)) 0 0 (va_A [(r, .inl (cA, n, .inr (.inl f)))] sz) := by
  refine Met.ofW (cc := cJ7_fill_d0a16) (maxL := 5) (ret := none) (by decide) rfl ?_
  intro p e s m args below meth c s₁ B hml hv
  obtain ⟨rfl, hsz, hP, hK, hD0⟩ := hv
  have hx := B.exec
  have hb := B.bytes
  have hr := B.returns
  have hts := atoms_spec (ws := wsJ7_fill_d0a16) B.pre
  have hown : s.vm.findClass RJ7 = some m.cls := findClass_of_methodNamed B.named
  have hlocks := B.notSynchronized
  subst hsz
  have hD := hD0.self (sz := s.heap.size)
  generalize hAe : va_A [(r, .inl (cA, n, .inr (.inl f)))] s.heap.size = A at hD ⊢
  have hA : ∀ q : Nat, s.heap.size ≤ q → A q := fun q h => by rw [← hAe]; exact Or.inr h
  have hS : va_S A s.heap s.heap [] := va_S.rf
  have hl := lv_entry ([.ref r, .long v]) (n := 5) (Nat.le_of_ble_eq_true rfl)
  rw [lg_entry_eq]
  generalize (lg_sl ([.ref r, .long v]) ++ List.replicate (5 - (lg_sl ([.ref r, .long v])).length) Slot.unset).toArray = ls at hl ⊢
  have hl : lv_has ls 5 [(0, .ref r), (1, .long v)] := hl
  have key : ∀ (d i : Nat) (f2 : Nat → Int64) (H : Heap) (locs : List Loc) (ls : Array Slot), n ≤ i + d → i ≤ n → (∀ j, j < i → f2 j = v) → va_P D vwCl [(r, .inl (cA, n, .inr (.inl f2)))] H → va_D A [(r, .inl (cA, n, .inr (.inl f2)))] → va_S A s.heap H locs → lv_has ls 5 [(4, .int (nI n)), (3, .int (nI i)), (0, .ref r), (1, .long v)] → W p l e (headSpec wsJ7_fill_d0a16 ({ frames := 0, cells := 0, slots := 0, locals := 0 })).room s m ([.ref r, .long v] : List Value).toArray below meth c H locs 0 0 (MQ below (va_Qv (fun f2 : Nat → Int64 => ∀ i, i < n → f2 i = v) (fun f2 t => va_P D vwCl [(r, .inl (cA, n, .inr (.inl f2)))] t.heap ∧ va_D (A) [(r, .inl (cA, n, .inr (.inl f2)))]) (A)) ([.ref r, .long v] : List Value).toArray s 0 0 (A)) (F0 m 6 ls []) := by
    intro d
    induction d with
    | zero =>
      intro i f2 H locs ls h1 h2 h3 hP hD hS hl
      refine lv_iload_n hx hb dJ7_fill_d0a16_6 rfl (lv_at hl 1 rfl) ?_
      refine lv_iload hx hb dJ7_fill_d0a16_7 (lv_at hl 0 rfl) ?_
      refine xk_icmp_ge (tgt := 22) hx hb (by omega) (by omega) dJ7_fill_d0a16_9 (by decide) (fun c9 => ?_) (fun c9 => by exfalso; omega)
      exact W.vret hx hb hr (fun t ht hW => ⟨⟨f2, rfl, fun j hj => h3 j (by omega), by rw [ht]; exact hP, hD⟩, hS.F ht⟩) hS.2.2 dJ7_fill_d0a16_22
    | succ d ih =>
      intro i f2 H locs ls h1 h2 h3 hP hD hS hl
      refine lv_iload_n hx hb dJ7_fill_d0a16_6 rfl (lv_at hl 1 rfl) ?_
      refine lv_iload hx hb dJ7_fill_d0a16_7 (lv_at hl 0 rfl) ?_
      refine xk_icmp_ge (tgt := 22) hx hb (by omega) (by omega) dJ7_fill_d0a16_9 (by decide) (fun c9 => ?_) (fun c9 => ?_)
      · exact W.vret hx hb hr (fun t ht hW => ⟨⟨f2, rfl, fun j hj => h3 j (by omega), by rw [ht]; exact hP, hD⟩, hS.F ht⟩) hS.2.2 dJ7_fill_d0a16_22
      · refine lv_aload_n hx hb dJ7_fill_d0a16_12 rfl (lv_at hl 2 rfl) ?_
        refine lv_iload_n hx hb dJ7_fill_d0a16_13 rfl (lv_at hl 1 rfl) ?_
        refine lv_lload_n hx hb dJ7_fill_d0a16_14 rfl (lv_at hl 3 rfl) ?_
        refine xk_last hx hb hK hP hD hS 0 0 rfl rfl (by omega) (by omega) dJ7_fill_d0a16_15 (fun H locs hP hD hS => ?_)
        have hP : va_P D vwCl [(r, .inl (cA, n, .inr (.inl (vp_updL f2 i v))))] H := hP
        have hD : va_D A [(r, .inl (cA, n, .inr (.inl (vp_updL f2 i v))))] := hD
        refine lv_iinc (v := nI (i + 1)) (lv' := [(3, .int (nI (i + 1))), (4, .int (nI n)), (0, .ref r), (1, .long v)]) hx hb dJ7_fill_d0a16_16 hl (k := 1) rfl (xk_inc i) (by decide) rfl (fun ls hl => ?_)
        refine lv_goto (tgt := 6) hx hb dJ7_fill_d0a16_19 (by decide) ?_
        exact ih (i + 1) _ H locs ls (by omega) (by omega) (fl_J h3) hP hD hS (lv_sub hl [1, 0, 2, 3] rfl)
  refine lv_iconst (v := nI 0) hx hb dJ7_fill_d0a16_0 (by decide +kernel) ?_
  refine lv_istore_n (lv' := [(3, .int (nI 0)), (0, .ref r), (1, .long v)]) hx hb dJ7_fill_d0a16_1 rfl hl (by decide) rfl (fun ls hl => ?_)
  refine lv_aload_n hx hb dJ7_fill_d0a16_2 rfl (lv_at hl 1 rfl) ?_
  refine va_alen (v := nI n) hx hb hK hP 0 0 rfl rfl rfl dJ7_fill_d0a16_3 ?_
  refine lv_istore (lv' := [(4, .int (nI n)), (3, .int (nI 0)), (0, .ref r), (1, .long v)]) hx hb dJ7_fill_d0a16_4 hl (by decide) rfl (fun ls hl => ?_)
  exact key n 0 f s.heap [] ls (by omega) (by omega) (fun j hj => by omega) hP hD hS (lv_sub hl [0, 1, 2, 3] rfl)
set_option maxHeartbeats 4000000 in
set_option maxRecDepth 100000 in
/-- Arrays.fill: every place holds v -/
theorem c_fillI (l : Launch) (D : va_G) (r : Nat) (cA : ClassId) (n sz : Nat) (f : Nat → Int32) (v : Int32) (hn : n < 2 ^ 31) : Met l yJ7_fill_53178 wsJ7_fill_53178 ({ frames := 0, cells := 0, slots := 0, locals := 0 }) (va_Pc [.ref r, .int v] (fun U => U.heap.size = sz ∧ va_P D vwCl [(r, .inl (cA, n, .inl f))] U.heap ∧ va_K D vwCl [(cA, .int)] U ∧ va_D (fun _ => True) [(r, .inl (cA, n, .inl f))])) (va_Qv (fun f2 : Nat → Int32 => ∀ i, i < n → f2 i = v) (fun f2 t => va_P D vwCl [(r, .inl (cA, n, .inl f2))] t.heap ∧ va_D (va_A [(r, .inl (cA, n, .inl f))] sz) [(r, .inl (cA, n, .inl f2))]) (va_A [(r, .inl (cA, n, .inl f))] sz)) 0 0 (va_A [(r, .inl (cA, n, .inl f))] sz) := by
  refine Met.ofW (cc := cJ7_fill_53178) (maxL := 4) (ret := none) (by decide) rfl ?_
  intro p e s m args below meth c s₁ B hml hv
  obtain ⟨rfl, hsz, hP, hK, hD0⟩ := hv
  have hx := B.exec
  have hb := B.bytes
  have hr := B.returns
  have hts := atoms_spec (ws := wsJ7_fill_53178) B.pre
  have hown : s.vm.findClass RJ7 = some m.cls := findClass_of_methodNamed B.named
  have hlocks := B.notSynchronized
  subst hsz
  have hD := hD0.self (sz := s.heap.size)
  generalize hAe : va_A [(r, .inl (cA, n, .inl f))] s.heap.size = A at hD ⊢
  have hA : ∀ q : Nat, s.heap.size ≤ q → A q := fun q h => by rw [← hAe]; exact Or.inr h
  have hS : va_S A s.heap s.heap [] := va_S.rf
  have hl := lv_entry ([.ref r, .int v]) (n := 4) (Nat.le_of_ble_eq_true rfl)
  rw [lg_entry_eq]
  generalize (lg_sl ([.ref r, .int v]) ++ List.replicate (4 - (lg_sl ([.ref r, .int v])).length) Slot.unset).toArray = ls at hl ⊢
  have hl : lv_has ls 4 [(0, .ref r), (1, .int v)] := hl
  have key : ∀ (d i : Nat) (f2 : Nat → Int32) (H : Heap) (locs : List Loc) (ls : Array Slot), n ≤ i + d → i ≤ n → (∀ j, j < i → f2 j = v) → va_P D vwCl [(r, .inl (cA, n, .inl f2))] H → va_D A [(r, .inl (cA, n, .inl f2))] → va_S A s.heap H locs → lv_has ls 4 [(3, .int (nI n)), (2, .int (nI i)), (0, .ref r), (1, .int v)] → W p l e (headSpec wsJ7_fill_53178 ({ frames := 0, cells := 0, slots := 0, locals := 0 })).room s m ([.ref r, .int v] : List Value).toArray below meth c H locs 0 0 (MQ below (va_Qv (fun f2 : Nat → Int32 => ∀ i, i < n → f2 i = v) (fun f2 t => va_P D vwCl [(r, .inl (cA, n, .inl f2))] t.heap ∧ va_D (A) [(r, .inl (cA, n, .inl f2))]) (A)) ([.ref r, .int v] : List Value).toArray s 0 0 (A)) (F0 m 5 ls []) := by
    intro d
    induction d with
    | zero =>
      intro i f2 H locs ls h1 h2 h3 hP hD hS hl
      refine lv_iload_n hx hb dJ7_fill_53178_5 rfl (lv_at hl 1 rfl) ?_
      refine lv_iload_n hx hb dJ7_fill_53178_6 rfl (lv_at hl 0 rfl) ?_
      refine xk_icmp_ge (tgt := 20) hx hb (by omega) (by omega) dJ7_fill_53178_7 (by decide) (fun c7 => ?_) (fun c7 => by exfalso; omega)
      exact W.vret hx hb hr (fun t ht hW => ⟨⟨f2, rfl, fun j hj => h3 j (by omega), by rw [ht]; exact hP, hD⟩, hS.F ht⟩) hS.2.2 dJ7_fill_53178_20
    | succ d ih =>
      intro i f2 H locs ls h1 h2 h3 hP hD hS hl
      refine lv_iload_n hx hb dJ7_fill_53178_5 rfl (lv_at hl 1 rfl) ?_
      refine lv_iload_n hx hb dJ7_fill_53178_6 rfl (lv_at hl 0 rfl) ?_
      refine xk_icmp_ge (tgt := 20) hx hb (by omega) (by omega) dJ7_fill_53178_7 (by decide) (fun c7 => ?_) (fun c7 => ?_)
      · exact W.vret hx hb hr (fun t ht hW => ⟨⟨f2, rfl, fun j hj => h3 j (by omega), by rw [ht]; exact hP, hD⟩, hS.F ht⟩) hS.2.2 dJ7_fill_53178_20
      · refine lv_aload_n hx hb dJ7_fill_53178_10 rfl (lv_at hl 2 rfl) ?_
        refine lv_iload_n hx hb dJ7_fill_53178_11 rfl (lv_at hl 1 rfl) ?_
        refine lv_iload_n hx hb dJ7_fill_53178_12 rfl (lv_at hl 3 rfl) ?_
        refine xk_iast hx hb hK hP hD hS 0 0 rfl rfl (by omega) (by omega) dJ7_fill_53178_13 (fun H locs hP hD hS => ?_)
        have hP : va_P D vwCl [(r, .inl (cA, n, .inl (upd f2 i v)))] H := hP
        have hD : va_D A [(r, .inl (cA, n, .inl (upd f2 i v)))] := hD
        refine lv_iinc (v := nI (i + 1)) (lv' := [(2, .int (nI (i + 1))), (3, .int (nI n)), (0, .ref r), (1, .int v)]) hx hb dJ7_fill_53178_14 hl (k := 1) rfl (xk_inc i) (by decide) rfl (fun ls hl => ?_)
        refine lv_goto (tgt := 5) hx hb dJ7_fill_53178_17 (by decide) ?_
        exact ih (i + 1) _ H locs ls (by omega) (by omega) (fl_I h3) hP hD hS (lv_sub hl [1, 0, 2, 3] rfl)
  refine lv_iconst (v := nI 0) hx hb dJ7_fill_53178_0 (by decide +kernel) ?_
  refine lv_istore_n (lv' := [(2, .int (nI 0)), (0, .ref r), (1, .int v)]) hx hb dJ7_fill_53178_1 rfl hl (by decide) rfl (fun ls hl => ?_)
  refine lv_aload_n hx hb dJ7_fill_53178_2 rfl (lv_at hl 1 rfl) ?_
  refine va_alen (v := nI n) hx hb hK hP 0 0 rfl rfl rfl dJ7_fill_53178_3 ?_
  refine lv_istore_n (lv' := [(3, .int (nI n)), (2, .int (nI 0)), (0, .ref r), (1, .int v)]) hx hb dJ7_fill_53178_4 rfl hl (by decide) rfl (fun ls hl => ?_)
  exact key n 0 f s.heap [] ls (by omega) (by omega) (fun j hj => by omega) hP hD hS (lv_sub hl [0, 1, 2, 3] rfl)
end
section
/-! BitRow -/
set_option maxHeartbeats 4000000 in
set_option maxRecDepth 100000 in
/-- has: the bit -/
theorem c_has (l : Launch) (D : va_G) (cL : ClassId) (b r n : Nat) (f : Nat → Int64) (hn : n < 2 ^ 31) (i : Nat) (hi : i / 64 < n) (hi2 : i < 2 ^ 31) : Met l yX0_has wsX0_has ({ frames := 0, cells := 0, slots := 0, locals := 0 }) (va_Pc [.ref b, .int (nI i)] (fun U => va_P D vwCl [(b, .inr (0, [.ref r])), (r, .inl (cL, n, .inr (.inl f)))] U.heap ∧ va_K D vwCl [(cL, .long)] U)) (vp_Si (fun r => r = bI (bo f i))) 0 0 (fun _ => False) := by
  refine Met.ofW (cc := cX0_has) (maxL := 2) (ret := (some .boolean)) (by decide) rfl ?_
  intro p e s m args below meth c s₁ B hml hv
  obtain ⟨rfl, hP, hK⟩ := hv
  have hx := B.exec
  have hb := B.bytes
  have hr := B.returns
  have hts := atoms_spec (ws := wsX0_has) B.pre
  have hown : s.vm.findClass RX0 = some m.cls := findClass_of_methodNamed B.named
  have hlocks := B.notSynchronized
  have hl := lv_entry ([.ref b, .int (nI i)]) (n := 2) (Nat.le_of_ble_eq_true rfl)
  rw [lg_entry_eq]
  generalize (lg_sl ([.ref b, .int (nI i)]) ++ List.replicate (2 - (lg_sl ([.ref b, .int (nI i)])).length) Slot.unset).toArray = ls at hl ⊢
  have hl : lv_has ls 2 [(0, .ref b), (1, .int (nI i))] := hl
  refine lv_aload_n hx hb dX0_has_0 rfl (lv_at hl 0 rfl) ?_
  refine va_get (D := D) (ci := 0) (v := .ref r) (C := RX0) (T := TX0) (N := 1) hx hb hts in_X0_has_X0 hown hK hP 0 rfl rfl 0 (by decide) (hts (.fieldLink RX0 7 "OffsetHeap$BitRow" "row" "[J") (by decide +kernel)) (fun _ h9 => h9) rfl dX0_has_1 ?_
  refine lv_iload_n hx hb dX0_has_4 rfl (lv_at hl 1 rfl) ?_
  refine lv_bipush (v := nI 6) hx hb dX0_has_5 (by decide +kernel) ?_
  refine lv_ishr hx hb dX0_has_7 ?_
  refine xk_top (pk_shrN (by omega) _ 6 (by decide)) ?_
  refine xk_lald hx hb hK hP 1 0 rfl rfl (by omega) (by omega) dX0_has_8 ?_
  refine lv_iload_n hx hb dX0_has_9 rfl (lv_at hl 1 rfl) ?_
  refine lv_bipush (v := nI 63) hx hb dX0_has_10 (by decide +kernel) ?_
  refine lv_iand hx hb dX0_has_12 ?_
  refine xk_top (pk_andN (by omega) 6 (by decide)) ?_
  refine lv_lushr (v := (((f (i / 64)).toUInt64 >>> ((nI (i % 64)).toInt64.toUInt64 &&& Int64.toUInt64 63)).toInt64)) hx hb dX0_has_13 rfl ?_
  refine lv_lconst (v := 1) hx hb dX0_has_14 (by decide +kernel) ?_
  refine lv_land hx hb dX0_has_15 ?_
  refine lv_lconst (v := 0) hx hb dX0_has_16 (by decide +kernel) ?_
  refine xk_lcmp0 (b := bo f i) (tgt := 25) hx hb (bo_has (f (i / 64)) (i % 64) (Nat.mod_lt _ (by decide))) dX0_has_17 dX0_has_18 (by decide) (fun c18 => ?_) (fun c18 => ?_)
  · refine lv_iconst (v := nI 0) hx hb dX0_has_25 (by decide +kernel) ?_
    exact W.zret hx hb hr rfl (fun t ht hW => ⟨_, rfl, bI_0 c18, ht⟩) t_nil dX0_has_26
  · refine lv_iconst (v := nI 1) hx hb dX0_has_21 (by decide +kernel) ?_
    refine lv_goto (tgt := 26) hx hb dX0_has_22 (by decide) ?_
    exact W.zret hx hb hr rfl (fun t ht hW => ⟨_, rfl, bI_1 c18, ht⟩) t_nil dX0_has_26
set_option maxHeartbeats 4000000 in
set_option maxRecDepth 100000 in
/-- between: how many bits -/
theorem c_between (l : Launch) (D : va_G) (cL : ClassId) (b r n : Nat) (f : Nat → Int64) (hn : n < 2 ^ 31) (x y : Nat) (hxy : x ≤ y) (hq : x / 64 = y / 64) (hi : y / 64 < n) (hi2 : y < 2 ^ 31) : Met l yX0_between wsX0_between ({ frames := 1, cells := 0, slots := 0, locals := 30 }) (va_Pc [.ref b, .int (nI x), .int (nI y)] (fun U => va_P D vwCl [(b, .inr (0, [.ref r])), (r, .inl (cL, n, .inr (.inl f)))] U.heap ∧ va_K D vwCl [(cL, .long)] U)) (vp_Si (fun r => r = nI (cn (bo f) y - cn (bo f) x))) 0 0 (fun _ => False) := by
  refine Met.ofW (cc := cX0_between) (maxL := 7) (ret := (some .int)) (by decide) rfl ?_
  intro p e s m args below meth c s₁ B hml hv
  obtain ⟨rfl, hP, hK⟩ := hv
  have hx := B.exec
  have hb := B.bytes
  have hr := B.returns
  have hts := atoms_spec (ws := wsX0_between) B.pre
  have hown : s.vm.findClass RX0 = some m.cls := findClass_of_methodNamed B.named
  have hlocks := B.notSynchronized
  have hl := lv_entry ([.ref b, .int (nI x), .int (nI y)]) (n := 7) (Nat.le_of_ble_eq_true rfl)
  rw [lg_entry_eq]
  generalize (lg_sl ([.ref b, .int (nI x), .int (nI y)]) ++ List.replicate (7 - (lg_sl ([.ref b, .int (nI x), .int (nI y)])).length) Slot.unset).toArray = ls at hl ⊢
  have hl : lv_has ls 7 [(0, .ref b), (1, .int (nI x)), (2, .int (nI y))] := hl
  refine lv_ldc2 (v := -1) hx hb hown (hts (.constantLong RX0 19 (-1)) (by decide +kernel)) dX0_between_0 ?_
  refine lv_iload_n hx hb dX0_between_3 rfl (lv_at hl 1 rfl) ?_
  refine lv_bipush (v := nI 63) hx hb dX0_between_4 (by decide +kernel) ?_
  refine lv_iand hx hb dX0_between_6 ?_
  refine xk_top (pk_andN (by omega) 6 (by decide)) ?_
  refine lv_lshl (v := ((-1 : Int64) <<< ((nI (x % 64)).toInt64 &&& 63))) hx hb dX0_between_7 rfl ?_
  refine lv_lstore_n (lv' := [(3, .long ((-1 : Int64) <<< ((nI (x % 64)).toInt64 &&& 63))), (0, .ref b), (1, .int (nI x)), (2, .int (nI y))]) hx hb dX0_between_8 rfl hl (by decide) rfl (fun ls hl => ?_)
  refine lv_lconst (v := 1) hx hb dX0_between_9 (by decide +kernel) ?_
  refine lv_iload_n hx hb dX0_between_10 rfl (lv_at hl 3 rfl) ?_
  refine lv_bipush (v := nI 63) hx hb dX0_between_11 (by decide +kernel) ?_
  refine lv_iand hx hb dX0_between_13 ?_
  refine xk_top (pk_andN (by omega) 6 (by decide)) ?_
  refine lv_lshl (v := ((1 : Int64) <<< ((nI (y % 64)).toInt64 &&& 63))) hx hb dX0_between_14 rfl ?_
  refine lv_lconst (v := 1) hx hb dX0_between_15 (by decide +kernel) ?_
  refine lv_lsub hx hb dX0_between_16 ?_
  refine lv_lstore (lv' := [(5, .long (((1 : Int64) <<< ((nI (y % 64)).toInt64 &&& 63)) - 1)), (3, .long ((-1 : Int64) <<< ((nI (x % 64)).toInt64 &&& 63))), (0, .ref b), (1, .int (nI x)), (2, .int (nI y))]) hx hb dX0_between_17 hl (by decide) rfl (fun ls hl => ?_)
  refine lv_aload_n hx hb dX0_between_19 rfl (lv_at hl 2 rfl) ?_
  refine va_get (D := D) (ci := 0) (v := .ref r) (C := RX0) (T := TX0) (N := 1) hx hb hts in_X0_between_X0 hown hK hP 0 rfl rfl 0 (by decide) (hts (.fieldLink RX0 7 "OffsetHeap$BitRow" "row" "[J") (by decide +kernel)) (fun _ h9 => h9) rfl dX0_between_20 ?_
  refine lv_iload_n hx hb dX0_between_23 rfl (lv_at hl 4 rfl) ?_
  refine lv_bipush (v := nI 6) hx hb dX0_between_24 (by decide +kernel) ?_
  refine lv_ishr hx hb dX0_between_26 ?_
  refine xk_top (pk_shrN (by omega) _ 6 (by decide)) ?_
  refine xk_lald hx hb hK hP 1 0 rfl rfl (by omega) (by omega) dX0_between_27 ?_
  refine lv_lload_n hx hb dX0_between_28 rfl (lv_at hl 1 rfl) ?_
  refine lv_land hx hb dX0_between_29 ?_
  refine lv_lload hx hb dX0_between_30 (lv_at hl 0 rfl) ?_
  refine lv_land hx hb dX0_between_32 ?_
  obtain ⟨u, hu, eu⟩ := wb_of (((f (y / 64)) &&& ((-1 : Int64) <<< ((nI (x % 64)).toInt64 &&& 63))) &&& (((1 : Int64) <<< ((nI (y % 64)).toInt64 &&& 63)) - 1))
  refine xk_topl eu ?_
  have ew : pb_c 64 u = cn (bo f) y - cn (bo f) x := by
    rw [← bo_between f x y hxy hq, eu]
    exact congrArg (pb_c 64) (wb_tn hu).symm
  refine xk_roS (As := [.long (lN u)]) (rest := []) ⟨hx, hb, hml, hown, hts⟩ (c_bitCount l u hu) (va_cwS 1 hts gX0_between_J13_bitCount_95d88 rfl rfl rfl (by decide +kernel) ⟨Nat.le_of_ble_eq_true rfl, Nat.le_of_ble_eq_true rfl⟩) rfl hl.1 rfl (Nat.le_of_ble_eq_true rfl) dX0_between_33 ⟨Nat.zero_le _, Nat.zero_le _⟩ ?_
  exact W.iret hx hb hr (fun t ht hW => ⟨_, rfl, by rw [ew], ht⟩) t_nil dX0_between_36
set_option maxHeartbeats 4000000 in
set_option maxRecDepth 100000 in
/-- put: the bit is set -/
theorem c_put (l : Launch) (D : va_G) (cL : ClassId) (b r n : Nat) (f : Nat → Int64) (hn : n < 2 ^ 31) (sz i : Nat) (hi : i / 64 < n) (hi2 : i < 2 ^ 31) : Met l yX0_put wsX0_put ({ frames := 0, cells := 0, slots := 0, locals := 0 }) (va_Pc [.ref b, .int (nI i)] (fun U => U.heap.size = sz ∧ va_P D vwCl [(b, .inr (0, [.ref r])), (r, .inl (cL, n, .inr (.inl f)))] U.heap ∧ va_K D vwCl [(cL, .long)] U ∧ va_D (fun _ => True) [(b, .inr (0, [.ref r])), (r, .inl (cL, n, .inr (.inl f)))])) (va_Qv (fun f2 : Nat → Int64 => f2 = bput f i) (fun f2 t => va_P D vwCl [(b, .inr (0, [.ref r])), (r, .inl (cL, n, .inr (.inl f2)))] t.heap ∧ va_D (va_A [(b, .inr (0, [.ref r])), (r, .inl (cL, n, .inr (.inl f)))] sz) [(b, .inr (0, [.ref r])), (r, .inl (cL, n, .inr (.inl f2)))]) (va_A [(b, .inr (0, [.ref r])), (r, .inl (cL, n, .inr (.inl f)))] sz)) 0 0 (va_A [(b, .inr (0, [.ref r])), (r, .inl (cL, n, .inr (.inl f)))] sz) := by
  refine Met.ofW (cc := cX0_put) (maxL := 2) (ret := none) (by decide) rfl ?_
  intro p e s m args below meth c s₁ B hml hv
  obtain ⟨rfl, hsz, hP, hK, hD0⟩ := hv
  have hx := B.exec
  have hb := B.bytes
  have hr := B.returns
  have hts := atoms_spec (ws := wsX0_put) B.pre
  have hown : s.vm.findClass RX0 = some m.cls := findClass_of_methodNamed B.named
  have hlocks := B.notSynchronized
  subst hsz
  have hD := hD0.self (sz := s.heap.size)
  generalize hAe : va_A [(b, .inr (0, [.ref r])), (r, .inl (cL, n, .inr (.inl f)))] s.heap.size = A at hD ⊢
  have hA : ∀ q : Nat, s.heap.size ≤ q → A q := fun q h => by rw [← hAe]; exact Or.inr h
  have hS : va_S A s.heap s.heap [] := va_S.rf
  have hl := lv_entry ([.ref b, .int (nI i)]) (n := 2) (Nat.le_of_ble_eq_true rfl)
  rw [lg_entry_eq]
  generalize (lg_sl ([.ref b, .int (nI i)]) ++ List.replicate (2 - (lg_sl ([.ref b, .int (nI i)])).length) Slot.unset).toArray = ls at hl ⊢
  have hl : lv_has ls 2 [(0, .ref b), (1, .int (nI i))] := hl
  refine lv_aload_n hx hb dX0_put_0 rfl (lv_at hl 0 rfl) ?_
  refine va_get (D := D) (ci := 0) (v := .ref r) (C := RX0) (T := TX0) (N := 1) hx hb hts in_X0_put_X0 hown hK hP 0 rfl rfl 0 (by decide) (hts (.fieldLink RX0 7 "OffsetHeap$BitRow" "row" "[J") (by decide +kernel)) (fun _ h9 => h9) rfl dX0_put_1 ?_
  refine lv_iload_n hx hb dX0_put_4 rfl (lv_at hl 1 rfl) ?_
  refine lv_bipush (v := nI 6) hx hb dX0_put_5 (by decide +kernel) ?_
  refine lv_ishr hx hb dX0_put_7 ?_
  refine xk_top (pk_shrN (by omega) _ 6 (by decide)) ?_
  refine lv_dup2_11 hx hb dX0_put_8 rfl rfl ?_
  refine xk_lald hx hb hK hP 1 0 rfl rfl (by omega) (by omega) dX0_put_9 ?_
  refine lv_lconst (v := 1) hx hb dX0_put_10 (by decide +kernel) ?_
  refine lv_iload_n hx hb dX0_put_11 rfl (lv_at hl 1 rfl) ?_
  refine lv_bipush (v := nI 63) hx hb dX0_put_12 (by decide +kernel) ?_
  refine lv_iand hx hb dX0_put_14 ?_
  refine xk_top (pk_andN (by omega) 6 (by decide)) ?_
  refine lv_lshl (v := lN (2 ^ (i % 64))) hx hb dX0_put_15 (bo_bit (i % 64) (Nat.mod_lt _ (by decide))) ?_
  refine lv_lor hx hb dX0_put_16 ?_
  refine xk_last hx hb hK hP hD hS 1 0 rfl rfl (by omega) (by omega) dX0_put_17 (fun H locs hP hD hS => ?_)
  have hP : va_P D vwCl [(b, .inr (0, [.ref r])), (r, .inl (cL, n, .inr (.inl (bput f i))))] H := hP
  have hD : va_D A [(b, .inr (0, [.ref r])), (r, .inl (cL, n, .inr (.inl (bput f i))))] := hD
  exact W.vret hx hb hr (fun t ht hW => ⟨⟨bput f i, rfl, rfl, by rw [ht]; exact hP, hD⟩, hS.F ht⟩) hS.2.2 dX0_put_18
set_option maxHeartbeats 4000000 in
set_option maxRecDepth 100000 in
/-- clear: no bit is set -/
theorem c_clear (l : Launch) (D : va_G) (cL : ClassId) (b r n : Nat) (f : Nat → Int64) (hn : n < 2 ^ 31) (sz : Nat) : Met l yX0_clear wsX0_clear ({ frames := 1, cells := 0, slots := 0, locals := 30 }) (va_Pc [.ref b] (fun U => U.heap.size = sz ∧ va_P D vwCl [(b, .inr (0, [.ref r])), (r, .inl (cL, n, .inr (.inl f)))] U.heap ∧ va_K D vwCl [(cL, .long)] U ∧ va_D (fun _ => True) [(b, .inr (0, [.ref r])), (r, .inl (cL, n, .inr (.inl f)))])) (va_Qv (fun f2 : Nat → Int64 => ∀ j, j < n → f2 j = 0) (fun f2 t => va_P D vwCl [(b, .inr (0, [.ref r])), (r, .inl (cL, n, .inr (.inl f2)))] t.heap ∧ va_D (va_A [(b, .inr (0, [.ref r])), (r, .inl (cL, n, .inr (.inl f)))] sz) [(b, .inr (0, [.ref r])), (r, .inl (cL, n, .inr (.inl f2)))]) (va_A [(b, .inr (0, [.ref r])), (r, .inl (cL, n, .inr (.inl f)))] sz)) 0 0 (va_A [(b, .inr (0, [.ref r])), (r, .inl (cL, n, .inr (.inl f)))] sz) := by
  refine Met.ofW (cc := cX0_clear) (maxL := 1) (ret := none) (by decide) rfl ?_
  intro p e s m args below meth c s₁ B hml hv
  obtain ⟨rfl, hsz, hP, hK, hD0⟩ := hv
  have hx := B.exec
  have hb := B.bytes
  have hr := B.returns
  have hts := atoms_spec (ws := wsX0_clear) B.pre
  have hown : s.vm.findClass RX0 = some m.cls := findClass_of_methodNamed B.named
  have hlocks := B.notSynchronized
  subst hsz
  have hD := hD0.self (sz := s.heap.size)
  generalize hAe : va_A [(b, .inr (0, [.ref r])), (r, .inl (cL, n, .inr (.inl f)))] s.heap.size = A at hD ⊢
  have hA : ∀ q : Nat, s.heap.size ≤ q → A q := fun q h => by rw [← hAe]; exact Or.inr h
  have hS : va_S A s.heap s.heap [] := va_S.rf
  have hl := lv_entry ([.ref b]) (n := 1) (Nat.le_of_ble_eq_true rfl)
  rw [lg_entry_eq]
  generalize (lg_sl ([.ref b]) ++ List.replicate (1 - (lg_sl ([.ref b])).length) Slot.unset).toArray = ls at hl ⊢
  have hl : lv_has ls 1 [(0, .ref b)] := hl
  refine lv_aload_n hx hb dX0_clear_0 rfl (lv_at hl 0 rfl) ?_
  refine va_get (D := D) (ci := 0) (v := .ref r) (C := RX0) (T := TX0) (N := 1) hx hb hts in_X0_clear_X0 hown hK hP 0 rfl rfl 0 (by decide) (hts (.fieldLink RX0 7 "OffsetHeap$BitRow" "row" "[J") (by decide +kernel)) (fun _ h9 => h9) rfl dX0_clear_1 ?_
  refine lv_lconst (v := 0) hx hb dX0_clear_4 (by decide +kernel) ?_
  refine xk_aftv (wr := [(b, .inr (0, [.ref r]))]) (ws' := fun f2 => [(b, .inr (0, [.ref r])), (r, .inl (cL, n, .inr (.inl f2)))]) (va_runS (As := [.ref r, .long 0]) (rest := []) ⟨hx, hb, hml, hown, hts⟩ (c_fillJ l D r cL n s.heap.size f 0 hn) (va_cwS 2 hts gX0_clear_J7_fill_d0a16 rfl rfl rfl (by decide +kernel) ⟨Nat.le_of_ble_eq_true rfl, Nat.le_of_ble_eq_true rfl⟩) (xk_preS rfl (hP.sub [1] rfl) hK ((hD.sub [1] (by decide) rfl).weaken (fun _ _ _ _ => trivial))) rfl rfl hl.1 rfl (lv_room (Nat.le_of_ble_eq_true rfl)) dX0_clear_5 ⟨Nat.zero_le _, Nat.zero_le _⟩) hP hD hS hA [1] [0] [0, 1] rfl rfl (by decide) (by decide) (fun _ => rfl) (by decide) (fun f2 H locs h2 hP hD hS => ?_)
  exact W.vret hx hb hr (fun t ht hW => ⟨⟨f2, rfl, h2, by rw [ht]; exact hP, hD⟩, hS.F ht⟩) hS.2.2 dX0_clear_8
end
section
/-! what a state is: the cells of the class, and the words that both sides are told in -/
abbrev cW (cI cL : ClassId) (h0 : Nat) (ad : Nat → Nat) (n B nb tp ob co rd : Nat) (rts offs fnd mem frs : Nat → Int32) (btw snw stw fsw : Nat → Int64) : va_W :=
  [(h0, .inr (1, [.int (nI n), .int (nI B), .int (nI nb), .ref (ad 1), .ref (ad 2), .ref (ad 4), .ref (ad 5), .ref (ad 6), .ref (ad 8), .ref (ad 9), .ref (ad 10), .ref (ad 12), .int (nI tp), .int (nI ob), .int (nI co), .int (nI rd)])),
   (ad 1, .inl (cI, 8, .inl rts)), (ad 2, .inr (0, [.ref (ad 3)])), (ad 3, .inl (cL, n / 64 + 1, .inr (.inl btw))), (ad 4, .inl (cI, nb, .inl offs)), (ad 5, .inl (cI, n, .inl fnd)),
   (ad 6, .inr (0, [.ref (ad 7)])), (ad 7, .inl (cL, n / 64 + 1, .inr (.inl snw))), (ad 8, .inl (cI, n + 1, .inl mem)), (ad 9, .inl (cI, n + 1, .inl frs)),
   (ad 10, .inr (0, [.ref (ad 11)])), (ad 11, .inl (cL, n / 64 + 1, .inr (.inl stw))), (ad 12, .inr (0, [.ref (ad 13)])), (ad 13, .inl (cL, n / 64 + 1, .inr (.inl fsw)))]
/-- the cells of the reference -/
abbrev mW (cI cZ : ClassId) (h1 : Nat) (am : Nat → Nat) (th n B tp ob co lv : Nat) (wrd frs bgs fbs rts wnt far : Nat → Int32) : va_W :=
  [(h1, .inr (2, [.int (nI th), .int (nI n), .int (nI B), .int (nI tp), .int (nI ob), .int (nI co), .int (nI lv), .ref (am 1), .ref (am 2), .ref (am 3), .ref (am 4), .ref (am 5), .ref (am 6), .ref (am 7)])),
   (am 1, .inl (cI, 4001, .inl wrd)), (am 2, .inl (cI, 4001, .inl frs)), (am 3, .inl (cZ, 4002, .inl bgs)), (am 4, .inl (cZ, 4002, .inl fbs)), (am 5, .inl (cI, 8, .inl rts)), (am 6, .inl (cI, 4001, .inl wnt)), (am 7, .inl (cI, 4001, .inl far))]
/-- a number from 0 to n - 1 -/
def inR (n : Nat) (x : Int32) : Bool := match nn x with
  | none => false
  | some a => decide (a < n)
theorem inR_neg {n : Nat} {x : Int32} (h : x < 0) : inR n x = false := by unfold inR; rw [nn_neg h]
theorem inR_nat {n a : Nat} (h : a < 2 ^ 31) : inR n (nI a) = decide (a < n) := by unfold inR; rw [nn_nat h]
/-- what stands at a place from 0 to n - 1, else -1 -/
def atR (n : Nat) (f : Nat → Int32) (x : Int32) : Int32 := match nn x with
  | none => -1
  | some a => if a < n then f a else -1
theorem atR_neg {n : Nat} {f : Nat → Int32} {x : Int32} (h : x < 0) : atR n f x = -1 := by unfold atR; rw [nn_neg h]
theorem atR_in {n a : Nat} {f : Nat → Int32} (h : a < 2 ^ 31) (ha : a < n) : atR n f (nI a) = f a := by unfold atR; rw [nn_nat h]; exact if_pos ha
theorem atR_out {n a : Nat} {f : Nat → Int32} (h : a < 2 ^ 31) (ha : ¬ a < n) : atR n f (nI a) = -1 := by unfold atR; rw [nn_nat h]; exact if_neg ha
theorem atR_congr {n : Nat} {f g : Nat → Int32} (h : ∀ a, a < n → f a = g a) (x : Int32) : atR n f x = atR n g x := by
  unfold atR
  split
  · rfl
  · split
    · exact h _ ‹_›
    · rfl
/-- an object begins there -/
def isO (tp : Nat) (st : Nat → Bool) (x : Int32) : Bool := match nn x with
  | none => false
  | some a => decide (1 ≤ a) && (decide (a < tp) && st a)
theorem isO_neg {tp : Nat} {st : Nat → Bool} {x : Int32} (h : x < 0) : isO tp st x = false := by unfold isO; rw [nn_neg h]
theorem isO_nat {tp a : Nat} {st : Nat → Bool} (h : a < 2 ^ 31) : isO tp st (nI a) = (decide (1 ≤ a) && (decide (a < tp) && st a)) := by unfold isO; rw [nn_nat h]
theorem isO_t {tp : Nat} {st : Nat → Bool} {x : Int32} (h : isO tp st x = true) : ∃ a, a < 2 ^ 31 ∧ x = nI a ∧ 1 ≤ a ∧ a < tp ∧ st a = true := by
  rcases xk_sgn x with q | ⟨a, ha, rfl⟩
  · rw [isO_neg q] at h; cases h
  · rw [isO_nat ha] at h
    simp at h
    exact ⟨a, ha, rfl, h.1, h.2.1, h.2.2⟩
/-- 0, or an object begins there -/
def isL (tp : Nat) (st : Nat → Bool) (x : Int32) : Bool := match nn x with
  | none => false
  | some a => decide (a = 0) || (decide (1 ≤ a) && (decide (a < tp) && st a))
theorem isL_neg {tp : Nat} {st : Nat → Bool} {x : Int32} (h : x < 0) : isL tp st x = false := by unfold isL; rw [nn_neg h]
theorem isL_nat {tp a : Nat} {st : Nat → Bool} (h : a < 2 ^ 31) : isL tp st (nI a) = (decide (a = 0) || (decide (1 ≤ a) && (decide (a < tp) && st a))) := by unfold isL; rw [nn_nat h]
theorem isL_0 {tp : Nat} {st : Nat → Bool} : isL tp st (nI 0) = true := by rw [isL_nat (by decide)]; rfl
theorem isL_O {tp : Nat} {st : Nat → Bool} {x : Int32} (h : ¬ x = 0) : isL tp st x = isO tp st x := by
  rcases xk_sgn x with q | ⟨a, ha, rfl⟩
  · rw [isO_neg q, isL_neg q]
  · rw [isO_nat ha, isL_nat ha]
    have : ¬ a = 0 := fun q => h (by rw [q]; rfl)
    simp [this]
theorem isL_t {tp : Nat} {st : Nat → Bool} {x : Int32} (h : isL tp st x = true) : ∃ a, a < 2 ^ 31 ∧ x = nI a ∧ (a = 0 ∨ (1 ≤ a ∧ a < tp ∧ st a = true)) := by
  rcases xk_sgn x with q | ⟨a, ha, rfl⟩
  · rw [isL_neg q] at h; cases h
  · rw [isL_nat ha] at h
    simp at h
    exact ⟨a, ha, rfl, h⟩
def cntA (tp ob co n nb : Nat) (x : Int32) : Int32 := match nn x with
  | some 0 => nI tp
  | some 1 => nI ob
  | some 2 => nI co
  | some 3 => nI n
  | some 4 => nI nb
  | _ => -1
theorem cntA_neg {tp ob co n nb : Nat} {x : Int32} (h : x < 0) : cntA tp ob co n nb x = -1 := by unfold cntA; rw [nn_neg h]
theorem cntA_big {tp ob co n nb a : Nat} (h : a < 2 ^ 31) (h5 : 5 ≤ a) : cntA tp ob co n nb (nI a) = -1 := by
  unfold cntA; rw [nn_nat h]
  match a, h5 with
  | a + 5, _ => rfl
/-- a header's parts -/
def tn (x : Int32) : Nat := x.toNatClampNeg
theorem tn_nI {a : Nat} (h : a < 2 ^ 31) : tn (nI a) = a := nI_clamp h
def rfs (mem : Nat → Int32) (o : Nat) : Nat := tn (mem o) / 16 % 16
def pln (mem : Nat → Int32) (o : Nat) : Nat := tn (mem o) / 256
def siz (mem : Nat → Int32) (o : Nat) : Nat := 1 + tn (mem o) / 16 % 16 + tn (mem o) / 256
/-- a block's size -/
def okB (B : Nat) : Prop := B = 8 ∨ B = 16 ∨ B = 32 ∨ B = 64
theorem okB_div {B i : Nat} (h : okB B) : i / B * B ≤ i ∧ i < i / B * B + B ∧ i / B * B / 64 = i / 64 ∧ 0 < B ∧ B ≤ 64 := by
  rcases h with h | h | h | h <;> subst h <;> omega
/-- the offsets are as the bits say -/
def offOk (B nb : Nat) (offs : Nat → Int32) (b : Nat → Bool) : Prop := ∀ k, k < nb → offs k = nI (cn b (k * B))
end
section
/-! the class: methods that only read -/
theorem in_X1_isWord_X1 : ∀ w ∈ wsX10, w ∈ wsX1_isWord := by decide +kernel
theorem in_X1_isObject_X1 : ∀ w ∈ wsX10, w ∈ wsX1_isObject := by decide +kernel
theorem in_X1_isObjectOrNone_X1 : ∀ w ∈ wsX10, w ∈ wsX1_isObjectOrNone := by decide +kernel
theorem in_X1_word_X1 : ∀ w ∈ wsX10, w ∈ wsX1_word := by decide +kernel
theorem in_X1_rootOf_X1 : ∀ w ∈ wsX10, w ∈ wsX1_rootOf := by decide +kernel
theorem in_X1_bit_X1 : ∀ w ∈ wsX10, w ∈ wsX1_bit := by decide +kernel
theorem in_X1_offset_X1 : ∀ w ∈ wsX10, w ∈ wsX1_offset := by decide +kernel
theorem in_X1_moved_X1 : ∀ w ∈ wsX10, w ∈ wsX1_moved := by decide +kernel
theorem in_X1_reads_X1 : ∀ w ∈ wsX10, w ∈ wsX1_reads := by decide +kernel
theorem in_X1_count_X1 : ∀ w ∈ wsX10, w ∈ wsX1_count := by decide +kernel
theorem in_X1_newAddress_X1 : ∀ w ∈ wsX10, w ∈ wsX1_newAddress := by decide +kernel
theorem in_X1_newAddressOrNone_X1 : ∀ w ∈ wsX10, w ∈ wsX1_newAddressOrNone := by decide +kernel
set_option maxHeartbeats 4000000 in
set_option maxRecDepth 100000 in
/-- headerOf -/
theorem c_headerOf (l : Launch) (r w : Nat) : Met l yX1_headerOf wsX1_headerOf ({ frames := 0, cells := 0, slots := 0, locals := 0 }) (va_Pc [.int (nI r), .int (nI w)] (fun _ => True)) (vp_Si (fun r9 => r9 = nI (256 * w + 16 * r))) 0 0 (fun _ => False) := by
  refine Met.ofW (cc := cX1_headerOf) (maxL := 2) (ret := (some .int)) (by decide) rfl ?_
  intro p e s m args below meth c s₁ B9 hml hv
  obtain ⟨rfl, -⟩ := hv
  have hx := B9.exec
  have hb := B9.bytes
  have hr := B9.returns
  have hts := atoms_spec (ws := wsX1_headerOf) B9.pre
  have hown : s.vm.findClass RX1 = some m.cls := findClass_of_methodNamed B9.named
  have hlocks := B9.notSynchronized
  have hl := lv_entry ([.int (nI r), .int (nI w)]) (n := 2) (Nat.le_of_ble_eq_true rfl)
  rw [lg_entry_eq]
  generalize (lg_sl ([.int (nI r), .int (nI w)]) ++ List.replicate (2 - (lg_sl ([.int (nI r), .int (nI w)])).length) Slot.unset).toArray = ls at hl ⊢
  have hl : lv_has ls 2 [(0, .int (nI r)), (1, .int (nI w))] := hl
  refine lv_sipush (v := nI 256) hx hb dX1_headerOf_0 (by decide +kernel) ?_
  refine lv_iload_n hx hb dX1_headerOf_3 rfl (lv_at hl 1 rfl) ?_
  refine lv_imul hx hb dX1_headerOf_4 ?_
  refine xk_top (pk_mul _ _) ?_
  refine lv_bipush (v := nI 16) hx hb dX1_headerOf_5 (by decide +kernel) ?_
  refine lv_iload_n hx hb dX1_headerOf_7 rfl (lv_at hl 0 rfl) ?_
  refine lv_imul hx hb dX1_headerOf_8 ?_
  refine xk_top (pk_mul _ _) ?_
  refine lv_iadd hx hb dX1_headerOf_9 ?_
  refine xk_top (nI_add _ _) ?_
  exact W.iret hx hb hr (fun t ht hW => ⟨_, rfl, rfl, ht⟩) t_nil dX1_headerOf_10
set_option maxHeartbeats 4000000 in
set_option maxRecDepth 100000 in
/-- referencesBy -/
theorem c_referencesBy (l : Launch) (h : Nat) (hh : h < 2 ^ 31) : Met l yX1_referencesBy wsX1_referencesBy ({ frames := 0, cells := 0, slots := 0, locals := 0 }) (va_Pc [.int (nI h)] (fun _ => True)) (vp_Si (fun r9 => r9 = nI (h / 16 % 16))) 0 0 (fun _ => False) := by
  refine Met.ofW (cc := cX1_referencesBy) (maxL := 1) (ret := (some .int)) (by decide) rfl ?_
  intro p e s m args below meth c s₁ B9 hml hv
  obtain ⟨rfl, -⟩ := hv
  have hx := B9.exec
  have hb := B9.bytes
  have hr := B9.returns
  have hts := atoms_spec (ws := wsX1_referencesBy) B9.pre
  have hown : s.vm.findClass RX1 = some m.cls := findClass_of_methodNamed B9.named
  have hlocks := B9.notSynchronized
  have hl := lv_entry ([.int (nI h)]) (n := 1) (Nat.le_of_ble_eq_true rfl)
  rw [lg_entry_eq]
  generalize (lg_sl ([.int (nI h)]) ++ List.replicate (1 - (lg_sl ([.int (nI h)])).length) Slot.unset).toArray = ls at hl ⊢
  have hl : lv_has ls 1 [(0, .int (nI h))] := hl
  refine lv_iload_n hx hb dX1_referencesBy_0 rfl (lv_at hl 0 rfl) ?_
  refine lv_iconst (v := nI 4) hx hb dX1_referencesBy_1 (by decide +kernel) ?_
  refine lv_ishr hx hb dX1_referencesBy_2 ?_
  refine xk_top (pk_shrN (by omega) _ 4 (by decide)) ?_
  refine lv_bipush (v := nI 15) hx hb dX1_referencesBy_3 (by decide +kernel) ?_
  refine lv_iand hx hb dX1_referencesBy_5 ?_
  refine xk_top (pk_andN (by omega) 4 (by decide)) ?_
  exact W.iret hx hb hr (fun t ht hW => ⟨_, rfl, rfl, ht⟩) t_nil dX1_referencesBy_6
set_option maxHeartbeats 4000000 in
set_option maxRecDepth 100000 in
/-- plainBy -/
theorem c_plainBy (l : Launch) (h : Nat) (hh : h < 2 ^ 31) : Met l yX1_plainBy wsX1_plainBy ({ frames := 0, cells := 0, slots := 0, locals := 0 }) (va_Pc [.int (nI h)] (fun _ => True)) (vp_Si (fun r9 => r9 = nI (h / 256))) 0 0 (fun _ => False) := by
  refine Met.ofW (cc := cX1_plainBy) (maxL := 1) (ret := (some .int)) (by decide) rfl ?_
  intro p e s m args below meth c s₁ B9 hml hv
  obtain ⟨rfl, -⟩ := hv
  have hx := B9.exec
  have hb := B9.bytes
  have hr := B9.returns
  have hts := atoms_spec (ws := wsX1_plainBy) B9.pre
  have hown : s.vm.findClass RX1 = some m.cls := findClass_of_methodNamed B9.named
  have hlocks := B9.notSynchronized
  have hl := lv_entry ([.int (nI h)]) (n := 1) (Nat.le_of_ble_eq_true rfl)
  rw [lg_entry_eq]
  generalize (lg_sl ([.int (nI h)]) ++ List.replicate (1 - (lg_sl ([.int (nI h)])).length) Slot.unset).toArray = ls at hl ⊢
  have hl : lv_has ls 1 [(0, .int (nI h))] := hl
  refine lv_iload_n hx hb dX1_plainBy_0 rfl (lv_at hl 0 rfl) ?_
  refine lv_bipush (v := nI 8) hx hb dX1_plainBy_1 (by decide +kernel) ?_
  refine lv_ishr hx hb dX1_plainBy_3 ?_
  refine xk_top (pk_shrN (by omega) _ 8 (by decide)) ?_
  exact W.iret hx hb hr (fun t ht hW => ⟨_, rfl, rfl, ht⟩) t_nil dX1_plainBy_4
set_option maxHeartbeats 4000000 in
set_option maxRecDepth 100000 in
/-- sizeBy -/
theorem c_sizeBy (l : Launch) (h : Nat) (hh : h < 2 ^ 31) : Met l yX1_sizeBy wsX1_sizeBy ({ frames := 1, cells := 0, slots := 0, locals := 30 }) (va_Pc [.int (nI h)] (fun _ => True)) (vp_Si (fun r9 => r9 = nI (1 + h / 16 % 16 + h / 256))) 0 0 (fun _ => False) := by
  refine Met.ofW (cc := cX1_sizeBy) (maxL := 1) (ret := (some .int)) (by decide) rfl ?_
  intro p e s m args below meth c s₁ B9 hml hv
  obtain ⟨rfl, -⟩ := hv
  have hx := B9.exec
  have hb := B9.bytes
  have hr := B9.returns
  have hts := atoms_spec (ws := wsX1_sizeBy) B9.pre
  have hown : s.vm.findClass RX1 = some m.cls := findClass_of_methodNamed B9.named
  have hlocks := B9.notSynchronized
  have hl := lv_entry ([.int (nI h)]) (n := 1) (Nat.le_of_ble_eq_true rfl)
  rw [lg_entry_eq]
  generalize (lg_sl ([.int (nI h)]) ++ List.replicate (1 - (lg_sl ([.int (nI h)])).length) Slot.unset).toArray = ls at hl ⊢
  have hl : lv_has ls 1 [(0, .int (nI h))] := hl
  refine lv_iconst (v := nI 1) hx hb dX1_sizeBy_0 (by decide +kernel) ?_
  refine lv_iload_n hx hb dX1_sizeBy_1 rfl (lv_at hl 0 rfl) ?_
  refine xk_roS (As := [.int (nI h)]) (rest := [.int (nI 1)]) ⟨hx, hb, hml, hown, hts⟩ (c_referencesBy l h (by omega)) (va_cwS 1 hts gX1_sizeBy_X1_referencesBy rfl rfl rfl (by decide +kernel) ⟨Nat.le_of_ble_eq_true rfl, Nat.le_of_ble_eq_true rfl⟩) rfl hl.1 rfl (Nat.le_of_ble_eq_true rfl) dX1_sizeBy_2 ⟨Nat.zero_le _, Nat.zero_le _⟩ ?_
  refine lv_iadd hx hb dX1_sizeBy_5 ?_
  refine xk_top (nI_add _ _) ?_
  refine lv_iload_n hx hb dX1_sizeBy_6 rfl (lv_at hl 0 rfl) ?_
  refine xk_roS (As := [.int (nI h)]) (rest := [.int (nI (1 + (h / 16 % 16)))]) ⟨hx, hb, hml, hown, hts⟩ (c_plainBy l h (by omega)) (va_cwS 1 hts gX1_sizeBy_X1_plainBy rfl rfl rfl (by decide +kernel) ⟨Nat.le_of_ble_eq_true rfl, Nat.le_of_ble_eq_true rfl⟩) rfl hl.1 rfl (Nat.le_of_ble_eq_true rfl) dX1_sizeBy_7 ⟨Nat.zero_le _, Nat.zero_le _⟩ ?_
  refine lv_iadd hx hb dX1_sizeBy_10 ?_
  refine xk_top (nI_add _ _) ?_
  exact W.iret hx hb hr (fun t ht hW => ⟨_, rfl, rfl, ht⟩) t_nil dX1_sizeBy_11
set_option maxHeartbeats 4000000 in
set_option maxRecDepth 100000 in
/-- isBlockSize -/
theorem c_isBlockSize (l : Launch) (x : Int32) : Met l yX1_isBlockSize wsX1_isBlockSize ({ frames := 0, cells := 0, slots := 0, locals := 0 }) (va_Pc [.int x] (fun _ => True)) (vp_Si (fun r9 => r9 = bI (decide (x = nI 8 ∨ x = nI 16 ∨ x = nI 32 ∨ x = nI 64)))) 0 0 (fun _ => False) := by
  refine Met.ofW (cc := cX1_isBlockSize) (maxL := 1) (ret := (some .boolean)) (by decide) rfl ?_
  intro p e s m args below meth c s₁ B9 hml hv
  obtain ⟨rfl, -⟩ := hv
  have hx := B9.exec
  have hb := B9.bytes
  have hr := B9.returns
  have hts := atoms_spec (ws := wsX1_isBlockSize) B9.pre
  have hown : s.vm.findClass RX1 = some m.cls := findClass_of_methodNamed B9.named
  have hlocks := B9.notSynchronized
  have hl := lv_entry ([.int x]) (n := 1) (Nat.le_of_ble_eq_true rfl)
  rw [lg_entry_eq]
  generalize (lg_sl ([.int x]) ++ List.replicate (1 - (lg_sl ([.int x])).length) Slot.unset).toArray = ls at hl ⊢
  have hl : lv_has ls 1 [(0, .int x)] := hl
  refine lv_iload_n hx hb dX1_isBlockSize_0 rfl (lv_at hl 0 rfl) ?_
  refine lv_bipush (v := nI 8) hx hb dX1_isBlockSize_1 (by decide +kernel) ?_
  refine lv_icmp_eq (tgt := 24) hx hb dX1_isBlockSize_3 (by decide) (fun c3 => ?_) (fun c3 => ?_)
  · refine lv_iconst (v := nI 1) hx hb dX1_isBlockSize_24 (by decide +kernel) ?_
    refine lv_goto (tgt := 29) hx hb dX1_isBlockSize_25 (by decide) ?_
    exact W.zret hx hb hr rfl (fun t ht hW => ⟨_, rfl, bI_1 (by simp [c3]), ht⟩) t_nil dX1_isBlockSize_29
  · refine lv_iload_n hx hb dX1_isBlockSize_6 rfl (lv_at hl 0 rfl) ?_
    refine lv_bipush (v := nI 16) hx hb dX1_isBlockSize_7 (by decide +kernel) ?_
    refine lv_icmp_eq (tgt := 24) hx hb dX1_isBlockSize_9 (by decide) (fun c9 => ?_) (fun c9 => ?_)
    · refine lv_iconst (v := nI 1) hx hb dX1_isBlockSize_24 (by decide +kernel) ?_
      refine lv_goto (tgt := 29) hx hb dX1_isBlockSize_25 (by decide) ?_
      exact W.zret hx hb hr rfl (fun t ht hW => ⟨_, rfl, bI_1 (by simp [c3, c9]), ht⟩) t_nil dX1_isBlockSize_29
    · refine lv_iload_n hx hb dX1_isBlockSize_12 rfl (lv_at hl 0 rfl) ?_
      refine lv_bipush (v := nI 32) hx hb dX1_isBlockSize_13 (by decide +kernel) ?_
      refine lv_icmp_eq (tgt := 24) hx hb dX1_isBlockSize_15 (by decide) (fun c15 => ?_) (fun c15 => ?_)
      · refine lv_iconst (v := nI 1) hx hb dX1_isBlockSize_24 (by decide +kernel) ?_
        refine lv_goto (tgt := 29) hx hb dX1_isBlockSize_25 (by decide) ?_
        exact W.zret hx hb hr rfl (fun t ht hW => ⟨_, rfl, bI_1 (by simp [c3, c9, c15]), ht⟩) t_nil dX1_isBlockSize_29
      · refine lv_iload_n hx hb dX1_isBlockSize_18 rfl (lv_at hl 0 rfl) ?_
        refine lv_bipush (v := nI 64) hx hb dX1_isBlockSize_19 (by decide +kernel) ?_
        refine lv_icmp_ne (tgt := 28) hx hb dX1_isBlockSize_21 (by decide) (fun c21 => ?_) (fun c21 => ?_)
        · refine lv_iconst (v := nI 0) hx hb dX1_isBlockSize_28 (by decide +kernel) ?_
          exact W.zret hx hb hr rfl (fun t ht hW => ⟨_, rfl, bI_0 (by simp [c3, c9, c15, c21]), ht⟩) t_nil dX1_isBlockSize_29
        · refine lv_iconst (v := nI 1) hx hb dX1_isBlockSize_24 (by decide +kernel) ?_
          refine lv_goto (tgt := 29) hx hb dX1_isBlockSize_25 (by decide) ?_
          exact W.zret hx hb hr rfl (fun t ht hW => ⟨_, rfl, bI_1 (by simp [c3, c9, c15, c21]), ht⟩) t_nil dX1_isBlockSize_29
set_option maxHeartbeats 4000000 in
set_option maxRecDepth 100000 in
/-- isRoot -/
theorem c_isRoot (l : Launch) (x : Int32) : Met l yX1_isRoot wsX1_isRoot ({ frames := 0, cells := 0, slots := 0, locals := 0 }) (va_Pc [.int x] (fun _ => True)) (vp_Si (fun r9 => r9 = bI (inR 8 x))) 0 0 (fun _ => False) := by
  refine Met.ofW (cc := cX1_isRoot) (maxL := 1) (ret := (some .boolean)) (by decide) rfl ?_
  intro p e s m args below meth c s₁ B9 hml hv
  obtain ⟨rfl, -⟩ := hv
  have hx := B9.exec
  have hb := B9.bytes
  have hr := B9.returns
  have hts := atoms_spec (ws := wsX1_isRoot) B9.pre
  have hown : s.vm.findClass RX1 = some m.cls := findClass_of_methodNamed B9.named
  have hlocks := B9.notSynchronized
  have hl := lv_entry ([.int x]) (n := 1) (Nat.le_of_ble_eq_true rfl)
  rw [lg_entry_eq]
  generalize (lg_sl ([.int x]) ++ List.replicate (1 - (lg_sl ([.int x])).length) Slot.unset).toArray = ls at hl ⊢
  have hl : lv_has ls 1 [(0, .int x)] := hl
  rcases xk_sgn x with hneg | ⟨a, ha, rfl⟩
  · refine lv_iload_n hx hb dX1_isRoot_0 rfl (lv_at hl 0 rfl) ?_
    refine lv_if_lt (tgt := 14) hx hb dX1_isRoot_1 (by decide) (fun c1 => ?_) (fun c1 => absurd hneg c1)
    refine lv_iconst (v := nI 0) hx hb dX1_isRoot_14 (by decide +kernel) ?_
    exact W.zret hx hb hr rfl (fun t ht hW => ⟨_, rfl, bI_0 (inR_neg hneg), ht⟩) t_nil dX1_isRoot_15
  · refine lv_iload_n hx hb dX1_isRoot_0 rfl (lv_at hl 0 rfl) ?_
    refine xk_if_lt (tgt := 14) hx hb (by omega) dX1_isRoot_1 (by decide) ?_
    refine lv_iload_n hx hb dX1_isRoot_4 rfl (lv_at hl 0 rfl) ?_
    refine lv_bipush (v := nI 8) hx hb dX1_isRoot_5 (by decide +kernel) ?_
    refine xk_icmp_ge (tgt := 14) hx hb (by omega) (by omega) dX1_isRoot_7 (by decide) (fun c7 => ?_) (fun c7 => ?_)
    · refine lv_iconst (v := nI 0) hx hb dX1_isRoot_14 (by decide +kernel) ?_
      exact W.zret hx hb hr rfl (fun t ht hW => ⟨_, rfl, bI_0 (by rw [inR_nat ha]; simp; omega), ht⟩) t_nil dX1_isRoot_15
    · refine lv_iconst (v := nI 1) hx hb dX1_isRoot_10 (by decide +kernel) ?_
      refine lv_goto (tgt := 15) hx hb dX1_isRoot_11 (by decide) ?_
      exact W.zret hx hb hr rfl (fun t ht hW => ⟨_, rfl, bI_1 (by rw [inR_nat ha]; simp; omega), ht⟩) t_nil dX1_isRoot_15
set_option maxHeartbeats 4000000 in
set_option maxRecDepth 100000 in
/-- isWord -/
theorem c_isWord (l : Launch) (D : va_G) (cI cL : ClassId) (h0 : Nat) (ad : Nat → Nat) (n B nb tp ob co rd : Nat) (rts offs fnd mem frs : Nat → Int32) (btw snw stw fsw : Nat → Int64) (x : Int32) (hn : n ≤ 4000) : Met l yX1_isWord wsX1_isWord ({ frames := 0, cells := 0, slots := 0, locals := 0 }) (va_Pc [.ref h0, .int x] (fun U => va_P D vwCl (cW cI cL h0 ad n B nb tp ob co rd rts offs fnd mem frs btw snw stw fsw) U.heap ∧ va_K D vwCl [(cI, .int), (cL, .long)] U)) (vp_Si (fun r9 => r9 = bI (inR (n + 1) x))) 0 0 (fun _ => False) := by
  refine Met.ofW (cc := cX1_isWord) (maxL := 2) (ret := (some .boolean)) (by decide) rfl ?_
  intro p e s m args below meth c s₁ B9 hml hv
  obtain ⟨rfl, hP, hK⟩ := hv
  have hx := B9.exec
  have hb := B9.bytes
  have hr := B9.returns
  have hts := atoms_spec (ws := wsX1_isWord) B9.pre
  have hown : s.vm.findClass RX1 = some m.cls := findClass_of_methodNamed B9.named
  have hlocks := B9.notSynchronized
  have hl := lv_entry ([.ref h0, .int x]) (n := 2) (Nat.le_of_ble_eq_true rfl)
  rw [lg_entry_eq]
  generalize (lg_sl ([.ref h0, .int x]) ++ List.replicate (2 - (lg_sl ([.ref h0, .int x])).length) Slot.unset).toArray = ls at hl ⊢
  have hl : lv_has ls 2 [(0, .ref h0), (1, .int x)] := hl
  rcases xk_sgn x with hneg | ⟨a, ha, rfl⟩
  · refine lv_iload_n hx hb dX1_isWord_0 rfl (lv_at hl 1 rfl) ?_
    refine lv_if_lt (tgt := 16) hx hb dX1_isWord_1 (by decide) (fun c1 => ?_) (fun c1 => absurd hneg c1)
    refine lv_iconst (v := nI 0) hx hb dX1_isWord_16 (by decide +kernel) ?_
    exact W.zret hx hb hr rfl (fun t ht hW => ⟨_, rfl, bI_0 (inR_neg hneg), ht⟩) t_nil dX1_isWord_17
  · refine lv_iload_n hx hb dX1_isWord_0 rfl (lv_at hl 1 rfl) ?_
    refine xk_if_lt (tgt := 16) hx hb (by omega) dX1_isWord_1 (by decide) ?_
    refine lv_iload_n hx hb dX1_isWord_4 rfl (lv_at hl 1 rfl) ?_
    refine lv_aload_n hx hb dX1_isWord_5 rfl (lv_at hl 0 rfl) ?_
    refine va_get (D := D) (ci := 1) (v := .int (nI n)) (C := RX1) (T := TX1) (N := 16) hx hb hts in_X1_isWord_X1 hown hK hP 0 rfl rfl 0 (by decide) (hts (.fieldLink RX1 18 "OffsetHeap" "last" "I") (by decide +kernel)) (fun _ h9 => h9) rfl dX1_isWord_6 ?_
    refine xk_icmp_gt (tgt := 16) hx hb (by omega) (by omega) dX1_isWord_9 (by decide) (fun c9 => ?_) (fun c9 => ?_)
    · refine lv_iconst (v := nI 0) hx hb dX1_isWord_16 (by decide +kernel) ?_
      exact W.zret hx hb hr rfl (fun t ht hW => ⟨_, rfl, bI_0 (by rw [inR_nat ha]; simp; omega), ht⟩) t_nil dX1_isWord_17
    · refine lv_iconst (v := nI 1) hx hb dX1_isWord_12 (by decide +kernel) ?_
      refine lv_goto (tgt := 17) hx hb dX1_isWord_13 (by decide) ?_
      exact W.zret hx hb hr rfl (fun t ht hW => ⟨_, rfl, bI_1 (by rw [inR_nat ha]; simp; omega), ht⟩) t_nil dX1_isWord_17
set_option maxHeartbeats 4000000 in
set_option maxRecDepth 100000 in
/-- isObject -/
theorem c_isObject (l : Launch) (D : va_G) (cI cL : ClassId) (h0 : Nat) (ad : Nat → Nat) (n B nb tp ob co rd : Nat) (rts offs fnd mem frs : Nat → Int32) (btw snw stw fsw : Nat → Int64) (x : Int32) (hn : n ≤ 4000) (htp : tp ≤ n + 1) : Met l yX1_isObject wsX1_isObject ({ frames := 1, cells := 0, slots := 0, locals := 30 }) (va_Pc [.ref h0, .int x] (fun U => va_P D vwCl (cW cI cL h0 ad n B nb tp ob co rd rts offs fnd mem frs btw snw stw fsw) U.heap ∧ va_K D vwCl [(cI, .int), (cL, .long)] U)) (vp_Si (fun r9 => r9 = bI (isO tp (bo stw) x))) 0 0 (fun _ => False) := by
  refine Met.ofW (cc := cX1_isObject) (maxL := 2) (ret := (some .boolean)) (by decide) rfl ?_
  intro p e s m args below meth c s₁ B9 hml hv
  obtain ⟨rfl, hP, hK⟩ := hv
  have hx := B9.exec
  have hb := B9.bytes
  have hr := B9.returns
  have hts := atoms_spec (ws := wsX1_isObject) B9.pre
  have hown : s.vm.findClass RX1 = some m.cls := findClass_of_methodNamed B9.named
  have hlocks := B9.notSynchronized
  have hl := lv_entry ([.ref h0, .int x]) (n := 2) (Nat.le_of_ble_eq_true rfl)
  rw [lg_entry_eq]
  generalize (lg_sl ([.ref h0, .int x]) ++ List.replicate (2 - (lg_sl ([.ref h0, .int x])).length) Slot.unset).toArray = ls at hl ⊢
  have hl : lv_has ls 2 [(0, .ref h0), (1, .int x)] := hl
  rcases xk_sgn x with hneg | ⟨a, ha, rfl⟩
  · refine lv_iload_n hx hb dX1_isObject_0 rfl (lv_at hl 1 rfl) ?_
    refine lv_iconst (v := nI 1) hx hb dX1_isObject_1 (by decide +kernel) ?_
    refine lv_icmp_lt (tgt := 28) hx hb dX1_isObject_2 (by decide) (fun c2 => ?_) (fun c2 => absurd (neg_lt hneg (by omega)) c2)
    refine lv_iconst (v := nI 0) hx hb dX1_isObject_28 (by decide +kernel) ?_
    exact W.zret hx hb hr rfl (fun t ht hW => ⟨_, rfl, bI_0 (isO_neg hneg), ht⟩) t_nil dX1_isObject_29
  · refine lv_iload_n hx hb dX1_isObject_0 rfl (lv_at hl 1 rfl) ?_
    refine lv_iconst (v := nI 1) hx hb dX1_isObject_1 (by decide +kernel) ?_
    refine xk_icmp_lt (tgt := 28) hx hb (by omega) (by omega) dX1_isObject_2 (by decide) (fun c2 => ?_) (fun c2 => ?_)
    · refine lv_iconst (v := nI 0) hx hb dX1_isObject_28 (by decide +kernel) ?_
      exact W.zret hx hb hr rfl (fun t ht hW => ⟨_, rfl, bI_0 (by rw [isO_nat ha]; simp; omega), ht⟩) t_nil dX1_isObject_29
    · refine lv_iload_n hx hb dX1_isObject_5 rfl (lv_at hl 1 rfl) ?_
      refine lv_aload_n hx hb dX1_isObject_6 rfl (lv_at hl 0 rfl) ?_
      refine va_get (D := D) (ci := 1) (v := .int (nI tp)) (C := RX1) (T := TX1) (N := 16) hx hb hts in_X1_isObject_X1 hown hK hP 0 rfl rfl 12 (by decide) (hts (.fieldLink RX1 66 "OffsetHeap" "top" "I") (by decide +kernel)) (fun _ h9 => h9) rfl dX1_isObject_7 ?_
      refine xk_icmp_ge (tgt := 28) hx hb (by omega) (by omega) dX1_isObject_10 (by decide) (fun c10 => ?_) (fun c10 => ?_)
      · refine lv_iconst (v := nI 0) hx hb dX1_isObject_28 (by decide +kernel) ?_
        exact W.zret hx hb hr rfl (fun t ht hW => ⟨_, rfl, bI_0 (by rw [isO_nat ha]; simp; omega), ht⟩) t_nil dX1_isObject_29
      · refine lv_aload_n hx hb dX1_isObject_13 rfl (lv_at hl 0 rfl) ?_
        refine va_get (D := D) (ci := 1) (v := .ref (ad 10)) (C := RX1) (T := TX1) (N := 16) hx hb hts in_X1_isObject_X1 hown hK hP 0 rfl rfl 10 (by decide) (hts (.fieldLink RX1 60 "OffsetHeap" "starts" "LOffsetHeap$BitRow;") (by decide +kernel)) (fun _ h9 => h9) rfl dX1_isObject_14 ?_
        refine lv_iload_n hx hb dX1_isObject_17 rfl (lv_at hl 1 rfl) ?_
        refine xk_roV (As := [.int (nI a)]) (rest := []) ⟨hx, hb, hml, hown, hts⟩ (c_has l D cL (ad 10) (ad 11) (n / 64 + 1) stw (by omega) a (by omega) (by omega)) (cwV 1 hts gX1_isObject_X0_has rfl rfl rfl (by decide +kernel) ⟨Nat.le_of_ble_eq_true rfl, Nat.le_of_ble_eq_true rfl⟩) (va_recv hK hP (ci := 0) (q0 := 10) rfl rfl) (hP.sub [10, 11] rfl) (hK.sub [1] rfl) rfl hl.1 rfl (Nat.le_of_ble_eq_true rfl) dX1_isObject_18 ⟨Nat.zero_le _, Nat.zero_le _⟩ ?_
        refine xk_if_eqB (tgt := 28) hx hb dX1_isObject_21 (by decide) (fun c21 => ?_) (fun c21 => ?_)
        · refine lv_iconst (v := nI 0) hx hb dX1_isObject_28 (by decide +kernel) ?_
          exact W.zret hx hb hr rfl (fun t ht hW => ⟨_, rfl, bI_0 (by rw [isO_nat ha]; simp [c21]), ht⟩) t_nil dX1_isObject_29
        · refine lv_iconst (v := nI 1) hx hb dX1_isObject_24 (by decide +kernel) ?_
          refine lv_goto (tgt := 29) hx hb dX1_isObject_25 (by decide) ?_
          exact W.zret hx hb hr rfl (fun t ht hW => ⟨_, rfl, bI_1 (by rw [isO_nat ha]; simp [c21]; omega), ht⟩) t_nil dX1_isObject_29
set_option maxHeartbeats 4000000 in
set_option maxRecDepth 100000 in
/-- isObjectOrNone -/
theorem c_isObjectOrNone (l : Launch) (D : va_G) (cI cL : ClassId) (h0 : Nat) (ad : Nat → Nat) (n B nb tp ob co rd : Nat) (rts offs fnd mem frs : Nat → Int32) (btw snw stw fsw : Nat → Int64) (x : Int32) (hn : n ≤ 4000) (htp : tp ≤ n + 1) : Met l yX1_isObjectOrNone wsX1_isObjectOrNone ({ frames := 2, cells := 0, slots := 0, locals := 60 }) (va_Pc [.ref h0, .int x] (fun U => va_P D vwCl (cW cI cL h0 ad n B nb tp ob co rd rts offs fnd mem frs btw snw stw fsw) U.heap ∧ va_K D vwCl [(cI, .int), (cL, .long)] U)) (vp_Si (fun r9 => r9 = bI (isL tp (bo stw) x))) 0 0 (fun _ => False) := by
  refine Met.ofW (cc := cX1_isObjectOrNone) (maxL := 2) (ret := (some .boolean)) (by decide) rfl ?_
  intro p e s m args below meth c s₁ B9 hml hv
  obtain ⟨rfl, hP, hK⟩ := hv
  have hx := B9.exec
  have hb := B9.bytes
  have hr := B9.returns
  have hts := atoms_spec (ws := wsX1_isObjectOrNone) B9.pre
  have hown : s.vm.findClass RX1 = some m.cls := findClass_of_methodNamed B9.named
  have hlocks := B9.notSynchronized
  have hl := lv_entry ([.ref h0, .int x]) (n := 2) (Nat.le_of_ble_eq_true rfl)
  rw [lg_entry_eq]
  generalize (lg_sl ([.ref h0, .int x]) ++ List.replicate (2 - (lg_sl ([.ref h0, .int x])).length) Slot.unset).toArray = ls at hl ⊢
  have hl : lv_has ls 2 [(0, .ref h0), (1, .int x)] := hl
  refine lv_iload_n hx hb dX1_isObjectOrNone_0 rfl (lv_at hl 1 rfl) ?_
  refine lv_if_eq (tgt := 12) hx hb dX1_isObjectOrNone_1 (by decide) (fun c1 => ?_) (fun c1 => ?_)
  · refine lv_iconst (v := nI 1) hx hb dX1_isObjectOrNone_12 (by decide +kernel) ?_
    refine lv_goto (tgt := 17) hx hb dX1_isObjectOrNone_13 (by decide) ?_
    exact W.zret hx hb hr rfl (fun t ht hW => ⟨_, rfl, bI_1 (by rw [c1]; exact isL_0), ht⟩) t_nil dX1_isObjectOrNone_17
  · refine lv_aload_n hx hb dX1_isObjectOrNone_4 rfl (lv_at hl 0 rfl) ?_
    refine lv_iload_n hx hb dX1_isObjectOrNone_5 rfl (lv_at hl 1 rfl) ?_
    refine xk_roV (As := [.int x]) (rest := []) ⟨hx, hb, hml, hown, hts⟩ (c_isObject l D cI cL h0 ad n B nb tp ob co rd rts offs fnd mem frs btw snw stw fsw x hn htp) (cwV 1 hts gX1_isObjectOrNone_X1_isObject rfl rfl rfl (by decide +kernel) ⟨Nat.le_of_ble_eq_true rfl, Nat.le_of_ble_eq_true rfl⟩) (va_recv hK hP (ci := 1) (q0 := 0) rfl rfl) hP hK rfl hl.1 rfl (Nat.le_of_ble_eq_true rfl) dX1_isObjectOrNone_6 ⟨Nat.zero_le _, Nat.zero_le _⟩ ?_
    refine xk_if_eqB (tgt := 16) hx hb dX1_isObjectOrNone_9 (by decide) (fun c9 => ?_) (fun c9 => ?_)
    · refine lv_iconst (v := nI 0) hx hb dX1_isObjectOrNone_16 (by decide +kernel) ?_
      exact W.zret hx hb hr rfl (fun t ht hW => ⟨_, rfl, bI_0 (by rw [isL_O c1]; exact c9), ht⟩) t_nil dX1_isObjectOrNone_17
    · refine lv_iconst (v := nI 1) hx hb dX1_isObjectOrNone_12 (by decide +kernel) ?_
      refine lv_goto (tgt := 17) hx hb dX1_isObjectOrNone_13 (by decide) ?_
      exact W.zret hx hb hr rfl (fun t ht hW => ⟨_, rfl, bI_1 (by rw [isL_O c1]; exact c9), ht⟩) t_nil dX1_isObjectOrNone_17
set_option maxHeartbeats 4000000 in
set_option maxRecDepth 100000 in
/-- word -/
theorem c_word (l : Launch) (D : va_G) (cI cL : ClassId) (h0 : Nat) (ad : Nat → Nat) (n B nb tp ob co rd : Nat) (rts offs fnd mem frs : Nat → Int32) (btw snw stw fsw : Nat → Int64) (x : Int32) (hn : n ≤ 4000) : Met l yX1_word wsX1_word ({ frames := 1, cells := 0, slots := 0, locals := 30 }) (va_Pc [.ref h0, .int x] (fun U => va_P D vwCl (cW cI cL h0 ad n B nb tp ob co rd rts offs fnd mem frs btw snw stw fsw) U.heap ∧ va_K D vwCl [(cI, .int), (cL, .long)] U)) (vp_Si (fun r9 => r9 = atR (n + 1) mem x)) 0 0 (fun _ => False) := by
  refine Met.ofW (cc := cX1_word) (maxL := 2) (ret := (some .int)) (by decide) rfl ?_
  intro p e s m args below meth c s₁ B9 hml hv
  obtain ⟨rfl, hP, hK⟩ := hv
  have hx := B9.exec
  have hb := B9.bytes
  have hr := B9.returns
  have hts := atoms_spec (ws := wsX1_word) B9.pre
  have hown : s.vm.findClass RX1 = some m.cls := findClass_of_methodNamed B9.named
  have hlocks := B9.notSynchronized
  have hl := lv_entry ([.ref h0, .int x]) (n := 2) (Nat.le_of_ble_eq_true rfl)
  rw [lg_entry_eq]
  generalize (lg_sl ([.ref h0, .int x]) ++ List.replicate (2 - (lg_sl ([.ref h0, .int x])).length) Slot.unset).toArray = ls at hl ⊢
  have hl : lv_has ls 2 [(0, .ref h0), (1, .int x)] := hl
  rcases xk_sgn x with hneg | ⟨a, ha, rfl⟩
  · refine lv_aload_n hx hb dX1_word_0 rfl (lv_at hl 0 rfl) ?_
    refine lv_iload_n hx hb dX1_word_1 rfl (lv_at hl 1 rfl) ?_
    refine xk_roV (As := [.int x]) (rest := []) ⟨hx, hb, hml, hown, hts⟩ (c_isWord l D cI cL h0 ad n B nb tp ob co rd rts offs fnd mem frs btw snw stw fsw x hn) (cwV 1 hts gX1_word_X1_isWord rfl rfl rfl (by decide +kernel) ⟨Nat.le_of_ble_eq_true rfl, Nat.le_of_ble_eq_true rfl⟩) (va_recv hK hP (ci := 1) (q0 := 0) rfl rfl) hP hK rfl hl.1 rfl (Nat.le_of_ble_eq_true rfl) dX1_word_2 ⟨Nat.zero_le _, Nat.zero_le _⟩ ?_
    refine xk_if_eqB (tgt := 17) hx hb dX1_word_5 (by decide) (fun c5 => ?_) (fun c5 => absurd c5 (by rw [inR_neg hneg]; decide))
    refine lv_iconst (v := (-1)) hx hb dX1_word_17 (by decide +kernel) ?_
    exact W.iret hx hb hr (fun t ht hW => ⟨_, rfl, (atR_neg hneg).symm, ht⟩) t_nil dX1_word_18
  · refine lv_aload_n hx hb dX1_word_0 rfl (lv_at hl 0 rfl) ?_
    refine lv_iload_n hx hb dX1_word_1 rfl (lv_at hl 1 rfl) ?_
    refine xk_roV (As := [.int (nI a)]) (rest := []) ⟨hx, hb, hml, hown, hts⟩ (c_isWord l D cI cL h0 ad n B nb tp ob co rd rts offs fnd mem frs btw snw stw fsw (nI a) hn) (cwV 1 hts gX1_word_X1_isWord rfl rfl rfl (by decide +kernel) ⟨Nat.le_of_ble_eq_true rfl, Nat.le_of_ble_eq_true rfl⟩) (va_recv hK hP (ci := 1) (q0 := 0) rfl rfl) hP hK rfl hl.1 rfl (Nat.le_of_ble_eq_true rfl) dX1_word_2 ⟨Nat.zero_le _, Nat.zero_le _⟩ ?_
    refine xk_if_eqB (tgt := 17) hx hb dX1_word_5 (by decide) (fun c5 => ?_) (fun c5 => ?_)
    · rw [inR_nat ha] at c5; simp at c5
      refine lv_iconst (v := (-1)) hx hb dX1_word_17 (by decide +kernel) ?_
      exact W.iret hx hb hr (fun t ht hW => ⟨_, rfl, (atR_out ha (by omega)).symm, ht⟩) t_nil dX1_word_18
    · rw [inR_nat ha] at c5; simp at c5
      refine lv_aload_n hx hb dX1_word_8 rfl (lv_at hl 0 rfl) ?_
      refine va_get (D := D) (ci := 1) (v := .ref (ad 8)) (C := RX1) (T := TX1) (N := 16) hx hb hts in_X1_word_X1 hown hK hP 0 rfl rfl 8 (by decide) (hts (.fieldLink RX1 54 "OffsetHeap" "space" "[I") (by decide +kernel)) (fun _ h9 => h9) rfl dX1_word_9 ?_
      refine lv_iload_n hx hb dX1_word_12 rfl (lv_at hl 1 rfl) ?_
      refine xk_iald hx hb hK hP 8 0 rfl rfl (by omega) (by omega) dX1_word_13 ?_
      refine lv_goto (tgt := 18) hx hb dX1_word_14 (by decide) ?_
      exact W.iret hx hb hr (fun t ht hW => ⟨_, rfl, (atR_in ha (by omega)).symm, ht⟩) t_nil dX1_word_18
set_option maxHeartbeats 4000000 in
set_option maxRecDepth 100000 in
/-- rootOf -/
theorem c_rootOf (l : Launch) (D : va_G) (cI cL : ClassId) (h0 : Nat) (ad : Nat → Nat) (n B nb tp ob co rd : Nat) (rts offs fnd mem frs : Nat → Int32) (btw snw stw fsw : Nat → Int64) (x : Int32) : Met l yX1_rootOf wsX1_rootOf ({ frames := 1, cells := 0, slots := 0, locals := 30 }) (va_Pc [.ref h0, .int x] (fun U => va_P D vwCl (cW cI cL h0 ad n B nb tp ob co rd rts offs fnd mem frs btw snw stw fsw) U.heap ∧ va_K D vwCl [(cI, .int), (cL, .long)] U)) (vp_Si (fun r9 => r9 = atR 8 rts x)) 0 0 (fun _ => False) := by
  refine Met.ofW (cc := cX1_rootOf) (maxL := 2) (ret := (some .int)) (by decide) rfl ?_
  intro p e s m args below meth c s₁ B9 hml hv
  obtain ⟨rfl, hP, hK⟩ := hv
  have hx := B9.exec
  have hb := B9.bytes
  have hr := B9.returns
  have hts := atoms_spec (ws := wsX1_rootOf) B9.pre
  have hown : s.vm.findClass RX1 = some m.cls := findClass_of_methodNamed B9.named
  have hlocks := B9.notSynchronized
  have hl := lv_entry ([.ref h0, .int x]) (n := 2) (Nat.le_of_ble_eq_true rfl)
  rw [lg_entry_eq]
  generalize (lg_sl ([.ref h0, .int x]) ++ List.replicate (2 - (lg_sl ([.ref h0, .int x])).length) Slot.unset).toArray = ls at hl ⊢
  have hl : lv_has ls 2 [(0, .ref h0), (1, .int x)] := hl
  rcases xk_sgn x with hneg | ⟨a, ha, rfl⟩
  · refine lv_iload_n hx hb dX1_rootOf_0 rfl (lv_at hl 1 rfl) ?_
    refine xk_roS (As := [.int x]) (rest := []) ⟨hx, hb, hml, hown, hts⟩ (c_isRoot l x) (va_cwS 1 hts gX1_rootOf_X1_isRoot rfl rfl rfl (by decide +kernel) ⟨Nat.le_of_ble_eq_true rfl, Nat.le_of_ble_eq_true rfl⟩) rfl hl.1 rfl (Nat.le_of_ble_eq_true rfl) dX1_rootOf_1 ⟨Nat.zero_le _, Nat.zero_le _⟩ ?_
    refine xk_if_eqB (tgt := 16) hx hb dX1_rootOf_4 (by decide) (fun c4 => ?_) (fun c4 => absurd c4 (by rw [inR_neg hneg]; decide))
    refine lv_iconst (v := (-1)) hx hb dX1_rootOf_16 (by decide +kernel) ?_
    exact W.iret hx hb hr (fun t ht hW => ⟨_, rfl, (atR_neg hneg).symm, ht⟩) t_nil dX1_rootOf_17
  · refine lv_iload_n hx hb dX1_rootOf_0 rfl (lv_at hl 1 rfl) ?_
    refine xk_roS (As := [.int (nI a)]) (rest := []) ⟨hx, hb, hml, hown, hts⟩ (c_isRoot l (nI a)) (va_cwS 1 hts gX1_rootOf_X1_isRoot rfl rfl rfl (by decide +kernel) ⟨Nat.le_of_ble_eq_true rfl, Nat.le_of_ble_eq_true rfl⟩) rfl hl.1 rfl (Nat.le_of_ble_eq_true rfl) dX1_rootOf_1 ⟨Nat.zero_le _, Nat.zero_le _⟩ ?_
    refine xk_if_eqB (tgt := 16) hx hb dX1_rootOf_4 (by decide) (fun c4 => ?_) (fun c4 => ?_)
    · rw [inR_nat ha] at c4; simp at c4
      refine lv_iconst (v := (-1)) hx hb dX1_rootOf_16 (by decide +kernel) ?_
      exact W.iret hx hb hr (fun t ht hW => ⟨_, rfl, (atR_out ha (by omega)).symm, ht⟩) t_nil dX1_rootOf_17
    · rw [inR_nat ha] at c4; simp at c4
      refine lv_aload_n hx hb dX1_rootOf_7 rfl (lv_at hl 0 rfl) ?_
      refine va_get (D := D) (ci := 1) (v := .ref (ad 1)) (C := RX1) (T := TX1) (N := 16) hx hb hts in_X1_rootOf_X1 hown hK hP 0 rfl rfl 3 (by decide) (hts (.fieldLink RX1 32 "OffsetHeap" "roots" "[I") (by decide +kernel)) (fun _ h9 => h9) rfl dX1_rootOf_8 ?_
      refine lv_iload_n hx hb dX1_rootOf_11 rfl (lv_at hl 1 rfl) ?_
      refine xk_iald hx hb hK hP 1 0 rfl rfl (by omega) (by omega) dX1_rootOf_12 ?_
      refine lv_goto (tgt := 17) hx hb dX1_rootOf_13 (by decide) ?_
      exact W.iret hx hb hr (fun t ht hW => ⟨_, rfl, (atR_in ha (by omega)).symm, ht⟩) t_nil dX1_rootOf_17
set_option maxHeartbeats 4000000 in
set_option maxRecDepth 100000 in
/-- bit -/
theorem c_bit (l : Launch) (D : va_G) (cI cL : ClassId) (h0 : Nat) (ad : Nat → Nat) (n B nb tp ob co rd : Nat) (rts offs fnd mem frs : Nat → Int32) (btw snw stw fsw : Nat → Int64) (x : Int32) (hn : n ≤ 4000) : Met l yX1_bit wsX1_bit ({ frames := 1, cells := 0, slots := 0, locals := 30 }) (va_Pc [.ref h0, .int x] (fun U => va_P D vwCl (cW cI cL h0 ad n B nb tp ob co rd rts offs fnd mem frs btw snw stw fsw) U.heap ∧ va_K D vwCl [(cI, .int), (cL, .long)] U)) (vp_Si (fun r9 => r9 = atR (n + 1) (fun a => bI (bo btw a)) x)) 0 0 (fun _ => False) := by
  refine Met.ofW (cc := cX1_bit) (maxL := 2) (ret := (some .int)) (by decide) rfl ?_
  intro p e s m args below meth c s₁ B9 hml hv
  obtain ⟨rfl, hP, hK⟩ := hv
  have hx := B9.exec
  have hb := B9.bytes
  have hr := B9.returns
  have hts := atoms_spec (ws := wsX1_bit) B9.pre
  have hown : s.vm.findClass RX1 = some m.cls := findClass_of_methodNamed B9.named
  have hlocks := B9.notSynchronized
  have hl := lv_entry ([.ref h0, .int x]) (n := 2) (Nat.le_of_ble_eq_true rfl)
  rw [lg_entry_eq]
  generalize (lg_sl ([.ref h0, .int x]) ++ List.replicate (2 - (lg_sl ([.ref h0, .int x])).length) Slot.unset).toArray = ls at hl ⊢
  have hl : lv_has ls 2 [(0, .ref h0), (1, .int x)] := hl
  rcases xk_sgn x with hneg | ⟨a, ha, rfl⟩
  · refine lv_aload_n hx hb dX1_bit_0 rfl (lv_at hl 0 rfl) ?_
    refine lv_iload_n hx hb dX1_bit_1 rfl (lv_at hl 1 rfl) ?_
    refine xk_roV (As := [.int x]) (rest := []) ⟨hx, hb, hml, hown, hts⟩ (c_isWord l D cI cL h0 ad n B nb tp ob co rd rts offs fnd mem frs btw snw stw fsw x hn) (cwV 1 hts gX1_bit_X1_isWord rfl rfl rfl (by decide +kernel) ⟨Nat.le_of_ble_eq_true rfl, Nat.le_of_ble_eq_true rfl⟩) (va_recv hK hP (ci := 1) (q0 := 0) rfl rfl) hP hK rfl hl.1 rfl (Nat.le_of_ble_eq_true rfl) dX1_bit_2 ⟨Nat.zero_le _, Nat.zero_le _⟩ ?_
    refine xk_if_neB (tgt := 10) hx hb dX1_bit_5 (by decide) (fun c5 => absurd c5 (by rw [inR_neg hneg]; decide)) (fun c5 => ?_)
    refine lv_iconst (v := (-1)) hx hb dX1_bit_8 (by decide +kernel) ?_
    exact W.iret hx hb hr (fun t ht hW => ⟨_, rfl, (atR_neg hneg).symm, ht⟩) t_nil dX1_bit_9
  · refine lv_aload_n hx hb dX1_bit_0 rfl (lv_at hl 0 rfl) ?_
    refine lv_iload_n hx hb dX1_bit_1 rfl (lv_at hl 1 rfl) ?_
    refine xk_roV (As := [.int (nI a)]) (rest := []) ⟨hx, hb, hml, hown, hts⟩ (c_isWord l D cI cL h0 ad n B nb tp ob co rd rts offs fnd mem frs btw snw stw fsw (nI a) hn) (cwV 1 hts gX1_bit_X1_isWord rfl rfl rfl (by decide +kernel) ⟨Nat.le_of_ble_eq_true rfl, Nat.le_of_ble_eq_true rfl⟩) (va_recv hK hP (ci := 1) (q0 := 0) rfl rfl) hP hK rfl hl.1 rfl (Nat.le_of_ble_eq_true rfl) dX1_bit_2 ⟨Nat.zero_le _, Nat.zero_le _⟩ ?_
    refine xk_if_neB (tgt := 10) hx hb dX1_bit_5 (by decide) (fun c5 => ?_) (fun c5 => ?_)
    · rw [inR_nat ha] at c5; simp at c5
      refine lv_aload_n hx hb dX1_bit_10 rfl (lv_at hl 0 rfl) ?_
      refine va_get (D := D) (ci := 1) (v := .ref (ad 2)) (C := RX1) (T := TX1) (N := 16) hx hb hts in_X1_bit_X1 hown hK hP 0 rfl rfl 4 (by decide) (hts (.fieldLink RX1 41 "OffsetHeap" "bits" "LOffsetHeap$BitRow;") (by decide +kernel)) (fun _ h9 => h9) rfl dX1_bit_11 ?_
      refine lv_iload_n hx hb dX1_bit_14 rfl (lv_at hl 1 rfl) ?_
      refine xk_roV (As := [.int (nI a)]) (rest := []) ⟨hx, hb, hml, hown, hts⟩ (c_has l D cL (ad 2) (ad 3) (n / 64 + 1) btw (by omega) a (by omega) (by omega)) (cwV 1 hts gX1_bit_X0_has rfl rfl rfl (by decide +kernel) ⟨Nat.le_of_ble_eq_true rfl, Nat.le_of_ble_eq_true rfl⟩) (va_recv hK hP (ci := 0) (q0 := 2) rfl rfl) (hP.sub [2, 3] rfl) (hK.sub [1] rfl) rfl hl.1 rfl (Nat.le_of_ble_eq_true rfl) dX1_bit_15 ⟨Nat.zero_le _, Nat.zero_le _⟩ ?_
      refine xk_if_eqB (tgt := 25) hx hb dX1_bit_18 (by decide) (fun c18 => ?_) (fun c18 => ?_)
      · refine lv_iconst (v := nI 0) hx hb dX1_bit_25 (by decide +kernel) ?_
        exact W.iret hx hb hr (fun t ht hW => ⟨_, rfl, by rw [atR_in ha (by omega)]; exact bI_0 c18, ht⟩) t_nil dX1_bit_26
      · refine lv_iconst (v := nI 1) hx hb dX1_bit_21 (by decide +kernel) ?_
        refine lv_goto (tgt := 26) hx hb dX1_bit_22 (by decide) ?_
        exact W.iret hx hb hr (fun t ht hW => ⟨_, rfl, by rw [atR_in ha (by omega)]; exact bI_1 c18, ht⟩) t_nil dX1_bit_26
    · rw [inR_nat ha] at c5; simp at c5
      refine lv_iconst (v := (-1)) hx hb dX1_bit_8 (by decide +kernel) ?_
      exact W.iret hx hb hr (fun t ht hW => ⟨_, rfl, (atR_out ha (by omega)).symm, ht⟩) t_nil dX1_bit_9
set_option maxHeartbeats 4000000 in
set_option maxRecDepth 100000 in
/-- offset -/
theorem c_offset (l : Launch) (D : va_G) (cI cL : ClassId) (h0 : Nat) (ad : Nat → Nat) (n B nb tp ob co rd : Nat) (rts offs fnd mem frs : Nat → Int32) (btw snw stw fsw : Nat → Int64) (x : Int32) (hnb : nb ≤ 4001) : Met l yX1_offset wsX1_offset ({ frames := 0, cells := 0, slots := 0, locals := 0 }) (va_Pc [.ref h0, .int x] (fun U => va_P D vwCl (cW cI cL h0 ad n B nb tp ob co rd rts offs fnd mem frs btw snw stw fsw) U.heap ∧ va_K D vwCl [(cI, .int), (cL, .long)] U)) (vp_Si (fun r9 => r9 = atR nb offs x)) 0 0 (fun _ => False) := by
  refine Met.ofW (cc := cX1_offset) (maxL := 2) (ret := (some .int)) (by decide) rfl ?_
  intro p e s m args below meth c s₁ B9 hml hv
  obtain ⟨rfl, hP, hK⟩ := hv
  have hx := B9.exec
  have hb := B9.bytes
  have hr := B9.returns
  have hts := atoms_spec (ws := wsX1_offset) B9.pre
  have hown : s.vm.findClass RX1 = some m.cls := findClass_of_methodNamed B9.named
  have hlocks := B9.notSynchronized
  have hl := lv_entry ([.ref h0, .int x]) (n := 2) (Nat.le_of_ble_eq_true rfl)
  rw [lg_entry_eq]
  generalize (lg_sl ([.ref h0, .int x]) ++ List.replicate (2 - (lg_sl ([.ref h0, .int x])).length) Slot.unset).toArray = ls at hl ⊢
  have hl : lv_has ls 2 [(0, .ref h0), (1, .int x)] := hl
  rcases xk_sgn x with hneg | ⟨a, ha, rfl⟩
  · refine lv_iload_n hx hb dX1_offset_0 rfl (lv_at hl 1 rfl) ?_
    refine lv_if_lt (tgt := 21) hx hb dX1_offset_1 (by decide) (fun c1 => ?_) (fun c1 => absurd hneg c1)
    refine lv_iconst (v := (-1)) hx hb dX1_offset_21 (by decide +kernel) ?_
    exact W.iret hx hb hr (fun t ht hW => ⟨_, rfl, (atR_neg hneg).symm, ht⟩) t_nil dX1_offset_22
  · refine lv_iload_n hx hb dX1_offset_0 rfl (lv_at hl 1 rfl) ?_
    refine xk_if_lt (tgt := 21) hx hb (by omega) dX1_offset_1 (by decide) ?_
    refine lv_iload_n hx hb dX1_offset_4 rfl (lv_at hl 1 rfl) ?_
    refine lv_aload_n hx hb dX1_offset_5 rfl (lv_at hl 0 rfl) ?_
    refine va_get (D := D) (ci := 1) (v := .int (nI nb)) (C := RX1) (T := TX1) (N := 16) hx hb hts in_X1_offset_X1 hown hK hP 0 rfl rfl 2 (by decide) (hts (.fieldLink RX1 29 "OffsetHeap" "blocks" "I") (by decide +kernel)) (fun _ h9 => h9) rfl dX1_offset_6 ?_
    refine xk_icmp_ge (tgt := 21) hx hb (by omega) (by omega) dX1_offset_9 (by decide) (fun c9 => ?_) (fun c9 => ?_)
    · refine lv_iconst (v := (-1)) hx hb dX1_offset_21 (by decide +kernel) ?_
      exact W.iret hx hb hr (fun t ht hW => ⟨_, rfl, (atR_out ha (by omega)).symm, ht⟩) t_nil dX1_offset_22
    · refine lv_aload_n hx hb dX1_offset_12 rfl (lv_at hl 0 rfl) ?_
      refine va_get (D := D) (ci := 1) (v := .ref (ad 4)) (C := RX1) (T := TX1) (N := 16) hx hb hts in_X1_offset_X1 hown hK hP 0 rfl rfl 5 (by decide) (hts (.fieldLink RX1 45 "OffsetHeap" "offsets" "[I") (by decide +kernel)) (fun _ h9 => h9) rfl dX1_offset_13 ?_
      refine lv_iload_n hx hb dX1_offset_16 rfl (lv_at hl 1 rfl) ?_
      refine xk_iald hx hb hK hP 4 0 rfl rfl (by omega) (by omega) dX1_offset_17 ?_
      refine lv_goto (tgt := 22) hx hb dX1_offset_18 (by decide) ?_
      exact W.iret hx hb hr (fun t ht hW => ⟨_, rfl, (atR_in ha (by omega)).symm, ht⟩) t_nil dX1_offset_22
set_option maxHeartbeats 4000000 in
set_option maxRecDepth 100000 in
/-- reads -/
theorem c_reads (l : Launch) (D : va_G) (cI cL : ClassId) (h0 : Nat) (ad : Nat → Nat) (n B nb tp ob co rd : Nat) (rts offs fnd mem frs : Nat → Int32) (btw snw stw fsw : Nat → Int64) : Met l yX1_reads wsX1_reads ({ frames := 0, cells := 0, slots := 0, locals := 0 }) (va_Pc [.ref h0] (fun U => va_P D vwCl (cW cI cL h0 ad n B nb tp ob co rd rts offs fnd mem frs btw snw stw fsw) U.heap ∧ va_K D vwCl [(cI, .int), (cL, .long)] U)) (vp_Si (fun r9 => r9 = nI rd)) 0 0 (fun _ => False) := by
  refine Met.ofW (cc := cX1_reads) (maxL := 1) (ret := (some .int)) (by decide) rfl ?_
  intro p e s m args below meth c s₁ B9 hml hv
  obtain ⟨rfl, hP, hK⟩ := hv
  have hx := B9.exec
  have hb := B9.bytes
  have hr := B9.returns
  have hts := atoms_spec (ws := wsX1_reads) B9.pre
  have hown : s.vm.findClass RX1 = some m.cls := findClass_of_methodNamed B9.named
  have hlocks := B9.notSynchronized
  have hl := lv_entry ([.ref h0]) (n := 1) (Nat.le_of_ble_eq_true rfl)
  rw [lg_entry_eq]
  generalize (lg_sl ([.ref h0]) ++ List.replicate (1 - (lg_sl ([.ref h0])).length) Slot.unset).toArray = ls at hl ⊢
  have hl : lv_has ls 1 [(0, .ref h0)] := hl
  refine lv_aload_n hx hb dX1_reads_0 rfl (lv_at hl 0 rfl) ?_
  refine va_get (D := D) (ci := 1) (v := .int (nI rd)) (C := RX1) (T := TX1) (N := 16) hx hb hts in_X1_reads_X1 hown hK hP 0 rfl rfl 15 (by decide) (hts (.fieldLink RX1 125 "OffsetHeap" "wordsRead" "I") (by decide +kernel)) (fun _ h9 => h9) rfl dX1_reads_1 ?_
  exact W.iret hx hb hr (fun t ht hW => ⟨_, rfl, rfl, ht⟩) t_nil dX1_reads_4
set_option maxHeartbeats 4000000 in
set_option maxRecDepth 100000 in
/-- newAddress: 1 and the bits before -/
theorem c_newAddress (l : Launch) (D : va_G) (cI cL : ClassId) (h0 : Nat) (ad : Nat → Nat) (n B nb tp ob co rd : Nat) (rts offs fnd mem frs : Nat → Int32) (btw snw stw fsw : Nat → Int64) (i : Nat) (hn : n ≤ 4000) (hB : okB B) (hnb : nb = n / B + 1) (hof : offOk B nb offs (bo btw)) (hi : i ≤ n) : Met l yX1_newAddress wsX1_newAddress ({ frames := 2, cells := 0, slots := 0, locals := 60 }) (va_Pc [.ref h0, .int (nI i)] (fun U => va_P D vwCl (cW cI cL h0 ad n B nb tp ob co rd rts offs fnd mem frs btw snw stw fsw) U.heap ∧ va_K D vwCl [(cI, .int), (cL, .long)] U)) (vp_Si (fun r9 => r9 = nI (1 + cn (bo btw) i))) 0 0 (fun _ => False) := by
  refine Met.ofW (cc := cX1_newAddress) (maxL := 3) (ret := (some .int)) (by decide) rfl ?_
  intro p e s m args below meth c s₁ B9 hml hv
  obtain ⟨rfl, hP, hK⟩ := hv
  have hx := B9.exec
  have hb := B9.bytes
  have hr := B9.returns
  have hts := atoms_spec (ws := wsX1_newAddress) B9.pre
  have hown : s.vm.findClass RX1 = some m.cls := findClass_of_methodNamed B9.named
  have hlocks := B9.notSynchronized
  have hl := lv_entry ([.ref h0, .int (nI i)]) (n := 3) (Nat.le_of_ble_eq_true rfl)
  rw [lg_entry_eq]
  generalize (lg_sl ([.ref h0, .int (nI i)]) ++ List.replicate (3 - (lg_sl ([.ref h0, .int (nI i)])).length) Slot.unset).toArray = ls at hl ⊢
  have hl : lv_has ls 3 [(0, .ref h0), (1, .int (nI i))] := hl
  obtain ⟨b1, b2, b3, b4, b5⟩ := okB_div (i := i) hB
  have b6 : i / B ≤ n / B := Nat.div_le_div_right hi
  have b7 := cn_mono (bo btw) b1
  have b8 := cn_le (bo btw) i
  have b9 : n / B ≤ n := Nat.div_le_self _ _
  have b10 : i / B ≤ i := Nat.div_le_self _ _
  refine lv_iload_n hx hb dX1_newAddress_0 rfl (lv_at hl 1 rfl) ?_
  refine lv_aload_n hx hb dX1_newAddress_1 rfl (lv_at hl 0 rfl) ?_
  refine va_get (D := D) (ci := 1) (v := .int (nI B)) (C := RX1) (T := TX1) (N := 16) hx hb hts in_X1_newAddress_X1 hown hK hP 0 rfl rfl 1 (by decide) (hts (.fieldLink RX1 26 "OffsetHeap" "blockWords" "I") (by decide +kernel)) (fun _ h9 => h9) rfl dX1_newAddress_2 ?_
  refine lv_idiv hx hb dX1_newAddress_5 (nI_ne0 (by omega) (by omega)) ?_
  refine xk_top (pk_div (by omega) (by omega) (by omega)) ?_
  refine lv_istore_n (lv' := [(2, .int (nI (i / B))), (0, .ref h0), (1, .int (nI i))]) hx hb dX1_newAddress_6 rfl hl (by decide) rfl (fun ls hl => ?_)
  refine lv_iconst (v := nI 1) hx hb dX1_newAddress_7 (by decide +kernel) ?_
  refine lv_aload_n hx hb dX1_newAddress_8 rfl (lv_at hl 1 rfl) ?_
  refine va_get (D := D) (ci := 1) (v := .ref (ad 4)) (C := RX1) (T := TX1) (N := 16) hx hb hts in_X1_newAddress_X1 hown hK hP 0 rfl rfl 5 (by decide) (hts (.fieldLink RX1 45 "OffsetHeap" "offsets" "[I") (by decide +kernel)) (fun _ h9 => h9) rfl dX1_newAddress_9 ?_
  refine lv_iload_n hx hb dX1_newAddress_12 rfl (lv_at hl 0 rfl) ?_
  refine xk_iald hx hb hK hP 4 0 rfl rfl (by omega) (by omega) dX1_newAddress_13 ?_
  refine xk_top (hof (i / B) (by omega)) ?_
  refine lv_iadd hx hb dX1_newAddress_14 ?_
  refine xk_top (nI_add _ _) ?_
  refine lv_aload_n hx hb dX1_newAddress_15 rfl (lv_at hl 1 rfl) ?_
  refine va_get (D := D) (ci := 1) (v := .ref (ad 2)) (C := RX1) (T := TX1) (N := 16) hx hb hts in_X1_newAddress_X1 hown hK hP 0 rfl rfl 4 (by decide) (hts (.fieldLink RX1 41 "OffsetHeap" "bits" "LOffsetHeap$BitRow;") (by decide +kernel)) (fun _ h9 => h9) rfl dX1_newAddress_16 ?_
  refine lv_iload_n hx hb dX1_newAddress_19 rfl (lv_at hl 0 rfl) ?_
  refine lv_aload_n hx hb dX1_newAddress_20 rfl (lv_at hl 1 rfl) ?_
  refine va_get (D := D) (ci := 1) (v := .int (nI B)) (C := RX1) (T := TX1) (N := 16) hx hb hts in_X1_newAddress_X1 hown hK hP 0 rfl rfl 1 (by decide) (hts (.fieldLink RX1 26 "OffsetHeap" "blockWords" "I") (by decide +kernel)) (fun _ h9 => h9) rfl dX1_newAddress_21 ?_
  refine lv_imul hx hb dX1_newAddress_24 ?_
  refine xk_top (pk_mul _ _) ?_
  refine lv_iload_n hx hb dX1_newAddress_25 rfl (lv_at hl 2 rfl) ?_
  refine xk_roV (As := [.int (nI ((i / B) * B)), .int (nI i)]) (rest := [.int (nI (1 + (cn (bo btw) (i / B * B))))]) ⟨hx, hb, hml, hown, hts⟩ (c_between l D cL (ad 2) (ad 3) (n / 64 + 1) btw (by omega) ((i / B) * B) i (by omega) (by omega) (by omega) (by omega)) (cwV 2 hts gX1_newAddress_X0_between rfl rfl rfl (by decide +kernel) ⟨Nat.le_of_ble_eq_true rfl, Nat.le_of_ble_eq_true rfl⟩) (va_recv hK hP (ci := 0) (q0 := 2) rfl rfl) (hP.sub [2, 3] rfl) (hK.sub [1] rfl) rfl hl.1 rfl (Nat.le_of_ble_eq_true rfl) dX1_newAddress_26 ⟨Nat.zero_le _, Nat.zero_le _⟩ ?_
  refine lv_iadd hx hb dX1_newAddress_29 ?_
  refine xk_top (nI_add _ _) ?_
  exact W.iret hx hb hr (fun t ht hW => ⟨_, rfl, by congr 1; omega, ht⟩) t_nil dX1_newAddress_30
set_option maxHeartbeats 4000000 in
set_option maxRecDepth 100000 in
/-- newAddressOrNone -/
theorem c_newAddressOrNone (l : Launch) (D : va_G) (cI cL : ClassId) (h0 : Nat) (ad : Nat → Nat) (n B nb tp ob co rd : Nat) (rts offs fnd mem frs : Nat → Int32) (btw snw stw fsw : Nat → Int64) (i : Nat) (hn : n ≤ 4000) (hB : okB B) (hnb : nb = n / B + 1) (hof : offOk B nb offs (bo btw)) (hi : i ≤ n) : Met l yX1_newAddressOrNone wsX1_newAddressOrNone ({ frames := 3, cells := 0, slots := 0, locals := 90 }) (va_Pc [.ref h0, .int (nI i)] (fun U => va_P D vwCl (cW cI cL h0 ad n B nb tp ob co rd rts offs fnd mem frs btw snw stw fsw) U.heap ∧ va_K D vwCl [(cI, .int), (cL, .long)] U)) (vp_Si (fun r9 => r9 = nI (if i = 0 then 0 else 1 + cn (bo btw) i))) 0 0 (fun _ => False) := by
  refine Met.ofW (cc := cX1_newAddressOrNone) (maxL := 2) (ret := (some .int)) (by decide) rfl ?_
  intro p e s m args below meth c s₁ B9 hml hv
  obtain ⟨rfl, hP, hK⟩ := hv
  have hx := B9.exec
  have hb := B9.bytes
  have hr := B9.returns
  have hts := atoms_spec (ws := wsX1_newAddressOrNone) B9.pre
  have hown : s.vm.findClass RX1 = some m.cls := findClass_of_methodNamed B9.named
  have hlocks := B9.notSynchronized
  have hl := lv_entry ([.ref h0, .int (nI i)]) (n := 2) (Nat.le_of_ble_eq_true rfl)
  rw [lg_entry_eq]
  generalize (lg_sl ([.ref h0, .int (nI i)]) ++ List.replicate (2 - (lg_sl ([.ref h0, .int (nI i)])).length) Slot.unset).toArray = ls at hl ⊢
  have hl : lv_has ls 2 [(0, .ref h0), (1, .int (nI i))] := hl
  refine lv_iload_n hx hb dX1_newAddressOrNone_0 rfl (lv_at hl 1 rfl) ?_
  refine xk_if_ne (tgt := 8) hx hb (by omega) dX1_newAddressOrNone_1 (by decide) (fun c1 => ?_) (fun c1 => ?_)
  · refine lv_aload_n hx hb dX1_newAddressOrNone_8 rfl (lv_at hl 0 rfl) ?_
    refine lv_iload_n hx hb dX1_newAddressOrNone_9 rfl (lv_at hl 1 rfl) ?_
    refine xk_roV (As := [.int (nI i)]) (rest := []) ⟨hx, hb, hml, hown, hts⟩ (c_newAddress l D cI cL h0 ad n B nb tp ob co rd rts offs fnd mem frs btw snw stw fsw i hn hB hnb hof (by omega)) (cwV 1 hts gX1_newAddressOrNone_X1_newAddress rfl rfl rfl (by decide +kernel) ⟨Nat.le_of_ble_eq_true rfl, Nat.le_of_ble_eq_true rfl⟩) (va_recv hK hP (ci := 1) (q0 := 0) rfl rfl) hP hK rfl hl.1 rfl (Nat.le_of_ble_eq_true rfl) dX1_newAddressOrNone_10 ⟨Nat.zero_le _, Nat.zero_le _⟩ ?_
    exact W.iret hx hb hr (fun t ht hW => ⟨_, rfl, (by rw [if_neg (by omega)]), ht⟩) t_nil dX1_newAddressOrNone_13
  · refine lv_iconst (v := nI 0) hx hb dX1_newAddressOrNone_4 (by decide +kernel) ?_
    refine lv_goto (tgt := 13) hx hb dX1_newAddressOrNone_5 (by decide) ?_
    exact W.iret hx hb hr (fun t ht hW => ⟨_, rfl, (by rw [if_pos c1]), ht⟩) t_nil dX1_newAddressOrNone_13
set_option maxHeartbeats 4000000 in
set_option maxRecDepth 100000 in
/-- moved -/
theorem c_moved (l : Launch) (D : va_G) (cI cL : ClassId) (h0 : Nat) (ad : Nat → Nat) (n B nb tp ob co rd : Nat) (rts offs fnd mem frs : Nat → Int32) (btw snw stw fsw : Nat → Int64) (x : Int32) (hn : n ≤ 4000) (hB : okB B) (hnb : nb = n / B + 1) (hof : offOk B nb offs (bo btw)) : Met l yX1_moved wsX1_moved ({ frames := 3, cells := 0, slots := 0, locals := 90 }) (va_Pc [.ref h0, .int x] (fun U => va_P D vwCl (cW cI cL h0 ad n B nb tp ob co rd rts offs fnd mem frs btw snw stw fsw) U.heap ∧ va_K D vwCl [(cI, .int), (cL, .long)] U)) (vp_Si (fun r9 => r9 = atR (n + 1) (fun a => if bo btw a then nI (1 + cn (bo btw) a) else nI 0) x)) 0 0 (fun _ => False) := by
  refine Met.ofW (cc := cX1_moved) (maxL := 2) (ret := (some .int)) (by decide) rfl ?_
  intro p e s m args below meth c s₁ B9 hml hv
  obtain ⟨rfl, hP, hK⟩ := hv
  have hx := B9.exec
  have hb := B9.bytes
  have hr := B9.returns
  have hts := atoms_spec (ws := wsX1_moved) B9.pre
  have hown : s.vm.findClass RX1 = some m.cls := findClass_of_methodNamed B9.named
  have hlocks := B9.notSynchronized
  have hl := lv_entry ([.ref h0, .int x]) (n := 2) (Nat.le_of_ble_eq_true rfl)
  rw [lg_entry_eq]
  generalize (lg_sl ([.ref h0, .int x]) ++ List.replicate (2 - (lg_sl ([.ref h0, .int x])).length) Slot.unset).toArray = ls at hl ⊢
  have hl : lv_has ls 2 [(0, .ref h0), (1, .int x)] := hl
  rcases xk_sgn x with hneg | ⟨a, ha, rfl⟩
  · refine lv_aload_n hx hb dX1_moved_0 rfl (lv_at hl 0 rfl) ?_
    refine lv_iload_n hx hb dX1_moved_1 rfl (lv_at hl 1 rfl) ?_
    refine xk_roV (As := [.int x]) (rest := []) ⟨hx, hb, hml, hown, hts⟩ (c_isWord l D cI cL h0 ad n B nb tp ob co rd rts offs fnd mem frs btw snw stw fsw x hn) (cwV 1 hts gX1_moved_X1_isWord rfl rfl rfl (by decide +kernel) ⟨Nat.le_of_ble_eq_true rfl, Nat.le_of_ble_eq_true rfl⟩) (va_recv hK hP (ci := 1) (q0 := 0) rfl rfl) hP hK rfl hl.1 rfl (Nat.le_of_ble_eq_true rfl) dX1_moved_2 ⟨Nat.zero_le _, Nat.zero_le _⟩ ?_
    refine xk_if_neB (tgt := 10) hx hb dX1_moved_5 (by decide) (fun c5 => absurd c5 (by rw [inR_neg hneg]; decide)) (fun c5 => ?_)
    refine lv_iconst (v := (-1)) hx hb dX1_moved_8 (by decide +kernel) ?_
    exact W.iret hx hb hr (fun t ht hW => ⟨_, rfl, (atR_neg hneg).symm, ht⟩) t_nil dX1_moved_9
  · refine lv_aload_n hx hb dX1_moved_0 rfl (lv_at hl 0 rfl) ?_
    refine lv_iload_n hx hb dX1_moved_1 rfl (lv_at hl 1 rfl) ?_
    refine xk_roV (As := [.int (nI a)]) (rest := []) ⟨hx, hb, hml, hown, hts⟩ (c_isWord l D cI cL h0 ad n B nb tp ob co rd rts offs fnd mem frs btw snw stw fsw (nI a) hn) (cwV 1 hts gX1_moved_X1_isWord rfl rfl rfl (by decide +kernel) ⟨Nat.le_of_ble_eq_true rfl, Nat.le_of_ble_eq_true rfl⟩) (va_recv hK hP (ci := 1) (q0 := 0) rfl rfl) hP hK rfl hl.1 rfl (Nat.le_of_ble_eq_true rfl) dX1_moved_2 ⟨Nat.zero_le _, Nat.zero_le _⟩ ?_
    refine xk_if_neB (tgt := 10) hx hb dX1_moved_5 (by decide) (fun c5 => ?_) (fun c5 => ?_)
    · rw [inR_nat ha] at c5; simp at c5
      refine lv_aload_n hx hb dX1_moved_10 rfl (lv_at hl 0 rfl) ?_
      refine va_get (D := D) (ci := 1) (v := .ref (ad 2)) (C := RX1) (T := TX1) (N := 16) hx hb hts in_X1_moved_X1 hown hK hP 0 rfl rfl 4 (by decide) (hts (.fieldLink RX1 41 "OffsetHeap" "bits" "LOffsetHeap$BitRow;") (by decide +kernel)) (fun _ h9 => h9) rfl dX1_moved_11 ?_
      refine lv_iload_n hx hb dX1_moved_14 rfl (lv_at hl 1 rfl) ?_
      refine xk_roV (As := [.int (nI a)]) (rest := []) ⟨hx, hb, hml, hown, hts⟩ (c_has l D cL (ad 2) (ad 3) (n / 64 + 1) btw (by omega) a (by omega) (by omega)) (cwV 1 hts gX1_moved_X0_has rfl rfl rfl (by decide +kernel) ⟨Nat.le_of_ble_eq_true rfl, Nat.le_of_ble_eq_true rfl⟩) (va_recv hK hP (ci := 0) (q0 := 2) rfl rfl) (hP.sub [2, 3] rfl) (hK.sub [1] rfl) rfl hl.1 rfl (Nat.le_of_ble_eq_true rfl) dX1_moved_15 ⟨Nat.zero_le _, Nat.zero_le _⟩ ?_
      refine xk_if_eqB (tgt := 29) hx hb dX1_moved_18 (by decide) (fun c18 => ?_) (fun c18 => ?_)
      · refine lv_iconst (v := nI 0) hx hb dX1_moved_29 (by decide +kernel) ?_
        exact W.iret hx hb hr (fun t ht hW => ⟨_, rfl, by rw [atR_in ha (by omega), c18]; rfl, ht⟩) t_nil dX1_moved_30
      · refine lv_aload_n hx hb dX1_moved_21 rfl (lv_at hl 0 rfl) ?_
        refine lv_iload_n hx hb dX1_moved_22 rfl (lv_at hl 1 rfl) ?_
        refine xk_roV (As := [.int (nI a)]) (rest := []) ⟨hx, hb, hml, hown, hts⟩ (c_newAddress l D cI cL h0 ad n B nb tp ob co rd rts offs fnd mem frs btw snw stw fsw a hn hB hnb hof (by omega)) (cwV 1 hts gX1_moved_X1_newAddress rfl rfl rfl (by decide +kernel) ⟨Nat.le_of_ble_eq_true rfl, Nat.le_of_ble_eq_true rfl⟩) (va_recv hK hP (ci := 1) (q0 := 0) rfl rfl) hP hK rfl hl.1 rfl (Nat.le_of_ble_eq_true rfl) dX1_moved_23 ⟨Nat.zero_le _, Nat.zero_le _⟩ ?_
        refine lv_goto (tgt := 30) hx hb dX1_moved_26 (by decide) ?_
        exact W.iret hx hb hr (fun t ht hW => ⟨_, rfl, by rw [atR_in ha (by omega), c18]; rfl, ht⟩) t_nil dX1_moved_30
    · rw [inR_nat ha] at c5; simp at c5
      refine lv_iconst (v := (-1)) hx hb dX1_moved_8 (by decide +kernel) ?_
      exact W.iret hx hb hr (fun t ht hW => ⟨_, rfl, (atR_out ha (by omega)).symm, ht⟩) t_nil dX1_moved_9
set_option maxHeartbeats 4000000 in
set_option maxRecDepth 100000 in
/-- count -/
theorem c_count (l : Launch) (D : va_G) (cI cL : ClassId) (h0 : Nat) (ad : Nat → Nat) (n B nb tp ob co rd : Nat) (rts offs fnd mem frs : Nat → Int32) (btw snw stw fsw : Nat → Int64) (x : Int32) : Met l yX1_count wsX1_count ({ frames := 0, cells := 0, slots := 0, locals := 0 }) (va_Pc [.ref h0, .int x] (fun U => va_P D vwCl (cW cI cL h0 ad n B nb tp ob co rd rts offs fnd mem frs btw snw stw fsw) U.heap ∧ va_K D vwCl [(cI, .int), (cL, .long)] U)) (vp_Si (fun r9 => r9 = cntA tp ob co n nb x)) 0 0 (fun _ => False) := by
  refine Met.ofW (cc := cX1_count) (maxL := 2) (ret := (some .int)) (by decide) rfl ?_
  intro p e s m args below meth c s₁ B9 hml hv
  obtain ⟨rfl, hP, hK⟩ := hv
  have hx := B9.exec
  have hb := B9.bytes
  have hr := B9.returns
  have hts := atoms_spec (ws := wsX1_count) B9.pre
  have hown : s.vm.findClass RX1 = some m.cls := findClass_of_methodNamed B9.named
  have hlocks := B9.notSynchronized
  have hl := lv_entry ([.ref h0, .int x]) (n := 2) (Nat.le_of_ble_eq_true rfl)
  rw [lg_entry_eq]
  generalize (lg_sl ([.ref h0, .int x]) ++ List.replicate (2 - (lg_sl ([.ref h0, .int x])).length) Slot.unset).toArray = ls at hl ⊢
  have hl : lv_has ls 2 [(0, .ref h0), (1, .int x)] := hl
  refine lv_iload_n hx hb dX1_count_0 rfl (lv_at hl 1 rfl) ?_
  by_cases h5 : x < 0 ∨ nI 5 ≤ x
  · have ho : x.toInt < 0 ∨ 4 < x.toInt := by
      rcases h5 with q | q
      · rw [Int32.lt_iff_toInt_lt] at q; exact Or.inl q
      · rw [Int32.le_iff_toInt_le, nI_toInt (by decide)] at q; exact Or.inr (by omega)
    have hc : cntA tp ob co n nb x = -1 := by
      rcases h5 with q | q
      · exact cntA_neg q
      · rcases xk_sgn x with z | ⟨a, ha, rfl⟩
        · exact cntA_neg z
        · exact cntA_big ha ((nI_leI (by decide) ha).mp q)
    refine lv_tableOut (tgt := 61) hx hb dX1_count_1 ho (by decide) ?_
    refine lv_iconst (v := (-1)) hx hb dX1_count_61 (by decide +kernel) ?_
    exact W.iret hx hb hr (fun t ht hW => ⟨_, rfl, hc.symm, ht⟩) t_nil dX1_count_62
  · obtain ⟨a, ha, rfl⟩ : ∃ a : Nat, a < 5 ∧ x = nI a := by
      rcases pk_ix x (n := 5) (by decide) with q | q | q
      · exact absurd (Or.inl q) h5
      · exact absurd (Or.inr q) h5
      · exact q
    match a, ha with
    | 0, _ =>
      refine lv_tableIn (tgt := 36) (off := 35) hx hb dX1_count_1 (by decide) (by decide) (by decide) (by decide) ?_
      refine lv_aload_n hx hb dX1_count_36 rfl (lv_at hl 0 rfl) ?_
      refine va_get (D := D) (ci := 1) (v := .int (nI tp)) (C := RX1) (T := TX1) (N := 16) hx hb hts in_X1_count_X1 hown hK hP 0 rfl rfl 12 (by decide) (hts (.fieldLink RX1 66 "OffsetHeap" "top" "I") (by decide +kernel)) (fun _ h9 => h9) rfl dX1_count_37 ?_
      exact W.iret hx hb hr (fun t ht hW => ⟨_, rfl, rfl, ht⟩) t_nil dX1_count_40
    | 1, _ =>
      refine lv_tableIn (tgt := 41) (off := 40) hx hb dX1_count_1 (by decide) (by decide) (by decide) (by decide) ?_
      refine lv_aload_n hx hb dX1_count_41 rfl (lv_at hl 0 rfl) ?_
      refine va_get (D := D) (ci := 1) (v := .int (nI ob)) (C := RX1) (T := TX1) (N := 16) hx hb hts in_X1_count_X1 hown hK hP 0 rfl rfl 13 (by decide) (hts (.fieldLink RX1 79 "OffsetHeap" "objects" "I") (by decide +kernel)) (fun _ h9 => h9) rfl dX1_count_42 ?_
      exact W.iret hx hb hr (fun t ht hW => ⟨_, rfl, rfl, ht⟩) t_nil dX1_count_45
    | 2, _ =>
      refine lv_tableIn (tgt := 46) (off := 45) hx hb dX1_count_1 (by decide) (by decide) (by decide) (by decide) ?_
      refine lv_aload_n hx hb dX1_count_46 rfl (lv_at hl 0 rfl) ?_
      refine va_get (D := D) (ci := 1) (v := .int (nI co)) (C := RX1) (T := TX1) (N := 16) hx hb hts in_X1_count_X1 hown hK hP 0 rfl rfl 14 (by decide) (hts (.fieldLink RX1 113 "OffsetHeap" "collectings" "I") (by decide +kernel)) (fun _ h9 => h9) rfl dX1_count_47 ?_
      exact W.iret hx hb hr (fun t ht hW => ⟨_, rfl, rfl, ht⟩) t_nil dX1_count_50
    | 3, _ =>
      refine lv_tableIn (tgt := 51) (off := 50) hx hb dX1_count_1 (by decide) (by decide) (by decide) (by decide) ?_
      refine lv_aload_n hx hb dX1_count_51 rfl (lv_at hl 0 rfl) ?_
      refine va_get (D := D) (ci := 1) (v := .int (nI n)) (C := RX1) (T := TX1) (N := 16) hx hb hts in_X1_count_X1 hown hK hP 0 rfl rfl 0 (by decide) (hts (.fieldLink RX1 18 "OffsetHeap" "last" "I") (by decide +kernel)) (fun _ h9 => h9) rfl dX1_count_52 ?_
      exact W.iret hx hb hr (fun t ht hW => ⟨_, rfl, rfl, ht⟩) t_nil dX1_count_55
    | 4, _ =>
      refine lv_tableIn (tgt := 56) (off := 55) hx hb dX1_count_1 (by decide) (by decide) (by decide) (by decide) ?_
      refine lv_aload_n hx hb dX1_count_56 rfl (lv_at hl 0 rfl) ?_
      refine va_get (D := D) (ci := 1) (v := .int (nI nb)) (C := RX1) (T := TX1) (N := 16) hx hb hts in_X1_count_X1 hown hK hP 0 rfl rfl 2 (by decide) (hts (.fieldLink RX1 29 "OffsetHeap" "blocks" "I") (by decide +kernel)) (fun _ h9 => h9) rfl dX1_count_57 ?_
      exact W.iret hx hb hr (fun t ht hW => ⟨_, rfl, rfl, ht⟩) t_nil dX1_count_60
    | a + 5, h => exact absurd h (by omega)
end
section
/-! what always holds of a state, and what roots lead to -/
def okS (n tp : Nat) (mem : Nat → Int32) (st : Nat → Bool) (rt : Nat → Int32) : Prop :=
  (1 ≤ tp ∧ tp ≤ n + 1 ∧ n ≤ 4000) ∧ (1 < tp → st 1 = true) ∧
  (∀ o, 1 ≤ o → o < tp → st o = true → (mem o = nI (tn (mem o)) ∧ tn (mem o) ≤ 25840) ∧ o + siz mem o ≤ tp ∧ (o + siz mem o < tp → st (o + siz mem o) = true) ∧ (∀ j, o < j → j < o + siz mem o → st j = false) ∧ (∀ k, k < rfs mem o → isL tp st (mem (o + 1 + k)) = true)) ∧
  (st 0 = false ∧ mem 0 = 0) ∧ (∀ j, tp ≤ j → j ≤ n → st j = false ∧ mem j = 0) ∧ (∀ k, k < 8 → isL tp st (rt k) = true)
theorem okS.hdr {n tp : Nat} {mem : Nat → Int32} {st : Nat → Bool} {rt : Nat → Int32} (h : okS n tp mem st rt) {o : Nat} (h1 : 1 ≤ o) (h2 : o < tp) (h3 : st o = true) : mem o = nI (tn (mem o)) := (h.2.2.1 o h1 h2 h3).1.1
theorem okS.hsm {n tp : Nat} {mem : Nat → Int32} {st : Nat → Bool} {rt : Nat → Int32} (h : okS n tp mem st rt) {o : Nat} (h1 : 1 ≤ o) (h2 : o < tp) (h3 : st o = true) : tn (mem o) ≤ 25840 := (h.2.2.1 o h1 h2 h3).1.2
theorem okS.fit {n tp : Nat} {mem : Nat → Int32} {st : Nat → Bool} {rt : Nat → Int32} (h : okS n tp mem st rt) {o : Nat} (h1 : 1 ≤ o) (h2 : o < tp) (h3 : st o = true) : o + siz mem o ≤ tp := (h.2.2.1 o h1 h2 h3).2.1
theorem okS.next {n tp : Nat} {mem : Nat → Int32} {st : Nat → Bool} {rt : Nat → Int32} (h : okS n tp mem st rt) {o : Nat} (h1 : 1 ≤ o) (h2 : o < tp) (h3 : st o = true) : o + siz mem o < tp → st (o + siz mem o) = true := (h.2.2.1 o h1 h2 h3).2.2.1
theorem okS.gap {n tp : Nat} {mem : Nat → Int32} {st : Nat → Bool} {rt : Nat → Int32} (h : okS n tp mem st rt) {o : Nat} (h1 : 1 ≤ o) (h2 : o < tp) (h3 : st o = true) {j : Nat} (h4 : o < j) (h5 : j < o + siz mem o) : st j = false := (h.2.2.1 o h1 h2 h3).2.2.2.1 j h4 h5
theorem okS.ref {n tp : Nat} {mem : Nat → Int32} {st : Nat → Bool} {rt : Nat → Int32} (h : okS n tp mem st rt) {o : Nat} (h1 : 1 ≤ o) (h2 : o < tp) (h3 : st o = true) {k : Nat} (h4 : k < rfs mem o) : isL tp st (mem (o + 1 + k)) = true := (h.2.2.1 o h1 h2 h3).2.2.2.2 k h4
theorem okS.refN {n tp : Nat} {mem : Nat → Int32} {st : Nat → Bool} {rt : Nat → Int32} (h : okS n tp mem st rt) {o : Nat} (h1 : 1 ≤ o) (h2 : o < tp) (h3 : st o = true) {k : Nat} (h4 : k < rfs mem o) : mem (o + 1 + k) = nI (tn (mem (o + 1 + k))) ∧ (tn (mem (o + 1 + k)) = 0 ∨ (1 ≤ tn (mem (o + 1 + k)) ∧ tn (mem (o + 1 + k)) < tp ∧ st (tn (mem (o + 1 + k))) = true)) := by
  obtain ⟨a, ha, e, q⟩ := isL_t (h.ref h1 h2 h3 h4)
  rw [e, tn_nI ha]
  exact ⟨rfl, q⟩
theorem okS.rootN {n tp : Nat} {mem : Nat → Int32} {st : Nat → Bool} {rt : Nat → Int32} (h : okS n tp mem st rt) {k : Nat} (h4 : k < 8) : rt k = nI (tn (rt k)) ∧ (tn (rt k) = 0 ∨ (1 ≤ tn (rt k) ∧ tn (rt k) < tp ∧ st (tn (rt k)) = true)) := by
  obtain ⟨a, ha, e, q⟩ := isL_t (h.2.2.2.2.2 k h4)
  rw [e, tn_nI ha]
  exact ⟨rfl, q⟩
theorem siz_pos (mem : Nat → Int32) (o : Nat) : 1 ≤ siz mem o := by unfold siz; omega
theorem siz_rfs (mem : Nat → Int32) (o : Nat) : siz mem o = 1 + rfs mem o + pln mem o := rfl
/-- every word below the top is of one object -/
theorem okS.own {n tp : Nat} {mem : Nat → Int32} {st : Nat → Bool} {rt : Nat → Int32} (h : okS n tp mem st rt) : ∀ i, 1 ≤ i → i < tp → ∃ o, 1 ≤ o ∧ o ≤ i ∧ st o = true ∧ i < o + siz mem o := by
  intro i
  induction i with
  | zero => intro h1; omega
  | succ i ih =>
    intro h1 h2
    by_cases hi : i = 0
    · subst hi
      exact ⟨1, by omega, by omega, h.2.1 (by omega), by have := siz_pos mem 1; omega⟩
    · obtain ⟨o, a1, a2, a3, a4⟩ := ih (by omega) (by omega)
      by_cases q : i + 1 < o + siz mem o
      · exact ⟨o, a1, by omega, a3, q⟩
      · have e : i + 1 = o + siz mem o := by omega
        have := h.next a1 (by omega) a3 (by omega)
        rw [← e] at this
        exact ⟨i + 1, by omega, by omega, this, by have := siz_pos mem (i + 1); omega⟩
theorem okS.own1 {n tp : Nat} {mem : Nat → Int32} {st : Nat → Bool} {rt : Nat → Int32} (h : okS n tp mem st rt) {o o' i : Nat} (h1 : 1 ≤ o) (h2 : o < tp) (h3 : st o = true) (g1 : 1 ≤ o') (g2 : o' < tp) (g3 : st o' = true) (a1 : o ≤ i) (a2 : i < o + siz mem o) (b1 : o' ≤ i) (b2 : i < o' + siz mem o') : o = o' := by
  rcases Nat.lt_trichotomy o o' with q | q | q
  · have := h.gap h1 h2 h3 q (by omega)
    rw [g3] at this; cases this
  · exact q
  · have := h.gap g1 g2 g3 q (by omega)
    rw [h3] at this; cases this
/-- led to by at most so many references -/
def NR (mem rt : Nat → Int32) : Nat → Nat → Prop
  | 0, x => 0 < x ∧ ∃ k, k < 8 ∧ tn (rt k) = x
  | s + 1, x => NR mem rt s x ∨ ∃ y, NR mem rt s y ∧ 0 < x ∧ ∃ k, k < rfs mem y ∧ tn (mem (y + 1 + k)) = x
theorem NR_obj {n tp : Nat} {mem : Nat → Int32} {st : Nat → Bool} {rt : Nat → Int32} (h : okS n tp mem st rt) : ∀ s x, NR mem rt s x → 1 ≤ x ∧ x < tp ∧ st x = true := by
  intro s
  induction s with
  | zero =>
    intro x hx
    obtain ⟨h0, k, hk, e⟩ := hx
    rcases (h.rootN hk).2 with q | q
    · omega
    · rw [e] at q; exact q
  | succ s ih =>
    intro x hx
    rcases hx with q | ⟨y, hy, h0, k, hk, e⟩
    · exact ih x q
    · obtain ⟨y1, y2, y3⟩ := ih y hy
      rcases (h.refN y1 y2 y3 hk).2 with q | q
      · omega
      · rw [e] at q; exact q
theorem NR_mono {mem rt : Nat → Int32} {s t x : Nat} (h : s ≤ t) (hx : NR mem rt s x) : NR mem rt t x := by
  induction t with
  | zero => rw [show s = 0 by omega] at hx; exact hx
  | succ t ih =>
    by_cases q : s ≤ t
    · exact Or.inl (ih q)
    · rw [show s = t + 1 by omega] at hx; exact hx
/-- closed once, closed for ever -/
theorem NR_closed {mem rt : Nat → Int32} {s : Nat} (h : ∀ x, NR mem rt (s + 1) x → NR mem rt s x) : ∀ t x, NR mem rt t x → NR mem rt s x := by
  have key : ∀ d x, NR mem rt (s + d) x → NR mem rt s x := by
    intro d
    induction d with
    | zero => intro x hx; exact hx
    | succ d ih =>
      intro x hx
      rcases (show NR mem rt ((s + d) + 1) x from hx) with q | ⟨y, hy, q⟩
      · exact ih x q
      · exact h x (Or.inr ⟨y, ih y hy, q⟩)
  intro t x hx
  exact key t x (NR_mono (by omega) hx)
/-- with n words, n steps are enough -/
theorem NR_n {n tp : Nat} {mem : Nat → Int32} {st : Nat → Bool} {rt : Nat → Int32} (h : okS n tp mem st rt) : ∀ t x, NR mem rt t x → NR mem rt n x := by
  refine NR_closed ?_
  -- by counting
  have dec : ∀ s, ∃ b : Nat → Bool, ∀ x, b x = true ↔ NR mem rt s x := fun s => ⟨fun x => @decide (NR mem rt s x) (Classical.propDecidable _), fun x => by simp⟩
  have hc : ∀ s, (∃ x, NR mem rt (s + 1) x ∧ ¬ NR mem rt s x) → ∀ b, (∀ x, b x = true ↔ NR mem rt s x) → s ≤ cn b (n + 1) := by
    intro s
    induction s with
    | zero => intro _ b _; omega
    | succ s ih =>
      intro hx b hb
      obtain ⟨b0, hb0⟩ := dec s
      have hne : ∃ x, NR mem rt (s + 1) x ∧ ¬ NR mem rt s x := by
        apply Classical.byContradiction
        intro q
        have q2 : ∀ x, NR mem rt (s + 1) x → NR mem rt s x := fun x hx => Classical.byContradiction (fun z => q ⟨x, hx, z⟩)
        obtain ⟨x, h1, h2⟩ := hx
        exact h2 (Or.inl (NR_closed q2 _ x h1))
      have i1 := ih hne b0 hb0
      obtain ⟨a, ha1, ha2⟩ := hne
      have ha3 := NR_obj h _ a ha1
      have ha4 : b0 a = false := by
        cases hq : b0 a with
        | false => rfl
        | true => exact absurd ((hb0 a).mp hq) ha2
      have c1 := cn_add (b := b0) (b' := fun i => b0 i || decide (i = a)) ha4 (fun _ => rfl) (k := n + 1)
      rw [if_pos (by have := h.1.2.1; omega)] at c1
      have c2 : ∀ k, cn (fun i => b0 i || decide (i = a)) k ≤ cn b k := by
        intro k
        induction k with
        | zero => exact Nat.le_refl _
        | succ k ihk =>
          rw [cn_s, cn_s]
          have : (b0 k || decide (k = a)).toNat ≤ (b k).toNat := by
            cases hk : (b0 k || decide (k = a)) with
            | false => exact Nat.zero_le _
            | true =>
              have : b k = true := by
                rw [hb]
                simp at hk
                rcases hk with q | q
                · exact Or.inl ((hb0 k).mp q)
                · rw [q]; exact ha1
              rw [this]; exact Nat.le_refl _
          exact Nat.add_le_add ihk this
      have := c2 (n + 1)
      omega
  intro x hx
  apply Classical.byContradiction
  intro hn
  obtain ⟨b, hb⟩ := dec n
  have h1 := hc n ⟨x, hx, hn⟩ b hb
  have hx3 := NR_obj h _ x hx
  have b0 : b 0 = false := by
    cases hq : b 0 with
    | false => rfl
    | true => have := NR_obj h _ 0 ((hb 0).mp hq); omega
  have bx : b x = false := by
    cases hq : b x with
    | false => rfl
    | true => exact absurd ((hb x).mp hq) hn
  have h2 := cn_lt2 (b := b) (a0 := 0) (a := x) (k := n + 1) (by omega) b0 (by have := h.1.2.1; omega) bx (by omega)
  omega
/-- a list of what was seen -/
def FI (n : Nat) (snw : Nat → Int64) (fnd : Nat → Int32) (z : Nat) : Prop :=
  z = cn (bo snw) (n + 1) ∧ bo snw 0 = false ∧ (∀ f, f < z → ∃ x, 1 ≤ x ∧ x ≤ n ∧ fnd f = nI x ∧ bo snw x = true) ∧ ∀ x, x ≤ n → bo snw x = true → ∃ f, f < z ∧ fnd f = nI x
def StpF (n : Nat) (snw : Nat → Int64) (fnd : Nat → Int32) (z : Nat) (S : Nat → Prop) (snw' : Nat → Int64) (fnd' : Nat → Int32) (z' : Nat) : Prop :=
  FI n snw' fnd' z' ∧ (∀ x, x ≤ n → (bo snw' x = true ↔ bo snw x = true ∨ (x ≠ 0 ∧ S x))) ∧ z ≤ z' ∧ ∀ f, f < z → fnd' f = fnd f
theorem FI.le {n : Nat} {snw : Nat → Int64} {fnd : Nat → Int32} {z : Nat} (h : FI n snw fnd z) : z ≤ n := by
  have := cn_lt (b := bo snw) (a := 0) (k := n + 1) (by omega) h.2.1
  have := h.1
  omega
theorem FI.lt {n : Nat} {snw : Nat → Int64} {fnd : Nat → Int32} {z a : Nat} (h : FI n snw fnd z) (h1 : a ≠ 0) (h2 : a ≤ n) (h3 : bo snw a = false) : z < n := by
  have := cn_lt2 (b := bo snw) (a0 := 0) (a := a) (k := n + 1) (by omega) h.2.1 (by omega) h3 h1
  have := h.1
  omega
theorem StpF.refl {n : Nat} {snw : Nat → Int64} {fnd : Nat → Int32} {z : Nat} {S : Nat → Prop} (h : FI n snw fnd z) (hS : ∀ x, x ≤ n → x ≠ 0 → S x → bo snw x = true) : StpF n snw fnd z S snw fnd z :=
  ⟨h, fun x hx => ⟨Or.inl, fun q => q.elim id (fun q => hS x hx q.1 q.2)⟩, Nat.le_refl _, fun _ _ => rfl⟩
theorem StpF.trans {n : Nat} {snw snw1 snw2 : Nat → Int64} {fnd fnd1 fnd2 : Nat → Int32} {z z1 z2 : Nat} {S1 S2 S : Nat → Prop} (h1 : StpF n snw fnd z S1 snw1 fnd1 z1) (h2 : StpF n snw1 fnd1 z1 S2 snw2 fnd2 z2) (hS : ∀ x, x ≤ n → (S x ↔ S1 x ∨ S2 x)) : StpF n snw fnd z S snw2 fnd2 z2 := by
  obtain ⟨a1, a2, a3, a4⟩ := h1
  obtain ⟨b1, b2, b3, b4⟩ := h2
  refine ⟨b1, fun x hx => ?_, by omega, fun f hf => by rw [b4 f (by omega), a4 f hf]⟩
  rw [b2 x hx, a2 x hx, hS x hx]
  constructor
  · rintro ((q | q) | q)
    · exact Or.inl q
    · exact Or.inr ⟨q.1, Or.inl q.2⟩
    · exact Or.inr ⟨q.1, Or.inr q.2⟩
  · rintro (q | ⟨q0, q | q⟩)
    · exact Or.inl (Or.inl q)
    · exact Or.inl (Or.inr ⟨q0, q⟩)
    · exact Or.inr ⟨q0, q⟩
theorem StpF.congr {n : Nat} {snw snw1 : Nat → Int64} {fnd fnd1 : Nat → Int32} {z z1 : Nat} {S1 S : Nat → Prop} (h1 : StpF n snw fnd z S1 snw1 fnd1 z1) (hS : ∀ x, x ≤ n → x ≠ 0 → (S x ↔ S1 x)) : StpF n snw fnd z S snw1 fnd1 z1 := by
  refine ⟨h1.1, fun x hx => ?_, h1.2.2.1, h1.2.2.2⟩
  rw [h1.2.1 x hx]
  constructor
  · rintro (q | q)
    · exact Or.inl q
    · exact Or.inr ⟨q.1, (hS x hx q.1).mpr q.2⟩
  · rintro (q | q)
    · exact Or.inl q
    · exact Or.inr ⟨q.1, (hS x hx q.1).mp q.2⟩
theorem StpF.add {n : Nat} {snw : Nat → Int64} {fnd : Nat → Int32} {z a : Nat} (h : FI n snw fnd z) (h1 : a ≠ 0) (h2 : a ≤ n) (h3 : bo snw a = false) : StpF n snw fnd z (fun x => x = a) (bput snw a) (upd fnd z (nI a)) (z + 1) := by
  obtain ⟨b1, b2, b3, b4⟩ := h
  have c1 := cn_add (b := bo snw) (b' := bo (bput snw a)) h3 (bo_put snw a) (k := n + 1)
  rw [if_pos (by omega)] at c1
  refine ⟨⟨by omega, ?_, fun f hf => ?_, fun x hx hb => ?_⟩, fun x hx => ?_, by omega, fun f hf => pk_un (by omega)⟩
  · rw [bo_put, b2]; simp [Ne.symm h1]
  · by_cases q : f = z
    · subst q
      exact ⟨a, by omega, h2, pk_us, by rw [bo_put]; simp⟩
    · obtain ⟨x, x1, x2, x3, x4⟩ := b3 f (by omega)
      exact ⟨x, x1, x2, by rw [pk_un q]; exact x3, by rw [bo_put, x4]; rfl⟩
  · rw [bo_put] at hb
    simp at hb
    by_cases q : x = a
    · subst q
      exact ⟨z, by omega, pk_us⟩
    · rcases hb with q2 | q2
      · obtain ⟨f, f1, f2⟩ := b4 x hx q2
        exact ⟨f, by omega, by rw [pk_un (by omega)]; exact f2⟩
      · exact absurd q2 q
  · rw [bo_put]
    simp
    constructor
    · rintro (q | q)
      · exact Or.inl q
      · exact Or.inr ⟨by omega, q⟩
    · rintro (q | q)
      · exact Or.inl q
      · exact Or.inr q.2
end
section
/-! the class: sound -/
theorem in_X1_objectsLieInARow_X1 : ∀ w ∈ wsX10, w ∈ wsX1_objectsLieInARow := by decide +kernel
theorem in_X1_rootsLeadToHeaders_X1 : ∀ w ∈ wsX10, w ∈ wsX1_rootsLeadToHeaders := by decide +kernel
theorem in_X1_referencesLeadToHeaders_X1 : ∀ w ∈ wsX10, w ∈ wsX1_referencesLeadToHeaders := by decide +kernel
theorem in_X1_referencesOfLeadToHeaders_X1 : ∀ w ∈ wsX10, w ∈ wsX1_referencesOfLeadToHeaders := by decide +kernel
theorem in_X1_newAddressesFollowFromBits_X1 : ∀ w ∈ wsX10, w ∈ wsX1_newAddressesFollowFromBits := by decide +kernel
theorem in_X1_sound_X1 : ∀ w ∈ wsX10, w ∈ wsX1_sound := by decide +kernel
set_option maxHeartbeats 4000000 in
set_option maxRecDepth 100000 in
/-- all roots lead to headers or are 0 -/
theorem c_rootsLeadToHeaders (l : Launch) (D : va_G) (cI cL : ClassId) (h0 : Nat) (ad : Nat → Nat) (n B nb tp ob co rd : Nat) (rts offs fnd mem frs : Nat → Int32) (btw snw stw fsw : Nat → Int64) (hn : n ≤ 4000) (hok : okS n tp mem (bo stw) rts) : Met l yX1_rootsLeadToHeaders wsX1_rootsLeadToHeaders ({ frames := 3, cells := 0, slots := 0, locals := 90 }) (va_Pc [.ref h0] (fun U => va_P D vwCl (cW cI cL h0 ad n B nb tp ob co rd rts offs fnd mem frs btw snw stw fsw) U.heap ∧ va_K D vwCl [(cI, .int), (cL, .long)] U)) (vp_Si (fun r9 => r9 = nI 1)) 0 0 (fun _ => False) := by
  refine Met.ofW (cc := cX1_rootsLeadToHeaders) (maxL := 2) (ret := (some .boolean)) (by decide) rfl ?_
  intro p e s m args below meth c s₁ B9 hml hv
  obtain ⟨rfl, hP, hK⟩ := hv
  have hx := B9.exec
  have hb := B9.bytes
  have hr := B9.returns
  have hts := atoms_spec (ws := wsX1_rootsLeadToHeaders) B9.pre
  have hown : s.vm.findClass RX1 = some m.cls := findClass_of_methodNamed B9.named
  have hlocks := B9.notSynchronized
  have hl := lv_entry ([.ref h0]) (n := 2) (Nat.le_of_ble_eq_true rfl)
  rw [lg_entry_eq]
  generalize (lg_sl ([.ref h0]) ++ List.replicate (2 - (lg_sl ([.ref h0])).length) Slot.unset).toArray = ls at hl ⊢
  have hl : lv_has ls 2 [(0, .ref h0)] := hl
  have htp := hok.1.2.1
  have key : ∀ (d : Nat) (i : Nat) (ls : Array Slot), 9 ≤ i + d → i ≤ 8 → lv_has ls 2 [(0, .ref h0), (1, .int (nI i))] → W p l e (headSpec wsX1_rootsLeadToHeaders ({ frames := 3, cells := 0, slots := 0, locals := 90 })).room s m ([.ref h0] : List Value).toArray below meth c s.heap [] 0 0 (MQ below (vp_Si (fun r9 => r9 = nI 1)) ([.ref h0] : List Value).toArray s 0 0 (fun _ => False)) (F0 m 2 ls []) := by
    intro d
    induction d with
    | zero =>
      intro i ls hd hi hl
      exfalso; omega
    | succ d ih =>
      intro i ls hd hi hl
      refine lv_iload_n hx hb dX1_rootsLeadToHeaders_2 rfl (lv_at hl 1 rfl) ?_
      refine lv_bipush (v := nI 8) hx hb dX1_rootsLeadToHeaders_3 (by decide +kernel) ?_
      refine xk_icmp_ge (tgt := 29) hx hb (by omega) (by omega) dX1_rootsLeadToHeaders_5 (by decide) (fun c5 => ?_) (fun c5 => ?_)
      · refine lv_iconst (v := nI 1) hx hb dX1_rootsLeadToHeaders_29 (by decide +kernel) ?_
        exact W.zret hx hb hr rfl (fun t ht hW => ⟨_, rfl, rfl, ht⟩) t_nil dX1_rootsLeadToHeaders_30
      · refine lv_aload_n hx hb dX1_rootsLeadToHeaders_8 rfl (lv_at hl 0 rfl) ?_
        refine lv_aload_n hx hb dX1_rootsLeadToHeaders_9 rfl (lv_at hl 0 rfl) ?_
        refine va_get (D := D) (ci := 1) (v := .ref (ad 1)) (C := RX1) (T := TX1) (N := 16) hx hb hts in_X1_rootsLeadToHeaders_X1 hown hK hP 0 rfl rfl 3 (by decide) (hts (.fieldLink RX1 32 "OffsetHeap" "roots" "[I") (by decide +kernel)) (fun _ h9 => h9) rfl dX1_rootsLeadToHeaders_10 ?_
        refine lv_iload_n hx hb dX1_rootsLeadToHeaders_13 rfl (lv_at hl 1 rfl) ?_
        refine xk_iald hx hb hK hP 1 0 rfl rfl (by omega) (by omega) dX1_rootsLeadToHeaders_14 ?_
        refine xk_roV (As := [.int (rts i)]) (rest := []) ⟨hx, hb, hml, hown, hts⟩ (c_isObjectOrNone l D cI cL h0 ad n B nb tp ob co rd rts offs fnd mem frs btw snw stw fsw (rts i) hn htp) (cwV 1 hts gX1_rootsLeadToHeaders_X1_isObjectOrNone rfl rfl rfl (by decide +kernel) ⟨Nat.le_of_ble_eq_true rfl, Nat.le_of_ble_eq_true rfl⟩) (va_recv hK hP (ci := 1) (q0 := 0) rfl rfl) hP hK rfl hl.1 rfl (Nat.le_of_ble_eq_true rfl) dX1_rootsLeadToHeaders_15 ⟨Nat.zero_le _, Nat.zero_le _⟩ ?_
        refine xk_if_neB (tgt := 23) hx hb dX1_rootsLeadToHeaders_18 (by decide) (fun c18 => ?_) (fun c18 => absurd (hok.2.2.2.2.2 i (by omega)) (by rw [c18]; decide))
        refine lv_iinc (v := nI (i + 1)) (lv' := [(1, .int (nI (i + 1))), (0, .ref h0)]) hx hb dX1_rootsLeadToHeaders_23 hl (k := 1) rfl (xk_inc i) (by decide) rfl (fun ls hl => ?_)
        refine lv_goto (tgt := 2) hx hb dX1_rootsLeadToHeaders_26 (by decide) ?_
        exact ih (i + 1) ls (by omega) (by omega) (lv_sub hl [1, 0] rfl)
  refine lv_iconst (v := nI 0) hx hb dX1_rootsLeadToHeaders_0 (by decide +kernel) ?_
  refine lv_istore_n (lv' := [(1, .int (nI 0)), (0, .ref h0)]) hx hb dX1_rootsLeadToHeaders_1 rfl hl (by decide) rfl (fun ls hl => ?_)
  exact key 9 0 ls (by omega) (by omega) (lv_sub hl [1, 0] rfl)
set_option maxHeartbeats 4000000 in
set_option maxRecDepth 100000 in
/-- an object's references lead to headers or are 0 -/
theorem c_referencesOfLeadToHeaders (l : Launch) (D : va_G) (cI cL : ClassId) (h0 : Nat) (ad : Nat → Nat) (n B nb tp ob co rd : Nat) (rts offs fnd mem frs : Nat → Int32) (btw snw stw fsw : Nat → Int64) (hn : n ≤ 4000) (hok : okS n tp mem (bo stw) rts) (o : Nat) (h1 : 1 ≤ o) (h2 : o < tp) (h3 : bo stw o = true) : Met l yX1_referencesOfLeadToHeaders wsX1_referencesOfLeadToHeaders ({ frames := 3, cells := 0, slots := 0, locals := 90 }) (va_Pc [.ref h0, .int (nI o)] (fun U => va_P D vwCl (cW cI cL h0 ad n B nb tp ob co rd rts offs fnd mem frs btw snw stw fsw) U.heap ∧ va_K D vwCl [(cI, .int), (cL, .long)] U)) (vp_Si (fun r9 => r9 = nI 1)) 0 0 (fun _ => False) := by
  refine Met.ofW (cc := cX1_referencesOfLeadToHeaders) (maxL := 4) (ret := (some .boolean)) (by decide) rfl ?_
  intro p e s m args below meth c s₁ B9 hml hv
  obtain ⟨rfl, hP, hK⟩ := hv
  have hx := B9.exec
  have hb := B9.bytes
  have hr := B9.returns
  have hts := atoms_spec (ws := wsX1_referencesOfLeadToHeaders) B9.pre
  have hown : s.vm.findClass RX1 = some m.cls := findClass_of_methodNamed B9.named
  have hlocks := B9.notSynchronized
  have hl := lv_entry ([.ref h0, .int (nI o)]) (n := 4) (Nat.le_of_ble_eq_true rfl)
  rw [lg_entry_eq]
  generalize (lg_sl ([.ref h0, .int (nI o)]) ++ List.replicate (4 - (lg_sl ([.ref h0, .int (nI o)])).length) Slot.unset).toArray = ls at hl ⊢
  have hl : lv_has ls 4 [(0, .ref h0), (1, .int (nI o))] := hl
  have htp := hok.1.2.1
  have hh := hok.hdr h1 h2 h3
  have hs := hok.hsm h1 h2 h3
  have hf := hok.fit h1 h2 h3
  unfold siz at hf
  have key : ∀ (d : Nat) (i : Nat) (ls : Array Slot), tn (mem o) / 16 % 16 + 1 ≤ i + d → i ≤ tn (mem o) / 16 % 16 → lv_has ls 4 [(0, .ref h0), (1, .int (nI o)), (2, .int (nI (tn (mem o) / 16 % 16))), (3, .int (nI i))] → W p l e (headSpec wsX1_referencesOfLeadToHeaders ({ frames := 3, cells := 0, slots := 0, locals := 90 })).room s m ([.ref h0, .int (nI o)] : List Value).toArray below meth c s.heap [] 0 0 (MQ below (vp_Si (fun r9 => r9 = nI 1)) ([.ref h0, .int (nI o)] : List Value).toArray s 0 0 (fun _ => False)) (F0 m 12 ls []) := by
    intro d
    induction d with
    | zero =>
      intro i ls hd hi hl
      exfalso; omega
    | succ d ih =>
      intro i ls hd hi hl
      refine lv_iload_n hx hb dX1_referencesOfLeadToHeaders_12 rfl (lv_at hl 3 rfl) ?_
      refine lv_iload_n hx hb dX1_referencesOfLeadToHeaders_13 rfl (lv_at hl 2 rfl) ?_
      refine xk_icmp_ge (tgt := 42) hx hb (by omega) (by omega) dX1_referencesOfLeadToHeaders_14 (by decide) (fun c14 => ?_) (fun c14 => ?_)
      · refine lv_iconst (v := nI 1) hx hb dX1_referencesOfLeadToHeaders_42 (by decide +kernel) ?_
        exact W.zret hx hb hr rfl (fun t ht hW => ⟨_, rfl, rfl, ht⟩) t_nil dX1_referencesOfLeadToHeaders_43
      · refine lv_aload_n hx hb dX1_referencesOfLeadToHeaders_17 rfl (lv_at hl 0 rfl) ?_
        refine lv_aload_n hx hb dX1_referencesOfLeadToHeaders_18 rfl (lv_at hl 0 rfl) ?_
        refine va_get (D := D) (ci := 1) (v := .ref (ad 8)) (C := RX1) (T := TX1) (N := 16) hx hb hts in_X1_referencesOfLeadToHeaders_X1 hown hK hP 0 rfl rfl 8 (by decide) (hts (.fieldLink RX1 54 "OffsetHeap" "space" "[I") (by decide +kernel)) (fun _ h9 => h9) rfl dX1_referencesOfLeadToHeaders_19 ?_
        refine lv_iload_n hx hb dX1_referencesOfLeadToHeaders_22 rfl (lv_at hl 1 rfl) ?_
        refine lv_iconst (v := nI 1) hx hb dX1_referencesOfLeadToHeaders_23 (by decide +kernel) ?_
        refine lv_iadd hx hb dX1_referencesOfLeadToHeaders_24 ?_
        refine xk_top (nI_add _ _) ?_
        refine lv_iload_n hx hb dX1_referencesOfLeadToHeaders_25 rfl (lv_at hl 3 rfl) ?_
        refine lv_iadd hx hb dX1_referencesOfLeadToHeaders_26 ?_
        refine xk_top (nI_add _ _) ?_
        refine xk_iald hx hb hK hP 8 0 rfl rfl (by omega) (by omega) dX1_referencesOfLeadToHeaders_27 ?_
        refine xk_roV (As := [.int (mem ((o + 1) + i))]) (rest := []) ⟨hx, hb, hml, hown, hts⟩ (c_isObjectOrNone l D cI cL h0 ad n B nb tp ob co rd rts offs fnd mem frs btw snw stw fsw (mem ((o + 1) + i)) hn htp) (cwV 1 hts gX1_referencesOfLeadToHeaders_X1_isObjectOrNone rfl rfl rfl (by decide +kernel) ⟨Nat.le_of_ble_eq_true rfl, Nat.le_of_ble_eq_true rfl⟩) (va_recv hK hP (ci := 1) (q0 := 0) rfl rfl) hP hK rfl hl.1 rfl (Nat.le_of_ble_eq_true rfl) dX1_referencesOfLeadToHeaders_28 ⟨Nat.zero_le _, Nat.zero_le _⟩ ?_
        refine xk_if_neB (tgt := 36) hx hb dX1_referencesOfLeadToHeaders_31 (by decide) (fun c31 => ?_) (fun c31 => absurd (hok.ref h1 h2 h3 (k := i) (by unfold rfs; omega)) (by rw [c31]; decide))
        refine lv_iinc (v := nI (i + 1)) (lv' := [(3, .int (nI (i + 1))), (0, .ref h0), (1, .int (nI o)), (2, .int (nI (tn (mem o) / 16 % 16)))]) hx hb dX1_referencesOfLeadToHeaders_36 hl (k := 3) rfl (xk_inc i) (by decide) rfl (fun ls hl => ?_)
        refine lv_goto (tgt := 12) hx hb dX1_referencesOfLeadToHeaders_39 (by decide) ?_
        exact ih (i + 1) ls (by omega) (by omega) (lv_sub hl [1, 2, 3, 0] rfl)
  refine lv_aload_n hx hb dX1_referencesOfLeadToHeaders_0 rfl (lv_at hl 0 rfl) ?_
  refine va_get (D := D) (ci := 1) (v := .ref (ad 8)) (C := RX1) (T := TX1) (N := 16) hx hb hts in_X1_referencesOfLeadToHeaders_X1 hown hK hP 0 rfl rfl 8 (by decide) (hts (.fieldLink RX1 54 "OffsetHeap" "space" "[I") (by decide +kernel)) (fun _ h9 => h9) rfl dX1_referencesOfLeadToHeaders_1 ?_
  refine lv_iload_n hx hb dX1_referencesOfLeadToHeaders_4 rfl (lv_at hl 1 rfl) ?_
  refine xk_iald hx hb hK hP 8 0 rfl rfl (by omega) (by omega) dX1_referencesOfLeadToHeaders_5 ?_
  refine xk_top hh ?_
  refine xk_roS (As := [.int (nI (tn (mem o)))]) (rest := []) ⟨hx, hb, hml, hown, hts⟩ (c_referencesBy l (tn (mem o)) (by omega)) (va_cwS 1 hts gX1_referencesOfLeadToHeaders_X1_referencesBy rfl rfl rfl (by decide +kernel) ⟨Nat.le_of_ble_eq_true rfl, Nat.le_of_ble_eq_true rfl⟩) rfl hl.1 rfl (Nat.le_of_ble_eq_true rfl) dX1_referencesOfLeadToHeaders_6 ⟨Nat.zero_le _, Nat.zero_le _⟩ ?_
  refine lv_istore_n (lv' := [(2, .int (nI ((tn (mem o)) / 16 % 16))), (0, .ref h0), (1, .int (nI o))]) hx hb dX1_referencesOfLeadToHeaders_9 rfl hl (by decide) rfl (fun ls hl => ?_)
  refine lv_iconst (v := nI 0) hx hb dX1_referencesOfLeadToHeaders_10 (by decide +kernel) ?_
  refine lv_istore_n (lv' := [(3, .int (nI 0)), (2, .int (nI ((tn (mem o)) / 16 % 16))), (0, .ref h0), (1, .int (nI o))]) hx hb dX1_referencesOfLeadToHeaders_11 rfl hl (by decide) rfl (fun ls hl => ?_)
  exact key 17 0 ls (by omega) (by omega) (lv_sub hl [2, 3, 1, 0] rfl)
set_option maxHeartbeats 4000000 in
set_option maxRecDepth 100000 in
/-- all references lead to headers or are 0 -/
theorem c_referencesLeadToHeaders (l : Launch) (D : va_G) (cI cL : ClassId) (h0 : Nat) (ad : Nat → Nat) (n B nb tp ob co rd : Nat) (rts offs fnd mem frs : Nat → Int32) (btw snw stw fsw : Nat → Int64) (hn : n ≤ 4000) (hok : okS n tp mem (bo stw) rts) : Met l yX1_referencesLeadToHeaders wsX1_referencesLeadToHeaders ({ frames := 4, cells := 0, slots := 0, locals := 120 }) (va_Pc [.ref h0] (fun U => va_P D vwCl (cW cI cL h0 ad n B nb tp ob co rd rts offs fnd mem frs btw snw stw fsw) U.heap ∧ va_K D vwCl [(cI, .int), (cL, .long)] U)) (vp_Si (fun r9 => r9 = nI 1)) 0 0 (fun _ => False) := by
  refine Met.ofW (cc := cX1_referencesLeadToHeaders) (maxL := 2) (ret := (some .boolean)) (by decide) rfl ?_
  intro p e s m args below meth c s₁ B9 hml hv
  obtain ⟨rfl, hP, hK⟩ := hv
  have hx := B9.exec
  have hb := B9.bytes
  have hr := B9.returns
  have hts := atoms_spec (ws := wsX1_referencesLeadToHeaders) B9.pre
  have hown : s.vm.findClass RX1 = some m.cls := findClass_of_methodNamed B9.named
  have hlocks := B9.notSynchronized
  have hl := lv_entry ([.ref h0]) (n := 2) (Nat.le_of_ble_eq_true rfl)
  rw [lg_entry_eq]
  generalize (lg_sl ([.ref h0]) ++ List.replicate (2 - (lg_sl ([.ref h0])).length) Slot.unset).toArray = ls at hl ⊢
  have hl : lv_has ls 2 [(0, .ref h0)] := hl
  have htp := hok.1.2.1
  have htp1 := hok.1.1
  have key : ∀ (d : Nat) (i : Nat) (ls : Array Slot), tp + 1 ≤ i + d → i ≤ tp → 1 ≤ i → lv_has ls 2 [(0, .ref h0), (1, .int (nI i))] → W p l e (headSpec wsX1_referencesLeadToHeaders ({ frames := 4, cells := 0, slots := 0, locals := 120 })).room s m ([.ref h0] : List Value).toArray below meth c s.heap [] 0 0 (MQ below (vp_Si (fun r9 => r9 = nI 1)) ([.ref h0] : List Value).toArray s 0 0 (fun _ => False)) (F0 m 2 ls []) := by
    intro d
    induction d with
    | zero =>
      intro i ls hd hi h1 hl
      exfalso; omega
    | succ d ih =>
      intro i ls hd hi h1 hl
      refine lv_iload_n hx hb dX1_referencesLeadToHeaders_2 rfl (lv_at hl 1 rfl) ?_
      refine lv_aload_n hx hb dX1_referencesLeadToHeaders_3 rfl (lv_at hl 0 rfl) ?_
      refine va_get (D := D) (ci := 1) (v := .int (nI tp)) (C := RX1) (T := TX1) (N := 16) hx hb hts in_X1_referencesLeadToHeaders_X1 hown hK hP 0 rfl rfl 12 (by decide) (hts (.fieldLink RX1 66 "OffsetHeap" "top" "I") (by decide +kernel)) (fun _ h9 => h9) rfl dX1_referencesLeadToHeaders_4 ?_
      refine xk_icmp_ge (tgt := 37) hx hb (by omega) (by omega) dX1_referencesLeadToHeaders_7 (by decide) (fun c7 => ?_) (fun c7 => ?_)
      · refine lv_iconst (v := nI 1) hx hb dX1_referencesLeadToHeaders_37 (by decide +kernel) ?_
        exact W.zret hx hb hr rfl (fun t ht hW => ⟨_, rfl, rfl, ht⟩) t_nil dX1_referencesLeadToHeaders_38
      · refine lv_aload_n hx hb dX1_referencesLeadToHeaders_10 rfl (lv_at hl 0 rfl) ?_
        refine va_get (D := D) (ci := 1) (v := .ref (ad 10)) (C := RX1) (T := TX1) (N := 16) hx hb hts in_X1_referencesLeadToHeaders_X1 hown hK hP 0 rfl rfl 10 (by decide) (hts (.fieldLink RX1 60 "OffsetHeap" "starts" "LOffsetHeap$BitRow;") (by decide +kernel)) (fun _ h9 => h9) rfl dX1_referencesLeadToHeaders_11 ?_
        refine lv_iload_n hx hb dX1_referencesLeadToHeaders_14 rfl (lv_at hl 1 rfl) ?_
        refine xk_roV (As := [.int (nI i)]) (rest := []) ⟨hx, hb, hml, hown, hts⟩ (c_has l D cL (ad 10) (ad 11) (n / 64 + 1) stw (by omega) i (by omega) (by omega)) (cwV 1 hts gX1_referencesLeadToHeaders_X0_has rfl rfl rfl (by decide +kernel) ⟨Nat.le_of_ble_eq_true rfl, Nat.le_of_ble_eq_true rfl⟩) (va_recv hK hP (ci := 0) (q0 := 10) rfl rfl) (hP.sub [10, 11] rfl) (hK.sub [1] rfl) rfl hl.1 rfl (Nat.le_of_ble_eq_true rfl) dX1_referencesLeadToHeaders_15 ⟨Nat.zero_le _, Nat.zero_le _⟩ ?_
        refine xk_if_eqB (tgt := 31) hx hb dX1_referencesLeadToHeaders_18 (by decide) (fun c18 => ?_) (fun c18 => ?_)
        · refine lv_iinc (v := nI (i + 1)) (lv' := [(1, .int (nI (i + 1))), (0, .ref h0)]) hx hb dX1_referencesLeadToHeaders_31 hl (k := 1) rfl (xk_inc i) (by decide) rfl (fun ls hl => ?_)
          refine lv_goto (tgt := 2) hx hb dX1_referencesLeadToHeaders_34 (by decide) ?_
          exact ih (i + 1) ls (by omega) (by omega) (by omega) (lv_sub hl [1, 0] rfl)
        · refine lv_aload_n hx hb dX1_referencesLeadToHeaders_21 rfl (lv_at hl 0 rfl) ?_
          refine lv_iload_n hx hb dX1_referencesLeadToHeaders_22 rfl (lv_at hl 1 rfl) ?_
          refine xk_roV (As := [.int (nI i)]) (rest := []) ⟨hx, hb, hml, hown, hts⟩ (c_referencesOfLeadToHeaders l D cI cL h0 ad n B nb tp ob co rd rts offs fnd mem frs btw snw stw fsw hn hok i (by omega) (by omega) c18) (cwV 1 hts gX1_referencesLeadToHeaders_X1_referencesOfLeadToHeaders rfl rfl rfl (by decide +kernel) ⟨Nat.le_of_ble_eq_true rfl, Nat.le_of_ble_eq_true rfl⟩) (va_recv hK hP (ci := 1) (q0 := 0) rfl rfl) hP hK rfl hl.1 rfl (Nat.le_of_ble_eq_true rfl) dX1_referencesLeadToHeaders_23 ⟨Nat.zero_le _, Nat.zero_le _⟩ ?_
          refine xk_if_ne (tgt := 31) hx hb (by omega) dX1_referencesLeadToHeaders_26 (by decide) (fun c26 => ?_) (fun c26 => by exfalso; omega)
          refine lv_iinc (v := nI (i + 1)) (lv' := [(1, .int (nI (i + 1))), (0, .ref h0)]) hx hb dX1_referencesLeadToHeaders_31 hl (k := 1) rfl (xk_inc i) (by decide) rfl (fun ls hl => ?_)
          refine lv_goto (tgt := 2) hx hb dX1_referencesLeadToHeaders_34 (by decide) ?_
          exact ih (i + 1) ls (by omega) (by omega) (by omega) (lv_sub hl [1, 0] rfl)
  refine lv_iconst (v := nI 1) hx hb dX1_referencesLeadToHeaders_0 (by decide +kernel) ?_
  refine lv_istore_n (lv' := [(1, .int (nI 1)), (0, .ref h0)]) hx hb dX1_referencesLeadToHeaders_1 rfl hl (by decide) rfl (fun ls hl => ?_)
  exact key tp 1 ls (by omega) (by omega) (by omega) (lv_sub hl [1, 0] rfl)
set_option maxHeartbeats 4000000 in
set_option maxRecDepth 100000 in
/-- objects lie one behind the other -/
theorem c_objectsLieInARow (l : Launch) (D : va_G) (cI cL : ClassId) (h0 : Nat) (ad : Nat → Nat) (n B nb tp ob co rd : Nat) (rts offs fnd mem frs : Nat → Int32) (btw snw stw fsw : Nat → Int64) (hn : n ≤ 4000) (hok : okS n tp mem (bo stw) rts) : Met l yX1_objectsLieInARow wsX1_objectsLieInARow ({ frames := 2, cells := 0, slots := 0, locals := 60 }) (va_Pc [.ref h0] (fun U => va_P D vwCl (cW cI cL h0 ad n B nb tp ob co rd rts offs fnd mem frs btw snw stw fsw) U.heap ∧ va_K D vwCl [(cI, .int), (cL, .long)] U)) (vp_Si (fun r9 => r9 = nI 1)) 0 0 (fun _ => False) := by
  refine Met.ofW (cc := cX1_objectsLieInARow) (maxL := 3) (ret := (some .boolean)) (by decide) rfl ?_
  intro p e s m args below meth c s₁ B9 hml hv
  obtain ⟨rfl, hP, hK⟩ := hv
  have hx := B9.exec
  have hb := B9.bytes
  have hr := B9.returns
  have hts := atoms_spec (ws := wsX1_objectsLieInARow) B9.pre
  have hown : s.vm.findClass RX1 = some m.cls := findClass_of_methodNamed B9.named
  have hlocks := B9.notSynchronized
  have hl := lv_entry ([.ref h0]) (n := 3) (Nat.le_of_ble_eq_true rfl)
  rw [lg_entry_eq]
  generalize (lg_sl ([.ref h0]) ++ List.replicate (3 - (lg_sl ([.ref h0])).length) Slot.unset).toArray = ls at hl ⊢
  have hl : lv_has ls 3 [(0, .ref h0)] := hl
  have htp := hok.1.2.1
  have htp1 := hok.1.1
  have key : ∀ (d : Nat) (x i : Nat) (ls : Array Slot), tp + 1 ≤ i + d → 1 ≤ i → i ≤ x → x ≤ tp → (x < tp → bo stw x = true) → (∀ j, i ≤ j → j < x → bo stw j = false) → lv_has ls 3 [(0, .ref h0), (1, .int (nI x)), (2, .int (nI i))] → W p l e (headSpec wsX1_objectsLieInARow ({ frames := 2, cells := 0, slots := 0, locals := 60 })).room s m ([.ref h0] : List Value).toArray below meth c s.heap [] 0 0 (MQ below (vp_Si (fun r9 => r9 = nI 1)) ([.ref h0] : List Value).toArray s 0 0 (fun _ => False)) (F0 m 4 ls []) := by
    intro d
    induction d with
    | zero =>
      intro x i ls hd hi h1 h2 h3 h4 hl
      exfalso; omega
    | succ d ih =>
      intro x i ls hd hi h1 h2 h3 h4 hl
      refine lv_iload_n hx hb dX1_objectsLieInARow_4 rfl (lv_at hl 2 rfl) ?_
      refine lv_aload_n hx hb dX1_objectsLieInARow_5 rfl (lv_at hl 0 rfl) ?_
      refine va_get (D := D) (ci := 1) (v := .int (nI tp)) (C := RX1) (T := TX1) (N := 16) hx hb hts in_X1_objectsLieInARow_X1 hown hK hP 0 rfl rfl 12 (by decide) (hts (.fieldLink RX1 66 "OffsetHeap" "top" "I") (by decide +kernel)) (fun _ h9 => h9) rfl dX1_objectsLieInARow_6 ?_
      refine xk_icmp_ge (tgt := 58) hx hb (by omega) (by omega) dX1_objectsLieInARow_9 (by decide) (fun c9 => ?_) (fun c9 => ?_)
      · refine lv_iload_n hx hb dX1_objectsLieInARow_58 rfl (lv_at hl 1 rfl) ?_
        refine lv_aload_n hx hb dX1_objectsLieInARow_59 rfl (lv_at hl 0 rfl) ?_
        refine va_get (D := D) (ci := 1) (v := .int (nI tp)) (C := RX1) (T := TX1) (N := 16) hx hb hts in_X1_objectsLieInARow_X1 hown hK hP 0 rfl rfl 12 (by decide) (hts (.fieldLink RX1 66 "OffsetHeap" "top" "I") (by decide +kernel)) (fun _ h9 => h9) rfl dX1_objectsLieInARow_60 ?_
        refine xk_icmp_ne (tgt := 70) hx hb (by omega) (by omega) dX1_objectsLieInARow_63 (by decide) (fun c63 => by exfalso; omega) (fun c63 => ?_)
        refine lv_iconst (v := nI 1) hx hb dX1_objectsLieInARow_66 (by decide +kernel) ?_
        refine lv_goto (tgt := 71) hx hb dX1_objectsLieInARow_67 (by decide) ?_
        exact W.zret hx hb hr rfl (fun t ht hW => ⟨_, rfl, rfl, ht⟩) t_nil dX1_objectsLieInARow_71
      · refine lv_aload_n hx hb dX1_objectsLieInARow_12 rfl (lv_at hl 0 rfl) ?_
        refine va_get (D := D) (ci := 1) (v := .ref (ad 10)) (C := RX1) (T := TX1) (N := 16) hx hb hts in_X1_objectsLieInARow_X1 hown hK hP 0 rfl rfl 10 (by decide) (hts (.fieldLink RX1 60 "OffsetHeap" "starts" "LOffsetHeap$BitRow;") (by decide +kernel)) (fun _ h9 => h9) rfl dX1_objectsLieInARow_13 ?_
        refine lv_iload_n hx hb dX1_objectsLieInARow_16 rfl (lv_at hl 2 rfl) ?_
        refine xk_roV (As := [.int (nI i)]) (rest := []) ⟨hx, hb, hml, hown, hts⟩ (c_has l D cL (ad 10) (ad 11) (n / 64 + 1) stw (by omega) i (by omega) (by omega)) (cwV 1 hts gX1_objectsLieInARow_X0_has rfl rfl rfl (by decide +kernel) ⟨Nat.le_of_ble_eq_true rfl, Nat.le_of_ble_eq_true rfl⟩) (va_recv hK hP (ci := 0) (q0 := 10) rfl rfl) (hP.sub [10, 11] rfl) (hK.sub [1] rfl) rfl hl.1 rfl (Nat.le_of_ble_eq_true rfl) dX1_objectsLieInARow_17 ⟨Nat.zero_le _, Nat.zero_le _⟩ ?_
        refine lv_iload_n hx hb dX1_objectsLieInARow_20 rfl (lv_at hl 2 rfl) ?_
        refine lv_iload_n hx hb dX1_objectsLieInARow_21 rfl (lv_at hl 1 rfl) ?_
        refine xk_icmp_ne (tgt := 29) hx hb (by omega) (by omega) dX1_objectsLieInARow_22 (by decide) (fun c22 => ?_) (fun c22 => ?_)
        · refine lv_iconst (v := nI 0) hx hb dX1_objectsLieInARow_29 (by decide +kernel) ?_
          refine lv_icmp_eq (tgt := 35) hx hb dX1_objectsLieInARow_30 (by decide) (fun c30 => ?_) (fun c30 => absurd (show bI (bo stw i) = nI 0 by rw [h4 i (by omega) (by omega)]; rfl) c30)
          refine lv_iload_n hx hb dX1_objectsLieInARow_35 rfl (lv_at hl 2 rfl) ?_
          refine lv_iload_n hx hb dX1_objectsLieInARow_36 rfl (lv_at hl 1 rfl) ?_
          refine xk_icmp_ne (tgt := 52) hx hb (by omega) (by omega) dX1_objectsLieInARow_37 (by decide) (fun c37 => ?_) (fun c37 => absurd c37 c22)
          refine lv_iinc (v := nI (i + 1)) (lv' := [(2, .int (nI (i + 1))), (0, .ref h0), (1, .int (nI x))]) hx hb dX1_objectsLieInARow_52 hl (k := 2) rfl (xk_inc i) (by decide) rfl (fun ls hl => ?_)
          refine lv_goto (tgt := 4) hx hb dX1_objectsLieInARow_55 (by decide) ?_
          exact ih x (i + 1) ls (by omega) (by omega) (by omega) (by omega) h3 (fun j j1 j2 => h4 j (by omega) j2) (lv_sub hl [1, 2, 0] rfl)
        · refine lv_iconst (v := nI 1) hx hb dX1_objectsLieInARow_25 (by decide +kernel) ?_
          refine lv_goto (tgt := 30) hx hb dX1_objectsLieInARow_26 (by decide) ?_
          refine lv_icmp_eq (tgt := 35) hx hb dX1_objectsLieInARow_30 (by decide) (fun c30 => ?_) (fun c30 => absurd (show bI (bo stw i) = nI 1 by rw [c22, h3 (by omega)]; rfl) c30)
          refine lv_iload_n hx hb dX1_objectsLieInARow_35 rfl (lv_at hl 2 rfl) ?_
          refine lv_iload_n hx hb dX1_objectsLieInARow_36 rfl (lv_at hl 1 rfl) ?_
          refine xk_icmp_ne (tgt := 52) hx hb (by omega) (by omega) dX1_objectsLieInARow_37 (by decide) (fun c37 => absurd c22 c37) (fun c37 => ?_)
          refine lv_iload_n hx hb dX1_objectsLieInARow_40 rfl (lv_at hl 2 rfl) ?_
          refine lv_aload_n hx hb dX1_objectsLieInARow_41 rfl (lv_at hl 0 rfl) ?_
          refine va_get (D := D) (ci := 1) (v := .ref (ad 8)) (C := RX1) (T := TX1) (N := 16) hx hb hts in_X1_objectsLieInARow_X1 hown hK hP 0 rfl rfl 8 (by decide) (hts (.fieldLink RX1 54 "OffsetHeap" "space" "[I") (by decide +kernel)) (fun _ h9 => h9) rfl dX1_objectsLieInARow_42 ?_
          refine lv_iload_n hx hb dX1_objectsLieInARow_45 rfl (lv_at hl 2 rfl) ?_
          refine xk_iald hx hb hK hP 8 0 rfl rfl (by omega) (by omega) dX1_objectsLieInARow_46 ?_
          refine xk_top (hok.hdr (by omega) (by omega) (by rw [c22]; exact h3 (by omega))) ?_
          have q1 : bo stw i = true := by rw [c22]; exact h3 (by omega)
          have q2 := hok.hsm (by omega) (by omega) q1
          have q3 := hok.fit (by omega) (by omega) q1
          have q4 := siz_pos mem i
          refine xk_roS (As := [.int (nI (tn (mem i)))]) (rest := [.int (nI i)]) ⟨hx, hb, hml, hown, hts⟩ (c_sizeBy l (tn (mem i)) (by omega)) (va_cwS 1 hts gX1_objectsLieInARow_X1_sizeBy rfl rfl rfl (by decide +kernel) ⟨Nat.le_of_ble_eq_true rfl, Nat.le_of_ble_eq_true rfl⟩) rfl hl.1 rfl (Nat.le_of_ble_eq_true rfl) dX1_objectsLieInARow_47 ⟨Nat.zero_le _, Nat.zero_le _⟩ ?_
          refine lv_iadd hx hb dX1_objectsLieInARow_50 ?_
          refine xk_top (nI_add _ _) ?_
          refine lv_istore_n (lv' := [(1, .int (nI (i + (1 + (tn (mem i)) / 16 % 16 + (tn (mem i)) / 256)))), (0, .ref h0), (2, .int (nI i))]) hx hb dX1_objectsLieInARow_51 rfl hl (by decide) rfl (fun ls hl => ?_)
          refine lv_iinc (v := nI (i + 1)) (lv' := [(2, .int (nI (i + 1))), (1, .int (nI (i + (1 + (tn (mem i)) / 16 % 16 + (tn (mem i)) / 256)))), (0, .ref h0)]) hx hb dX1_objectsLieInARow_52 hl (k := 2) rfl (xk_inc i) (by decide) rfl (fun ls hl => ?_)
          refine lv_goto (tgt := 4) hx hb dX1_objectsLieInARow_55 (by decide) ?_
          exact ih (i + siz mem i) (i + 1) ls (by omega) (by omega) (by omega) (by omega) (hok.next (by omega) (by omega) q1) (fun j j1 j2 => hok.gap (by omega) (by omega) q1 (by omega) j2) (lv_sub hl [2, 1, 0] rfl)
  refine lv_iconst (v := nI 1) hx hb dX1_objectsLieInARow_0 (by decide +kernel) ?_
  refine lv_istore_n (lv' := [(1, .int (nI 1)), (0, .ref h0)]) hx hb dX1_objectsLieInARow_1 rfl hl (by decide) rfl (fun ls hl => ?_)
  refine lv_iconst (v := nI 1) hx hb dX1_objectsLieInARow_2 (by decide +kernel) ?_
  refine lv_istore_n (lv' := [(2, .int (nI 1)), (1, .int (nI 1)), (0, .ref h0)]) hx hb dX1_objectsLieInARow_3 rfl hl (by decide) rfl (fun ls hl => ?_)
  exact key tp 1 1 ls (by omega) (by omega) (by omega) (by omega) hok.2.1 (fun j j1 j2 => by omega) (lv_sub hl [2, 1, 0] rfl)
set_option maxHeartbeats 4000000 in
set_option maxRecDepth 100000 in
/-- new addresses follow from bits -/
theorem c_newAddressesFollowFromBits (l : Launch) (D : va_G) (cI cL : ClassId) (h0 : Nat) (ad : Nat → Nat) (n B nb tp ob co rd : Nat) (rts offs fnd mem frs : Nat → Int32) (btw snw stw fsw : Nat → Int64) (hn : n ≤ 4000) (hB : okB B) (hnb : nb = n / B + 1) (hof : offOk B nb offs (bo btw)) : Met l yX1_newAddressesFollowFromBits wsX1_newAddressesFollowFromBits ({ frames := 3, cells := 0, slots := 0, locals := 90 }) (va_Pc [.ref h0] (fun U => va_P D vwCl (cW cI cL h0 ad n B nb tp ob co rd rts offs fnd mem frs btw snw stw fsw) U.heap ∧ va_K D vwCl [(cI, .int), (cL, .long)] U)) (vp_Si (fun r9 => r9 = nI 1)) 0 0 (fun _ => False) := by
  refine Met.ofW (cc := cX1_newAddressesFollowFromBits) (maxL := 3) (ret := (some .boolean)) (by decide) rfl ?_
  intro p e s m args below meth c s₁ B9 hml hv
  obtain ⟨rfl, hP, hK⟩ := hv
  have hx := B9.exec
  have hb := B9.bytes
  have hr := B9.returns
  have hts := atoms_spec (ws := wsX1_newAddressesFollowFromBits) B9.pre
  have hown : s.vm.findClass RX1 = some m.cls := findClass_of_methodNamed B9.named
  have hlocks := B9.notSynchronized
  have hl := lv_entry ([.ref h0]) (n := 3) (Nat.le_of_ble_eq_true rfl)
  rw [lg_entry_eq]
  generalize (lg_sl ([.ref h0]) ++ List.replicate (3 - (lg_sl ([.ref h0])).length) Slot.unset).toArray = ls at hl ⊢
  have hl : lv_has ls 3 [(0, .ref h0)] := hl
  have key : ∀ (d : Nat) (i : Nat) (ls : Array Slot), n + 2 ≤ i + d → i ≤ n + 1 → lv_has ls 3 [(0, .ref h0), (1, .int (nI (cn (bo btw) i))), (2, .int (nI i))] → W p l e (headSpec wsX1_newAddressesFollowFromBits ({ frames := 3, cells := 0, slots := 0, locals := 90 })).room s m ([.ref h0] : List Value).toArray below meth c s.heap [] 0 0 (MQ below (vp_Si (fun r9 => r9 = nI 1)) ([.ref h0] : List Value).toArray s 0 0 (fun _ => False)) (F0 m 4 ls []) := by
    intro d
    induction d with
    | zero =>
      intro i ls hd hi hl
      exfalso; omega
    | succ d ih =>
      intro i ls hd hi hl
      have q1 := cn_le (bo btw) i
      refine lv_iload_n hx hb dX1_newAddressesFollowFromBits_4 rfl (lv_at hl 2 rfl) ?_
      refine lv_aload_n hx hb dX1_newAddressesFollowFromBits_5 rfl (lv_at hl 0 rfl) ?_
      refine va_get (D := D) (ci := 1) (v := .int (nI n)) (C := RX1) (T := TX1) (N := 16) hx hb hts in_X1_newAddressesFollowFromBits_X1 hown hK hP 0 rfl rfl 0 (by decide) (hts (.fieldLink RX1 18 "OffsetHeap" "last" "I") (by decide +kernel)) (fun _ h9 => h9) rfl dX1_newAddressesFollowFromBits_6 ?_
      refine xk_icmp_gt (tgt := 45) hx hb (by omega) (by omega) dX1_newAddressesFollowFromBits_9 (by decide) (fun c9 => ?_) (fun c9 => ?_)
      · refine lv_iconst (v := nI 1) hx hb dX1_newAddressesFollowFromBits_45 (by decide +kernel) ?_
        exact W.zret hx hb hr rfl (fun t ht hW => ⟨_, rfl, rfl, ht⟩) t_nil dX1_newAddressesFollowFromBits_46
      · refine lv_aload_n hx hb dX1_newAddressesFollowFromBits_12 rfl (lv_at hl 0 rfl) ?_
        refine va_get (D := D) (ci := 1) (v := .ref (ad 2)) (C := RX1) (T := TX1) (N := 16) hx hb hts in_X1_newAddressesFollowFromBits_X1 hown hK hP 0 rfl rfl 4 (by decide) (hts (.fieldLink RX1 41 "OffsetHeap" "bits" "LOffsetHeap$BitRow;") (by decide +kernel)) (fun _ h9 => h9) rfl dX1_newAddressesFollowFromBits_13 ?_
        refine lv_iload_n hx hb dX1_newAddressesFollowFromBits_16 rfl (lv_at hl 2 rfl) ?_
        refine xk_roV (As := [.int (nI i)]) (rest := []) ⟨hx, hb, hml, hown, hts⟩ (c_has l D cL (ad 2) (ad 3) (n / 64 + 1) btw (by omega) i (by omega) (by omega)) (cwV 1 hts gX1_newAddressesFollowFromBits_X0_has rfl rfl rfl (by decide +kernel) ⟨Nat.le_of_ble_eq_true rfl, Nat.le_of_ble_eq_true rfl⟩) (va_recv hK hP (ci := 0) (q0 := 2) rfl rfl) (hP.sub [2, 3] rfl) (hK.sub [1] rfl) rfl hl.1 rfl (Nat.le_of_ble_eq_true rfl) dX1_newAddressesFollowFromBits_17 ⟨Nat.zero_le _, Nat.zero_le _⟩ ?_
        refine xk_if_eqB (tgt := 39) hx hb dX1_newAddressesFollowFromBits_20 (by decide) (fun c20 => ?_) (fun c20 => ?_)
        · refine lv_iinc (v := nI (i + 1)) (lv' := [(2, .int (nI (i + 1))), (0, .ref h0), (1, .int (nI (cn (bo btw) i)))]) hx hb dX1_newAddressesFollowFromBits_39 hl (k := 2) rfl (xk_inc i) (by decide) rfl (fun ls hl => ?_)
          refine lv_goto (tgt := 4) hx hb dX1_newAddressesFollowFromBits_42 (by decide) ?_
          rw [← cn_f c20] at hl
          exact ih (i + 1) ls (by omega) (by omega) (lv_sub hl [1, 2, 0] rfl)
        · refine lv_aload_n hx hb dX1_newAddressesFollowFromBits_23 rfl (lv_at hl 0 rfl) ?_
          refine lv_iload_n hx hb dX1_newAddressesFollowFromBits_24 rfl (lv_at hl 2 rfl) ?_
          refine xk_roV (As := [.int (nI i)]) (rest := []) ⟨hx, hb, hml, hown, hts⟩ (c_newAddress l D cI cL h0 ad n B nb tp ob co rd rts offs fnd mem frs btw snw stw fsw i hn hB hnb hof (by omega)) (cwV 1 hts gX1_newAddressesFollowFromBits_X1_newAddress rfl rfl rfl (by decide +kernel) ⟨Nat.le_of_ble_eq_true rfl, Nat.le_of_ble_eq_true rfl⟩) (va_recv hK hP (ci := 1) (q0 := 0) rfl rfl) hP hK rfl hl.1 rfl (Nat.le_of_ble_eq_true rfl) dX1_newAddressesFollowFromBits_25 ⟨Nat.zero_le _, Nat.zero_le _⟩ ?_
          refine lv_iconst (v := nI 1) hx hb dX1_newAddressesFollowFromBits_28 (by decide +kernel) ?_
          refine lv_iload_n hx hb dX1_newAddressesFollowFromBits_29 rfl (lv_at hl 1 rfl) ?_
          refine lv_iadd hx hb dX1_newAddressesFollowFromBits_30 ?_
          refine xk_top (nI_add _ _) ?_
          refine xk_icmp_eq (tgt := 36) hx hb (by omega) (by omega) dX1_newAddressesFollowFromBits_31 (by decide) (fun c31 => ?_) (fun c31 => by exfalso; omega)
          refine lv_iinc (v := nI (cn (bo btw) i + 1)) (lv' := [(1, .int (nI (cn (bo btw) i + 1))), (0, .ref h0), (2, .int (nI i))]) hx hb dX1_newAddressesFollowFromBits_36 hl (k := 1) rfl (xk_inc (cn (bo btw) i)) (by decide) rfl (fun ls hl => ?_)
          refine lv_iinc (v := nI (i + 1)) (lv' := [(2, .int (nI (i + 1))), (1, .int (nI (cn (bo btw) i + 1))), (0, .ref h0)]) hx hb dX1_newAddressesFollowFromBits_39 hl (k := 2) rfl (xk_inc i) (by decide) rfl (fun ls hl => ?_)
          refine lv_goto (tgt := 4) hx hb dX1_newAddressesFollowFromBits_42 (by decide) ?_
          rw [← cn_t c20] at hl
          exact ih (i + 1) ls (by omega) (by omega) (lv_sub hl [2, 1, 0] rfl)
  refine lv_iconst (v := nI 0) hx hb dX1_newAddressesFollowFromBits_0 (by decide +kernel) ?_
  refine lv_istore_n (lv' := [(1, .int (nI 0)), (0, .ref h0)]) hx hb dX1_newAddressesFollowFromBits_1 rfl hl (by decide) rfl (fun ls hl => ?_)
  refine lv_iconst (v := nI 0) hx hb dX1_newAddressesFollowFromBits_2 (by decide +kernel) ?_
  refine lv_istore_n (lv' := [(2, .int (nI 0)), (1, .int (nI 0)), (0, .ref h0)]) hx hb dX1_newAddressesFollowFromBits_3 rfl hl (by decide) rfl (fun ls hl => ?_)
  exact key (n + 2) 0 ls (by omega) (by omega) (lv_sub hl [2, 1, 0] rfl)
set_option maxHeartbeats 4000000 in
set_option maxRecDepth 100000 in
/-- sound: always -/
theorem c_sound (l : Launch) (D : va_G) (cI cL : ClassId) (h0 : Nat) (ad : Nat → Nat) (n B nb tp ob co rd : Nat) (rts offs fnd mem frs : Nat → Int32) (btw snw stw fsw : Nat → Int64) (hn : n ≤ 4000) (hok : okS n tp mem (bo stw) rts) (hB : okB B) (hnb : nb = n / B + 1) (hof : offOk B nb offs (bo btw)) : Met l yX1_sound wsX1_sound ({ frames := 5, cells := 0, slots := 0, locals := 150 }) (va_Pc [.ref h0] (fun U => va_P D vwCl (cW cI cL h0 ad n B nb tp ob co rd rts offs fnd mem frs btw snw stw fsw) U.heap ∧ va_K D vwCl [(cI, .int), (cL, .long)] U)) (vp_Si (fun r9 => r9 = nI 1)) 0 0 (fun _ => False) := by
  refine Met.ofW (cc := cX1_sound) (maxL := 1) (ret := (some .boolean)) (by decide) rfl ?_
  intro p e s m args below meth c s₁ B9 hml hv
  obtain ⟨rfl, hP, hK⟩ := hv
  have hx := B9.exec
  have hb := B9.bytes
  have hr := B9.returns
  have hts := atoms_spec (ws := wsX1_sound) B9.pre
  have hown : s.vm.findClass RX1 = some m.cls := findClass_of_methodNamed B9.named
  have hlocks := B9.notSynchronized
  have hl := lv_entry ([.ref h0]) (n := 1) (Nat.le_of_ble_eq_true rfl)
  rw [lg_entry_eq]
  generalize (lg_sl ([.ref h0]) ++ List.replicate (1 - (lg_sl ([.ref h0])).length) Slot.unset).toArray = ls at hl ⊢
  have hl : lv_has ls 1 [(0, .ref h0)] := hl
  refine lv_aload_n hx hb dX1_sound_0 rfl (lv_at hl 0 rfl) ?_
  refine xk_roV (As := []) (rest := []) ⟨hx, hb, hml, hown, hts⟩ (c_objectsLieInARow l D cI cL h0 ad n B nb tp ob co rd rts offs fnd mem frs btw snw stw fsw hn hok) (cwV 0 hts gX1_sound_X1_objectsLieInARow rfl rfl rfl (by decide +kernel) ⟨Nat.le_of_ble_eq_true rfl, Nat.le_of_ble_eq_true rfl⟩) (va_recv hK hP (ci := 1) (q0 := 0) rfl rfl) hP hK rfl hl.1 rfl (Nat.le_of_ble_eq_true rfl) dX1_sound_1 ⟨Nat.zero_le _, Nat.zero_le _⟩ ?_
  refine xk_if_eq (tgt := 32) hx hb (by omega) dX1_sound_4 (by decide) (fun c4 => by exfalso; omega) (fun c4 => ?_)
  refine lv_aload_n hx hb dX1_sound_7 rfl (lv_at hl 0 rfl) ?_
  refine xk_roV (As := []) (rest := []) ⟨hx, hb, hml, hown, hts⟩ (c_rootsLeadToHeaders l D cI cL h0 ad n B nb tp ob co rd rts offs fnd mem frs btw snw stw fsw hn hok) (cwV 0 hts gX1_sound_X1_rootsLeadToHeaders rfl rfl rfl (by decide +kernel) ⟨Nat.le_of_ble_eq_true rfl, Nat.le_of_ble_eq_true rfl⟩) (va_recv hK hP (ci := 1) (q0 := 0) rfl rfl) hP hK rfl hl.1 rfl (Nat.le_of_ble_eq_true rfl) dX1_sound_8 ⟨Nat.zero_le _, Nat.zero_le _⟩ ?_
  refine xk_if_eq (tgt := 32) hx hb (by omega) dX1_sound_11 (by decide) (fun c11 => by exfalso; omega) (fun c11 => ?_)
  refine lv_aload_n hx hb dX1_sound_14 rfl (lv_at hl 0 rfl) ?_
  refine xk_roV (As := []) (rest := []) ⟨hx, hb, hml, hown, hts⟩ (c_referencesLeadToHeaders l D cI cL h0 ad n B nb tp ob co rd rts offs fnd mem frs btw snw stw fsw hn hok) (cwV 0 hts gX1_sound_X1_referencesLeadToHeaders rfl rfl rfl (by decide +kernel) ⟨Nat.le_of_ble_eq_true rfl, Nat.le_of_ble_eq_true rfl⟩) (va_recv hK hP (ci := 1) (q0 := 0) rfl rfl) hP hK rfl hl.1 rfl (Nat.le_of_ble_eq_true rfl) dX1_sound_15 ⟨Nat.zero_le _, Nat.zero_le _⟩ ?_
  refine xk_if_eq (tgt := 32) hx hb (by omega) dX1_sound_18 (by decide) (fun c18 => by exfalso; omega) (fun c18 => ?_)
  refine lv_aload_n hx hb dX1_sound_21 rfl (lv_at hl 0 rfl) ?_
  refine xk_roV (As := []) (rest := []) ⟨hx, hb, hml, hown, hts⟩ (c_newAddressesFollowFromBits l D cI cL h0 ad n B nb tp ob co rd rts offs fnd mem frs btw snw stw fsw hn hB hnb hof) (cwV 0 hts gX1_sound_X1_newAddressesFollowFromBits rfl rfl rfl (by decide +kernel) ⟨Nat.le_of_ble_eq_true rfl, Nat.le_of_ble_eq_true rfl⟩) (va_recv hK hP (ci := 1) (q0 := 0) rfl rfl) hP hK rfl hl.1 rfl (Nat.le_of_ble_eq_true rfl) dX1_sound_22 ⟨Nat.zero_le _, Nat.zero_le _⟩ ?_
  refine xk_if_eq (tgt := 32) hx hb (by omega) dX1_sound_25 (by decide) (fun c25 => by exfalso; omega) (fun c25 => ?_)
  refine lv_iconst (v := nI 1) hx hb dX1_sound_28 (by decide +kernel) ?_
  refine lv_goto (tgt := 33) hx hb dX1_sound_29 (by decide) ?_
  exact W.zret hx hb hr rfl (fun t ht hW => ⟨_, rfl, rfl, ht⟩) t_nil dX1_sound_33
end
section
/-! the search: what its loops come to -/
theorem ex_s {f : Nat → Nat} {i x : Nat} : (∃ k, k < i + 1 ∧ f k = x) ↔ (∃ k, k < i ∧ f k = x) ∨ x = f i := by
  constructor
  · rintro ⟨k, h1, h2⟩
    by_cases q : k = i
    · subst q; exact Or.inr h2.symm
    · exact Or.inl ⟨k, by omega, h2⟩
  · rintro (⟨k, h1, h2⟩ | h)
    · exact ⟨k, by omega, h2⟩
    · exact ⟨i, by omega, h.symm⟩
theorem ex_0 {f : Nat → Nat} {x : Nat} : ¬ ∃ k, k < 0 ∧ f k = x := fun ⟨k, h, _⟩ => by omega
def SS (n : Nat) (mem fnd : Nat → Int32) (a b : Nat) : Nat → Prop := fun x => ∃ g, a ≤ g ∧ g < b ∧ ∃ o, fnd g = nI o ∧ o ≤ n ∧ ∃ k, k < rfs mem o ∧ tn (mem (o + 1 + k)) = x
theorem SS_s {n : Nat} {mem fnd : Nat → Int32} {a f o : Nat} (hn : n ≤ 4000) (ha : a ≤ f) (ho : o ≤ n) (e : fnd f = nI o) (x : Nat) : SS n mem fnd a (f + 1) x ↔ SS n mem fnd a f x ∨ ∃ k, k < rfs mem o ∧ tn (mem (o + 1 + k)) = x := by
  constructor
  · rintro ⟨g, g1, g2, o', h1, h2, h3⟩
    by_cases q : g = f
    · subst q
      have : o = o' := (nI_eq (by omega) (by omega)).mp (e.symm.trans h1)
      subst this
      exact Or.inr h3
    · exact Or.inl ⟨g, g1, by omega, o', h1, h2, h3⟩
  · rintro (⟨g, g1, g2, h⟩ | h)
    · exact ⟨g, g1, by omega, h⟩
    · exact ⟨f, ha, by omega, o, e, ho, h⟩
theorem SS_0 {n : Nat} {mem fnd : Nat → Int32} {a x : Nat} : ¬ SS n mem fnd a a x := fun ⟨g, g1, g2, _⟩ => by omega
def PR (n : Nat) (mem fnd : Nat → Int32) (snw : Nat → Int64) (a : Nat) : Prop := ∀ f, f < a → ∀ o, fnd f = nI o → o ≤ n → ∀ k, k < rfs mem o → tn (mem (o + 1 + k)) ≠ 0 → bo snw (tn (mem (o + 1 + k))) = true
theorem fw_step {n tp : Nat} {mem : Nat → Int32} {st : Nat → Bool} {rt : Nat → Int32} (hok : okS n tp mem st rt) {step a z1 z2 : Nat} {snw1 snw2 : Nat → Int64} {fnd1 fnd2 : Nat → Int32} (hF : FI n snw1 fnd1 z1) (hN : ∀ x, x ≤ n → (bo snw1 x = true ↔ NR mem rt step x)) (hpr : PR n mem fnd1 snw1 a) (hI : StpF n snw1 fnd1 z1 (SS n mem fnd1 a z1) snw2 fnd2 z2) :
    (∀ x, x ≤ n → (bo snw2 x = true ↔ NR mem rt (step + 1) x)) ∧ PR n mem fnd2 snw2 z1 := by
  obtain ⟨i1, i2, i3, i4⟩ := hI
  have htp := hok.1.2.1
  have lead : ∀ o, NR mem rt step o → ∀ k, k < rfs mem o → tn (mem (o + 1 + k)) ≠ 0 → bo snw2 (tn (mem (o + 1 + k))) = true := by
    intro o ho k hk h0
    obtain ⟨o1, o2, o3⟩ := NR_obj hok _ o ho
    have hle : tn (mem (o + 1 + k)) ≤ n := by
      rcases (hok.refN o1 o2 o3 hk).2 with q | q
      · omega
      · omega
    obtain ⟨f, f1, f2⟩ := hF.2.2.2 o (by omega) ((hN o (by omega)).mpr ho)
    rw [i2 _ hle]
    by_cases q : f < a
    · exact Or.inl (hpr f q o f2 (by omega) k hk h0)
    · exact Or.inr ⟨h0, f, by omega, f1, o, f2, by omega, k, hk, rfl⟩
  refine ⟨fun x hx => ?_, fun f hf o e ho k hk h0 => ?_⟩
  · constructor
    · intro h
      rw [i2 x hx] at h
      rcases h with q | ⟨h0, g, g1, g2, o, e, ho, k, hk, ek⟩
      · exact Or.inl ((hN x hx).mp q)
      · obtain ⟨x', x1, x2, x3, x4⟩ := hF.2.2.1 g g2
        have : x' = o := (nI_eq (by have := hok.1.2.2; omega) (by have := hok.1.2.2; omega)).mp (x3.symm.trans e)
        subst this
        exact Or.inr ⟨x', (hN x' x2).mp x4, by omega, k, hk, ek⟩
    · rintro (q | ⟨y, hy, h0, k, hk, ek⟩)
      · rw [i2 x hx]; exact Or.inl ((hN x hx).mpr q)
      · rw [← ek]; exact lead y hy k hk (by omega)
  · rw [i4 f hf] at e
    obtain ⟨x', x1, x2, x3, x4⟩ := hF.2.2.1 f hf
    have : x' = o := (nI_eq (by have := hok.1.2.2; omega) (by have := hok.1.2.2; omega)).mp (x3.symm.trans e)
    subst this
    exact lead x' ((hN x' x2).mp x4) k hk h0
/-- all that was found is followed: nothing more is led to -/
theorem fw_closed {n tp : Nat} {mem : Nat → Int32} {st : Nat → Bool} {rt : Nat → Int32} (hok : okS n tp mem st rt) {step a z1 : Nat} {snw1 : Nat → Int64} {fnd1 : Nat → Int32} (hF : FI n snw1 fnd1 z1) (hN : ∀ x, x ≤ n → (bo snw1 x = true ↔ NR mem rt step x)) (hpr : PR n mem fnd1 snw1 a) (ha : z1 ≤ a) : ∀ t x, NR mem rt t x → NR mem rt step x := by
  refine NR_closed ?_
  rintro x (q | ⟨y, hy, h0, k, hk, ek⟩)
  · exact q
  · obtain ⟨y1, y2, y3⟩ := NR_obj hok _ y hy
    have htp := hok.1.2.1
    obtain ⟨f, f1, f2⟩ := hF.2.2.2 y (by omega) ((hN y (by omega)).mpr hy)
    have h := hpr f (by omega) y f2 (by omega) k hk (by omega)
    rw [ek] at h
    have hx : x ≤ n := by
      rcases (hok.refN y1 y2 y3 hk).2 with q | q
      · omega
      · omega
    exact (hN x hx).mp h
end
section
/-! the class: the search -/
theorem in_X1_find_X1 : ∀ w ∈ wsX10, w ∈ wsX1_find := by decide +kernel
theorem in_X1_findReferred_X1 : ∀ w ∈ wsX10, w ∈ wsX1_findReferred := by decide +kernel
theorem in_X1_findWithin_X1 : ∀ w ∈ wsX10, w ∈ wsX1_findWithin := by decide +kernel
theorem in_X1_near_X1 : ∀ w ∈ wsX10, w ∈ wsX1_near := by decide +kernel
set_option maxHeartbeats 4000000 in
set_option maxRecDepth 100000 in
/-- find: one more is seen -/
theorem c_find (l : Launch) (D : va_G) (cI cL : ClassId) (h0 : Nat) (ad : Nat → Nat) (n B nb tp ob co rd : Nat) (rts offs fnd mem frs : Nat → Int32) (btw snw stw fsw : Nat → Int64) (sz a z : Nat) (hn : n ≤ 4000) (ha : a ≤ n) (hF : FI n snw fnd z) : Met l yX1_find wsX1_find ({ frames := 1, cells := 0, slots := 0, locals := 30 }) (va_Pc [.ref h0, .int (nI a), .int (nI z)] (fun U => U.heap.size = sz ∧ va_P D vwCl (cW cI cL h0 ad n B nb tp ob co rd rts offs fnd mem frs btw snw stw fsw) U.heap ∧ va_K D vwCl [(cI, .int), (cL, .long)] U ∧ va_D (fun _ => True) (cW cI cL h0 ad n B nb tp ob co rd rts offs fnd mem frs btw snw stw fsw))) (va_Qi (fun (r9 : Int32) (u : (Nat → Int64) × (Nat → Int32) × Nat) => r9 = nI u.2.2 ∧ StpF n snw fnd z (fun x => x = a) u.1 u.2.1 u.2.2) (fun (u : (Nat → Int64) × (Nat → Int32) × Nat) t => va_P D vwCl (cW cI cL h0 ad n B nb tp ob co rd rts offs u.2.1 mem frs btw u.1 stw fsw) t.heap ∧ va_D (va_A (cW cI cL h0 ad n B nb tp ob co rd rts offs fnd mem frs btw snw stw fsw) sz) (cW cI cL h0 ad n B nb tp ob co rd rts offs u.2.1 mem frs btw u.1 stw fsw)) (va_A (cW cI cL h0 ad n B nb tp ob co rd rts offs fnd mem frs btw snw stw fsw) sz)) 0 0 (va_A (cW cI cL h0 ad n B nb tp ob co rd rts offs fnd mem frs btw snw stw fsw) sz) := by
  refine Met.ofW (cc := cX1_find) (maxL := 3) (ret := (some .int)) (by decide) rfl ?_
  intro p e s m args below meth c s₁ B9 hml hv
  obtain ⟨rfl, hsz, hP, hK, hD0⟩ := hv
  have hx := B9.exec
  have hb := B9.bytes
  have hr := B9.returns
  have hts := atoms_spec (ws := wsX1_find) B9.pre
  have hown : s.vm.findClass RX1 = some m.cls := findClass_of_methodNamed B9.named
  have hlocks := B9.notSynchronized
  subst hsz
  have hD := hD0.self (sz := s.heap.size)
  generalize hAe : va_A (cW cI cL h0 ad n B nb tp ob co rd rts offs fnd mem frs btw snw stw fsw) s.heap.size = A at hD ⊢
  have hA : ∀ q : Nat, s.heap.size ≤ q → A q := fun q h => by rw [← hAe]; exact Or.inr h
  have hS : va_S A s.heap s.heap [] := va_S.rf
  have hl := lv_entry ([.ref h0, .int (nI a), .int (nI z)]) (n := 3) (Nat.le_of_ble_eq_true rfl)
  rw [lg_entry_eq]
  generalize (lg_sl ([.ref h0, .int (nI a), .int (nI z)]) ++ List.replicate (3 - (lg_sl ([.ref h0, .int (nI a), .int (nI z)])).length) Slot.unset).toArray = ls at hl ⊢
  have hl : lv_has ls 3 [(0, .ref h0), (1, .int (nI a)), (2, .int (nI z))] := hl
  have hz := hF.le
  refine lv_iload_n hx hb dX1_find_0 rfl (lv_at hl 1 rfl) ?_
  refine xk_if_eq (tgt := 15) hx hb (by omega) dX1_find_1 (by decide) (fun c1 => ?_) (fun c1 => ?_)
  · refine lv_iload_n hx hb dX1_find_15 rfl (lv_at hl 2 rfl) ?_
    exact W.iret hx hb hr (fun t ht hW => ⟨⟨_, (snw, fnd, z), rfl, ⟨rfl, StpF.refl hF (fun x _ h0 e => by omega)⟩, by rw [ht]; exact hP, hD⟩, hS.F ht⟩) hS.2.2 dX1_find_16
  · refine lv_aload_n hx hb dX1_find_4 rfl (lv_at hl 0 rfl) ?_
    refine va_get (D := D) (ci := 1) (v := .ref (ad 6)) (C := RX1) (T := TX1) (N := 16) hx hb hts in_X1_find_X1 hown hK hP 0 rfl rfl 7 (by decide) (hts (.fieldLink RX1 51 "OffsetHeap" "seen" "LOffsetHeap$BitRow;") (by decide +kernel)) (fun _ h9 => h9) rfl dX1_find_5 ?_
    refine lv_iload_n hx hb dX1_find_8 rfl (lv_at hl 1 rfl) ?_
    refine xk_roV (As := [.int (nI a)]) (rest := []) ⟨hx, hb, hml, hown, hts⟩ (c_has l D cL (ad 6) (ad 7) (n / 64 + 1) snw (by omega) a (by omega) (by omega)) (cwV 1 hts gX1_find_X0_has rfl rfl rfl (by decide +kernel) ⟨Nat.le_of_ble_eq_true rfl, Nat.le_of_ble_eq_true rfl⟩) (va_recv hK hP (ci := 0) (q0 := 6) rfl rfl) (hP.sub [6, 7] rfl) (hK.sub [1] rfl) rfl hl.1 rfl (Nat.le_of_ble_eq_true rfl) dX1_find_9 ⟨Nat.zero_le _, Nat.zero_le _⟩ ?_
    refine xk_if_eqB (tgt := 17) hx hb dX1_find_12 (by decide) (fun c12 => ?_) (fun c12 => ?_)
    · have hlt := hF.lt (by omega) ha c12
      refine lv_aload_n hx hb dX1_find_17 rfl (lv_at hl 0 rfl) ?_
      refine va_get (D := D) (ci := 1) (v := .ref (ad 6)) (C := RX1) (T := TX1) (N := 16) hx hb hts in_X1_find_X1 hown hK hP 0 rfl rfl 7 (by decide) (hts (.fieldLink RX1 51 "OffsetHeap" "seen" "LOffsetHeap$BitRow;") (by decide +kernel)) (fun _ h9 => h9) rfl dX1_find_18 ?_
      refine lv_iload_n hx hb dX1_find_21 rfl (lv_at hl 1 rfl) ?_
      refine xk_aftv (wr := [(h0, .inr (1, [.int (nI n), .int (nI B), .int (nI nb), .ref (ad 1), .ref (ad 2), .ref (ad 4), .ref (ad 5), .ref (ad 6), .ref (ad 8), .ref (ad 9), .ref (ad 10), .ref (ad 12), .int (nI tp), .int (nI ob), .int (nI co), .int (nI rd)])), ((ad 1), .inl (cI, 8, .inl rts)), ((ad 2), .inr (0, [.ref (ad 3)])), ((ad 3), .inl (cL, (n / 64 + 1), .inr (.inl btw))), ((ad 4), .inl (cI, nb, .inl offs)), ((ad 5), .inl (cI, n, .inl fnd)), ((ad 8), .inl (cI, (n + 1), .inl mem)), ((ad 9), .inl (cI, (n + 1), .inl frs)), ((ad 10), .inr (0, [.ref (ad 11)])), ((ad 11), .inl (cL, (n / 64 + 1), .inr (.inl stw))), ((ad 12), .inr (0, [.ref (ad 13)])), ((ad 13), .inl (cL, (n / 64 + 1), .inr (.inl fsw)))]) (ws' := fun f2 => cW cI cL h0 ad n B nb tp ob co rd rts offs fnd mem frs btw f2 stw fsw) (va_runV (As := [.int (nI a)]) (rest := []) ⟨hx, hb, hml, hown, hts⟩ (c_put l D cL (ad 6) (ad 7) (n / 64 + 1) snw (by omega) s.heap.size a (by omega) (by omega)) (cwV 1 hts gX1_find_X0_put rfl rfl rfl (by decide +kernel) ⟨Nat.le_of_ble_eq_true rfl, Nat.le_of_ble_eq_true rfl⟩) (xk_preV (va_recv hK hP (ci := 0) (q0 := 6) rfl rfl) rfl (hP.sub [6, 7] rfl) (hK.sub [1] rfl) ((hD.sub [6, 7] (by decide) rfl).weaken (fun _ _ _ _ => trivial))) rfl rfl hl.1 rfl (lv_room (Nat.le_of_ble_eq_true rfl)) dX1_find_22 ⟨Nat.zero_le _, Nat.zero_le _⟩) hP hD hS hA [6, 7] [0, 1, 2, 3, 4, 5, 8, 9, 10, 11, 12, 13] [0, 1, 2, 3, 4, 5, 12, 13, 6, 7, 8, 9, 10, 11] rfl rfl (by decide) (by decide) (fun _ => rfl) (by decide) (fun f2 H locs hf2 hP hD hS => ?_)
      subst hf2
      have hP : va_P D vwCl (cW cI cL h0 ad n B nb tp ob co rd rts offs fnd mem frs btw (bput snw a) stw fsw) H := hP
      have hD : va_D A (cW cI cL h0 ad n B nb tp ob co rd rts offs fnd mem frs btw (bput snw a) stw fsw) := hD
      refine lv_aload_n hx hb dX1_find_25 rfl (lv_at hl 0 rfl) ?_
      refine va_get (D := D) (ci := 1) (v := .ref (ad 5)) (C := RX1) (T := TX1) (N := 16) hx hb hts in_X1_find_X1 hown hK hP 0 rfl rfl 6 (by decide) (hts (.fieldLink RX1 48 "OffsetHeap" "found" "[I") (by decide +kernel)) (fun _ h9 => h9) rfl dX1_find_26 ?_
      refine lv_iload_n hx hb dX1_find_29 rfl (lv_at hl 2 rfl) ?_
      refine lv_iload_n hx hb dX1_find_30 rfl (lv_at hl 1 rfl) ?_
      refine xk_iast hx hb hK hP hD hS 5 0 rfl rfl (by omega) (by omega) dX1_find_31 (fun H locs hP hD hS => ?_)
      have hP : va_P D vwCl (cW cI cL h0 ad n B nb tp ob co rd rts offs (upd fnd z (nI a)) mem frs btw (bput snw a) stw fsw) H := hP
      have hD : va_D A (cW cI cL h0 ad n B nb tp ob co rd rts offs (upd fnd z (nI a)) mem frs btw (bput snw a) stw fsw) := hD
      refine lv_iload_n hx hb dX1_find_32 rfl (lv_at hl 2 rfl) ?_
      refine lv_iconst (v := nI 1) hx hb dX1_find_33 (by decide +kernel) ?_
      refine lv_iadd hx hb dX1_find_34 ?_
      refine xk_top (nI_add _ _) ?_
      exact W.iret hx hb hr (fun t ht hW => ⟨⟨_, (bput snw a, upd fnd z (nI a), z + 1), rfl, ⟨rfl, StpF.add hF (by omega) ha c12⟩, by rw [ht]; exact hP, hD⟩, hS.F ht⟩) hS.2.2 dX1_find_35
    · refine lv_iload_n hx hb dX1_find_15 rfl (lv_at hl 2 rfl) ?_
      exact W.iret hx hb hr (fun t ht hW => ⟨⟨_, (snw, fnd, z), rfl, ⟨rfl, StpF.refl hF (fun x _ h0 e => by rw [e]; exact c12)⟩, by rw [ht]; exact hP, hD⟩, hS.F ht⟩) hS.2.2 dX1_find_16
set_option maxHeartbeats 4000000 in
set_option maxRecDepth 100000 in
/-- findReferred: what an object leads to is seen -/
theorem c_findReferred (l : Launch) (D : va_G) (cI cL : ClassId) (h0 : Nat) (ad : Nat → Nat) (n B nb tp ob co rd : Nat) (rts offs fnd mem frs : Nat → Int32) (btw snw stw fsw : Nat → Int64) (sz o z : Nat) (hn : n ≤ 4000) (hok : okS n tp mem (bo stw) rts) (h1 : 1 ≤ o) (h2 : o < tp) (h3 : bo stw o = true) (hF : FI n snw fnd z) : Met l yX1_findReferred wsX1_findReferred ({ frames := 2, cells := 0, slots := 0, locals := 60 }) (va_Pc [.ref h0, .int (nI o), .int (nI z)] (fun U => U.heap.size = sz ∧ va_P D vwCl (cW cI cL h0 ad n B nb tp ob co rd rts offs fnd mem frs btw snw stw fsw) U.heap ∧ va_K D vwCl [(cI, .int), (cL, .long)] U ∧ va_D (fun _ => True) (cW cI cL h0 ad n B nb tp ob co rd rts offs fnd mem frs btw snw stw fsw))) (va_Qi (fun (r9 : Int32) (u : (Nat → Int64) × (Nat → Int32) × Nat) => r9 = nI u.2.2 ∧ StpF n snw fnd z (fun x => ∃ k, k < rfs mem o ∧ tn (mem (o + 1 + k)) = x) u.1 u.2.1 u.2.2) (fun (u : (Nat → Int64) × (Nat → Int32) × Nat) t => va_P D vwCl (cW cI cL h0 ad n B nb tp ob co rd rts offs u.2.1 mem frs btw u.1 stw fsw) t.heap ∧ va_D (va_A (cW cI cL h0 ad n B nb tp ob co rd rts offs fnd mem frs btw snw stw fsw) sz) (cW cI cL h0 ad n B nb tp ob co rd rts offs u.2.1 mem frs btw u.1 stw fsw)) (va_A (cW cI cL h0 ad n B nb tp ob co rd rts offs fnd mem frs btw snw stw fsw) sz)) 0 0 (va_A (cW cI cL h0 ad n B nb tp ob co rd rts offs fnd mem frs btw snw stw fsw) sz) := by
  refine Met.ofW (cc := cX1_findReferred) (maxL := 6) (ret := (some .int)) (by decide) rfl ?_
  intro p e s m args below meth c s₁ B9 hml hv
  obtain ⟨rfl, hsz, hP, hK, hD0⟩ := hv
  have hx := B9.exec
  have hb := B9.bytes
  have hr := B9.returns
  have hts := atoms_spec (ws := wsX1_findReferred) B9.pre
  have hown : s.vm.findClass RX1 = some m.cls := findClass_of_methodNamed B9.named
  have hlocks := B9.notSynchronized
  subst hsz
  have hD := hD0.self (sz := s.heap.size)
  generalize hAe : va_A (cW cI cL h0 ad n B nb tp ob co rd rts offs fnd mem frs btw snw stw fsw) s.heap.size = A at hD ⊢
  have hA : ∀ q : Nat, s.heap.size ≤ q → A q := fun q h => by rw [← hAe]; exact Or.inr h
  have hS : va_S A s.heap s.heap [] := va_S.rf
  have hl := lv_entry ([.ref h0, .int (nI o), .int (nI z)]) (n := 6) (Nat.le_of_ble_eq_true rfl)
  rw [lg_entry_eq]
  generalize (lg_sl ([.ref h0, .int (nI o), .int (nI z)]) ++ List.replicate (6 - (lg_sl ([.ref h0, .int (nI o), .int (nI z)])).length) Slot.unset).toArray = ls at hl ⊢
  have hl : lv_has ls 6 [(0, .ref h0), (1, .int (nI o)), (2, .int (nI z))] := hl
  have htp := hok.1.2.1
  have hh := hok.hdr h1 h2 h3
  have hs := hok.hsm h1 h2 h3
  have hf := hok.fit h1 h2 h3
  unfold siz at hf
  have key : ∀ (d : Nat) (snw1 : Nat → Int64) (fnd1 : Nat → Int32) (z1 i : Nat) (H : Heap) (locs : List Loc) (ls : Array Slot), tn (mem o) / 16 % 16 + 1 ≤ i + d → i ≤ tn (mem o) / 16 % 16 → StpF n snw fnd z (fun x => ∃ k, k < i ∧ tn (mem (o + 1 + k)) = x) snw1 fnd1 z1 → va_P D vwCl (cW cI cL h0 ad n B nb tp ob co rd rts offs fnd1 mem frs btw snw1 stw fsw) H → va_D A (cW cI cL h0 ad n B nb tp ob co rd rts offs fnd1 mem frs btw snw1 stw fsw) → va_S A s.heap H locs → lv_has ls 6 [(0, .ref h0), (1, .int (nI o)), (2, .int (nI z)), (3, .int (nI (tn (mem o) / 16 % 16))), (4, .int (nI z1)), (5, .int (nI i))] → W p l e (headSpec wsX1_findReferred ({ frames := 2, cells := 0, slots := 0, locals := 60 })).room s m ([.ref h0, .int (nI o), .int (nI z)] : List Value).toArray below meth c H locs 0 0 (MQ below (va_Qi (fun (r9 : Int32) (u : (Nat → Int64) × (Nat → Int32) × Nat) => r9 = nI u.2.2 ∧ StpF n snw fnd z (fun x => ∃ k, k < rfs mem o ∧ tn (mem (o + 1 + k)) = x) u.1 u.2.1 u.2.2) (fun (u : (Nat → Int64) × (Nat → Int32) × Nat) t => va_P D vwCl (cW cI cL h0 ad n B nb tp ob co rd rts offs u.2.1 mem frs btw u.1 stw fsw) t.heap ∧ va_D A (cW cI cL h0 ad n B nb tp ob co rd rts offs u.2.1 mem frs btw u.1 stw fsw)) A) ([.ref h0, .int (nI o), .int (nI z)] : List Value).toArray s 0 0 A) (F0 m 16 ls []) := by
    intro d
    induction d with
    | zero =>
      intro snw1 fnd1 z1 i H locs ls hd hi hI hP hD hS hl
      exfalso; omega
    | succ d ih =>
      intro snw1 fnd1 z1 i H locs ls hd hi hI hP hD hS hl
      refine lv_iload hx hb dX1_findReferred_16 (lv_at hl 5 rfl) ?_
      refine lv_iload_n hx hb dX1_findReferred_18 rfl (lv_at hl 3 rfl) ?_
      refine xk_icmp_ge (tgt := 47) hx hb (by omega) (by omega) dX1_findReferred_19 (by decide) (fun c19 => ?_) (fun c19 => ?_)
      · refine lv_iload hx hb dX1_findReferred_47 (lv_at hl 4 rfl) ?_
        exact W.iret hx hb hr (fun t ht hW => ⟨⟨_, (snw1, fnd1, z1), rfl, ⟨rfl, hI.congr (fun x _ _ => ⟨fun ⟨k, a, b⟩ => ⟨k, by unfold rfs at a; omega, b⟩, fun ⟨k, a, b⟩ => ⟨k, by unfold rfs; omega, b⟩⟩)⟩, by rw [ht]; exact hP, hD⟩, hS.F ht⟩) hS.2.2 dX1_findReferred_49
      · have q := hok.refN h1 h2 h3 (k := i) (by unfold rfs; omega)
        have q2 := q.2
        refine lv_aload_n hx hb dX1_findReferred_22 rfl (lv_at hl 0 rfl) ?_
        refine lv_aload_n hx hb dX1_findReferred_23 rfl (lv_at hl 0 rfl) ?_
        refine va_get (D := D) (ci := 1) (v := .ref (ad 8)) (C := RX1) (T := TX1) (N := 16) hx hb hts in_X1_findReferred_X1 hown hK hP 0 rfl rfl 8 (by decide) (hts (.fieldLink RX1 54 "OffsetHeap" "space" "[I") (by decide +kernel)) (fun _ h9 => h9) rfl dX1_findReferred_24 ?_
        refine lv_iload_n hx hb dX1_findReferred_27 rfl (lv_at hl 1 rfl) ?_
        refine lv_iconst (v := nI 1) hx hb dX1_findReferred_28 (by decide +kernel) ?_
        refine lv_iadd hx hb dX1_findReferred_29 ?_
        refine xk_top (nI_add _ _) ?_
        refine lv_iload hx hb dX1_findReferred_30 (lv_at hl 5 rfl) ?_
        refine lv_iadd hx hb dX1_findReferred_32 ?_
        refine xk_top (nI_add _ _) ?_
        refine xk_iald hx hb hK hP 8 0 rfl rfl (by omega) (by omega) dX1_findReferred_33 ?_
        refine xk_top q.1 ?_
        refine lv_iload hx hb dX1_findReferred_34 (lv_at hl 4 rfl) ?_
        refine xk_afti (wr := []) (ws' := fun u => cW cI cL h0 ad n B nb tp ob co rd rts offs u.2.1 mem frs btw u.1 stw fsw) (va_runV (As := [.int (nI (tn (mem (o + 1 + i)))), .int (nI z1)]) (rest := []) ⟨hx, hb, hml, hown, hts⟩ (c_find l D cI cL h0 ad n B nb tp ob co rd rts offs fnd1 mem frs btw snw1 stw fsw H.size (tn (mem (o + 1 + i))) z1 hn (by omega) hI.1) (cwV 2 hts gX1_findReferred_X1_find rfl rfl rfl (by decide +kernel) ⟨Nat.le_of_ble_eq_true rfl, Nat.le_of_ble_eq_true rfl⟩) (xk_preV (va_recv hK hP (ci := 1) (q0 := 0) rfl rfl) rfl hP hK (hD.weaken (fun _ _ _ _ => trivial))) rfl rfl hl.1 rfl (lv_room (Nat.le_of_ble_eq_true rfl)) dX1_findReferred_36 ⟨Nat.zero_le _, Nat.zero_le _⟩) hP hD hS hA [0, 1, 2, 3, 4, 5, 6, 7, 8, 9, 10, 11, 12, 13] [] [0, 1, 2, 3, 4, 5, 6, 7, 8, 9, 10, 11, 12, 13] rfl rfl (by decide) (by decide) (fun _ => rfl) (by decide) (fun r9 u H locs hpost hP hD hS => ?_)
        obtain ⟨snw2, fnd2, z2⟩ := u
        obtain ⟨rfl, hI2⟩ := hpost
        have hP : va_P D vwCl (cW cI cL h0 ad n B nb tp ob co rd rts offs fnd2 mem frs btw snw2 stw fsw) H := hP
        have hD : va_D A (cW cI cL h0 ad n B nb tp ob co rd rts offs fnd2 mem frs btw snw2 stw fsw) := hD
        refine xk_top (y := nI z2) rfl ?_
        refine lv_istore (lv' := [(4, .int (nI z2)), (0, .ref h0), (1, .int (nI o)), (2, .int (nI z)), (3, .int (nI (tn (mem o) / 16 % 16))), (5, .int (nI i))]) hx hb dX1_findReferred_39 hl (by decide) rfl (fun ls hl => ?_)
        refine lv_iinc (v := nI (i + 1)) (lv' := [(5, .int (nI (i + 1))), (4, .int (nI z2)), (0, .ref h0), (1, .int (nI o)), (2, .int (nI z)), (3, .int (nI (tn (mem o) / 16 % 16)))]) hx hb dX1_findReferred_41 hl (k := 5) rfl (xk_inc i) (by decide) rfl (fun ls hl => ?_)
        refine lv_goto (tgt := 16) hx hb dX1_findReferred_44 (by decide) ?_
        exact ih snw2 fnd2 z2 (i + 1) H locs ls (by omega) (by omega) (hI.trans hI2 (fun x _ => ex_s (f := fun k => tn (mem (o + 1 + k))))) hP hD hS (lv_sub hl [2, 3, 4, 5, 1, 0] rfl)
  refine lv_aload_n hx hb dX1_findReferred_0 rfl (lv_at hl 0 rfl) ?_
  refine va_get (D := D) (ci := 1) (v := .ref (ad 8)) (C := RX1) (T := TX1) (N := 16) hx hb hts in_X1_findReferred_X1 hown hK hP 0 rfl rfl 8 (by decide) (hts (.fieldLink RX1 54 "OffsetHeap" "space" "[I") (by decide +kernel)) (fun _ h9 => h9) rfl dX1_findReferred_1 ?_
  refine lv_iload_n hx hb dX1_findReferred_4 rfl (lv_at hl 1 rfl) ?_
  refine xk_iald hx hb hK hP 8 0 rfl rfl (by omega) (by omega) dX1_findReferred_5 ?_
  refine xk_top hh ?_
  refine xk_roS (As := [.int (nI (tn (mem o)))]) (rest := []) ⟨hx, hb, hml, hown, hts⟩ (c_referencesBy l (tn (mem o)) (by omega)) (va_cwS 1 hts gX1_findReferred_X1_referencesBy rfl rfl rfl (by decide +kernel) ⟨Nat.le_of_ble_eq_true rfl, Nat.le_of_ble_eq_true rfl⟩) rfl hl.1 rfl (Nat.le_of_ble_eq_true rfl) dX1_findReferred_6 ⟨Nat.zero_le _, Nat.zero_le _⟩ ?_
  refine lv_istore_n (lv' := [(3, .int (nI ((tn (mem o)) / 16 % 16))), (0, .ref h0), (1, .int (nI o)), (2, .int (nI z))]) hx hb dX1_findReferred_9 rfl hl (by decide) rfl (fun ls hl => ?_)
  refine lv_iload_n hx hb dX1_findReferred_10 rfl (lv_at hl 3 rfl) ?_
  refine lv_istore (lv' := [(4, .int (nI z)), (3, .int (nI ((tn (mem o)) / 16 % 16))), (0, .ref h0), (1, .int (nI o)), (2, .int (nI z))]) hx hb dX1_findReferred_11 hl (by decide) rfl (fun ls hl => ?_)
  refine lv_iconst (v := nI 0) hx hb dX1_findReferred_13 (by decide +kernel) ?_
  refine lv_istore (lv' := [(5, .int (nI 0)), (4, .int (nI z)), (3, .int (nI ((tn (mem o)) / 16 % 16))), (0, .ref h0), (1, .int (nI o)), (2, .int (nI z))]) hx hb dX1_findReferred_14 hl (by decide) rfl (fun ls hl => ?_)
  exact key 17 snw fnd z 0 s.heap [] ls (by omega) (by omega) (StpF.refl hF (fun x _ _ h => absurd h ex_0)) hP hD hS (lv_sub hl [3, 4, 5, 2, 1, 0] rfl)
set_option maxHeartbeats 4000000 in
set_option maxRecDepth 100000 in
/-- findWithin: what roots lead to by at most q references -/
theorem c_findWithin (l : Launch) (D : va_G) (cI cL : ClassId) (h0 : Nat) (ad : Nat → Nat) (n B nb tp ob co rd : Nat) (rts offs fnd mem frs : Nat → Int32) (btw snw stw fsw : Nat → Int64) (sz q : Nat) (hn : n ≤ 4000) (hq : q ≤ 4000) (hok : okS n tp mem (bo stw) rts) : Met l yX1_findWithin wsX1_findWithin ({ frames := 3, cells := 0, slots := 0, locals := 90 }) (va_Pc [.ref h0, .int (nI q)] (fun U => U.heap.size = sz ∧ va_P D vwCl (cW cI cL h0 ad n B nb tp ob co rd rts offs fnd mem frs btw snw stw fsw) U.heap ∧ va_K D vwCl [(cI, .int), (cL, .long)] U ∧ va_D (fun _ => True) (cW cI cL h0 ad n B nb tp ob co rd rts offs fnd mem frs btw snw stw fsw))) (va_Qi (fun (r9 : Int32) (u : (Nat → Int64) × (Nat → Int32) × Nat) => r9 = nI u.2.2 ∧ FI n u.1 u.2.1 u.2.2 ∧ ∀ x, x ≤ n → (bo u.1 x = true ↔ NR mem rts q x)) (fun (u : (Nat → Int64) × (Nat → Int32) × Nat) t => va_P D vwCl (cW cI cL h0 ad n B nb tp ob co rd rts offs u.2.1 mem frs btw u.1 stw fsw) t.heap ∧ va_D (va_A (cW cI cL h0 ad n B nb tp ob co rd rts offs fnd mem frs btw snw stw fsw) sz) (cW cI cL h0 ad n B nb tp ob co rd rts offs u.2.1 mem frs btw u.1 stw fsw)) (va_A (cW cI cL h0 ad n B nb tp ob co rd rts offs fnd mem frs btw snw stw fsw) sz)) 0 0 (va_A (cW cI cL h0 ad n B nb tp ob co rd rts offs fnd mem frs btw snw stw fsw) sz) := by
  refine Met.ofW (cc := cX1_findWithin) (maxL := 7) (ret := (some .int)) (by decide) rfl ?_
  intro p e s m args below meth c s₁ B9 hml hv
  obtain ⟨rfl, hsz, hP, hK, hD0⟩ := hv
  have hx := B9.exec
  have hb := B9.bytes
  have hr := B9.returns
  have hts := atoms_spec (ws := wsX1_findWithin) B9.pre
  have hown : s.vm.findClass RX1 = some m.cls := findClass_of_methodNamed B9.named
  have hlocks := B9.notSynchronized
  subst hsz
  have hD := hD0.self (sz := s.heap.size)
  generalize hAe : va_A (cW cI cL h0 ad n B nb tp ob co rd rts offs fnd mem frs btw snw stw fsw) s.heap.size = A at hD ⊢
  have hA : ∀ q : Nat, s.heap.size ≤ q → A q := fun q h => by rw [← hAe]; exact Or.inr h
  have hS : va_S A s.heap s.heap [] := va_S.rf
  have hl := lv_entry ([.ref h0, .int (nI q)]) (n := 7) (Nat.le_of_ble_eq_true rfl)
  rw [lg_entry_eq]
  generalize (lg_sl ([.ref h0, .int (nI q)]) ++ List.replicate (7 - (lg_sl ([.ref h0, .int (nI q)])).length) Slot.unset).toArray = ls at hl ⊢
  have hl : lv_has ls 7 [(0, .ref h0), (1, .int (nI q))] := hl
  have htp := hok.1.2.1
  have keyO : ∀ (d : Nat) (snw1 : Nat → Int64) (fnd1 : Nat → Int32) (z1 a j : Nat) (H : Heap) (locs : List Loc) (ls : Array Slot), q + 1 ≤ j + d → j ≤ q → a ≤ z1 → FI n snw1 fnd1 z1 → (∀ x, x ≤ n → (bo snw1 x = true ↔ NR mem rts j x)) → PR n mem fnd1 snw1 a → va_P D vwCl (cW cI cL h0 ad n B nb tp ob co rd rts offs fnd1 mem frs btw snw1 stw fsw) H → va_D A (cW cI cL h0 ad n B nb tp ob co rd rts offs fnd1 mem frs btw snw1 stw fsw) → va_S A s.heap H locs → lv_has ls 7 [(0, .ref h0), (1, .int (nI q)), (2, .int (nI z1)), (3, .int (nI a)), (4, .int (nI j))] → W p l e (headSpec wsX1_findWithin ({ frames := 3, cells := 0, slots := 0, locals := 90 })).room s m ([.ref h0, .int (nI q)] : List Value).toArray below meth c H locs 0 0 (MQ below (va_Qi (fun (r9 : Int32) (u : (Nat → Int64) × (Nat → Int32) × Nat) => r9 = nI u.2.2 ∧ FI n u.1 u.2.1 u.2.2 ∧ ∀ x, x ≤ n → (bo u.1 x = true ↔ NR mem rts q x)) (fun (u : (Nat → Int64) × (Nat → Int32) × Nat) t => va_P D vwCl (cW cI cL h0 ad n B nb tp ob co rd rts offs u.2.1 mem frs btw u.1 stw fsw) t.heap ∧ va_D A (cW cI cL h0 ad n B nb tp ob co rd rts offs u.2.1 mem frs btw u.1 stw fsw)) A) ([.ref h0, .int (nI q)] : List Value).toArray s 0 0 A) (F0 m 40 ls []) := by
    intro d
    induction d with
    | zero =>
      intro snw1 fnd1 z1 a j H locs ls hd hj hfr hF hN hpr hP hD hS hl
      exfalso; omega
    | succ d ih1 =>
      intro snw1 fnd1 z1 a j H locs ls hd hj hfr hF hN hpr hP hD hS hl
      have hz1 := hF.le
      refine lv_iload hx hb dX1_findWithin_40 (lv_at hl 4 rfl) ?_
      refine lv_iload_n hx hb dX1_findWithin_42 rfl (lv_at hl 1 rfl) ?_
      refine xk_icmp_ge (tgt := 92) hx hb (by omega) (by omega) dX1_findWithin_43 (by decide) (fun c43 => ?_) (fun c43 => ?_)
      · refine lv_iload_n hx hb dX1_findWithin_92 rfl (lv_at hl 2 rfl) ?_
        exact W.iret hx hb hr (fun t ht hW => ⟨⟨_, (snw1, fnd1, z1), rfl, ⟨rfl, hF, fun x hx => by rw [hN x hx, show j = q by omega]⟩, by rw [ht]; exact hP, hD⟩, hS.F ht⟩) hS.2.2 dX1_findWithin_93
      · refine lv_iload_n hx hb dX1_findWithin_46 rfl (lv_at hl 3 rfl) ?_
        refine lv_iload_n hx hb dX1_findWithin_47 rfl (lv_at hl 2 rfl) ?_
        refine xk_icmp_ge (tgt := 92) hx hb (by omega) (by omega) dX1_findWithin_48 (by decide) (fun c48 => ?_) (fun c48 => ?_)
        · refine lv_iload_n hx hb dX1_findWithin_92 rfl (lv_at hl 2 rfl) ?_
          exact W.iret hx hb hr (fun t ht hW => ⟨⟨_, (snw1, fnd1, z1), rfl, ⟨rfl, hF, fun x hx => ⟨fun h => NR_mono (by omega) ((hN x hx).mp h), fun h => (hN x hx).mpr (fw_closed hok hF hN hpr (by omega) q x h)⟩⟩, by rw [ht]; exact hP, hD⟩, hS.F ht⟩) hS.2.2 dX1_findWithin_93
        · refine lv_iload_n hx hb dX1_findWithin_51 rfl (lv_at hl 2 rfl) ?_
          refine lv_istore (lv' := [(5, .int (nI z1)), (0, .ref h0), (1, .int (nI q)), (2, .int (nI z1)), (3, .int (nI a)), (4, .int (nI j))]) hx hb dX1_findWithin_52 hl (by decide) rfl (fun ls hl => ?_)
          refine lv_iload_n hx hb dX1_findWithin_54 rfl (lv_at hl 4 rfl) ?_
          refine lv_istore (lv' := [(6, .int (nI a)), (5, .int (nI z1)), (0, .ref h0), (1, .int (nI q)), (2, .int (nI z1)), (3, .int (nI a)), (4, .int (nI j))]) hx hb dX1_findWithin_55 hl (by decide) rfl (fun ls hl => ?_)
          have inn : ∀ (e9 : Nat) (snw2 : Nat → Int64) (fnd2 : Nat → Int32) (z2 f : Nat) (H : Heap) (locs : List Loc) (ls : Array Slot), z1 + 1 ≤ f + e9 → a ≤ f → f ≤ z1 → StpF n snw1 fnd1 z1 (SS n mem fnd1 a f) snw2 fnd2 z2 → va_P D vwCl (cW cI cL h0 ad n B nb tp ob co rd rts offs fnd2 mem frs btw snw2 stw fsw) H → va_D A (cW cI cL h0 ad n B nb tp ob co rd rts offs fnd2 mem frs btw snw2 stw fsw) → va_S A s.heap H locs → lv_has ls 7 [(0, .ref h0), (1, .int (nI q)), (2, .int (nI z2)), (3, .int (nI a)), (4, .int (nI j)), (5, .int (nI z1)), (6, .int (nI f))] → W p l e (headSpec wsX1_findWithin ({ frames := 3, cells := 0, slots := 0, locals := 90 })).room s m ([.ref h0, .int (nI q)] : List Value).toArray below meth c H locs 0 0 (MQ below (va_Qi (fun (r9 : Int32) (u : (Nat → Int64) × (Nat → Int32) × Nat) => r9 = nI u.2.2 ∧ FI n u.1 u.2.1 u.2.2 ∧ ∀ x, x ≤ n → (bo u.1 x = true ↔ NR mem rts q x)) (fun (u : (Nat → Int64) × (Nat → Int32) × Nat) t => va_P D vwCl (cW cI cL h0 ad n B nb tp ob co rd rts offs u.2.1 mem frs btw u.1 stw fsw) t.heap ∧ va_D A (cW cI cL h0 ad n B nb tp ob co rd rts offs u.2.1 mem frs btw u.1 stw fsw)) A) ([.ref h0, .int (nI q)] : List Value).toArray s 0 0 A) (F0 m 57 ls []) := by
            intro e9
            induction e9 with
            | zero =>
              intro snw2 fnd2 z2 f H locs ls he hf1 hf2 hI hP hD hS hl
              exfalso; omega
            | succ e9 ih2 =>
              intro snw2 fnd2 z2 f H locs ls he hf1 hf2 hI hP hD hS hl
              refine lv_iload hx hb dX1_findWithin_57 (lv_at hl 6 rfl) ?_
              refine lv_iload hx hb dX1_findWithin_59 (lv_at hl 5 rfl) ?_
              refine xk_icmp_ge (tgt := 83) hx hb (by omega) (by omega) dX1_findWithin_61 (by decide) (fun c61 => ?_) (fun c61 => ?_)
              · refine lv_iload hx hb dX1_findWithin_83 (lv_at hl 5 rfl) ?_
                refine lv_istore_n (lv' := [(3, .int (nI z1)), (0, .ref h0), (1, .int (nI q)), (2, .int (nI z2)), (4, .int (nI j)), (5, .int (nI z1)), (6, .int (nI f))]) hx hb dX1_findWithin_85 rfl hl (by decide) rfl (fun ls hl => ?_)
                refine lv_iinc (v := nI (j + 1)) (lv' := [(4, .int (nI (j + 1))), (3, .int (nI z1)), (0, .ref h0), (1, .int (nI q)), (2, .int (nI z2)), (5, .int (nI z1)), (6, .int (nI f))]) hx hb dX1_findWithin_86 hl (k := 4) rfl (xk_inc j) (by decide) rfl (fun ls hl => ?_)
                refine lv_goto (tgt := 40) hx hb dX1_findWithin_89 (by decide) ?_
                have hfz : f = z1 := by omega
                subst hfz
                obtain ⟨w1, w2⟩ := fw_step hok hF hN hpr hI
                exact ih1 snw2 fnd2 z2 f (j + 1) H locs ls (by omega) (by omega) (hI.2.2.1) hI.1 w1 w2 hP hD hS (lv_sub hl [2, 3, 4, 1, 0] rfl)
              · obtain ⟨o, o1, o2, o3, o4⟩ := hF.2.2.1 f (by omega)
                have o5 : fnd2 f = nI o := by rw [hI.2.2.2 f (by omega)]; exact o3
                have o6 := NR_obj hok _ o ((hN o o2).mp o4)
                have o7 := hI.1.le
                refine lv_aload_n hx hb dX1_findWithin_64 rfl (lv_at hl 0 rfl) ?_
                refine lv_aload_n hx hb dX1_findWithin_65 rfl (lv_at hl 0 rfl) ?_
                refine va_get (D := D) (ci := 1) (v := .ref (ad 5)) (C := RX1) (T := TX1) (N := 16) hx hb hts in_X1_findWithin_X1 hown hK hP 0 rfl rfl 6 (by decide) (hts (.fieldLink RX1 48 "OffsetHeap" "found" "[I") (by decide +kernel)) (fun _ h9 => h9) rfl dX1_findWithin_66 ?_
                refine lv_iload hx hb dX1_findWithin_69 (lv_at hl 6 rfl) ?_
                refine xk_iald hx hb hK hP 5 0 rfl rfl (by omega) (by omega) dX1_findWithin_71 ?_
                refine xk_top o5 ?_
                refine lv_iload_n hx hb dX1_findWithin_72 rfl (lv_at hl 2 rfl) ?_
                refine xk_afti (wr := []) (ws' := fun u => cW cI cL h0 ad n B nb tp ob co rd rts offs u.2.1 mem frs btw u.1 stw fsw) (va_runV (As := [.int (nI o), .int (nI z2)]) (rest := []) ⟨hx, hb, hml, hown, hts⟩ (c_findReferred l D cI cL h0 ad n B nb tp ob co rd rts offs fnd2 mem frs btw snw2 stw fsw H.size o z2 hn hok o6.1 o6.2.1 o6.2.2 hI.1) (cwV 2 hts gX1_findWithin_X1_findReferred rfl rfl rfl (by decide +kernel) ⟨Nat.le_of_ble_eq_true rfl, Nat.le_of_ble_eq_true rfl⟩) (xk_preV (va_recv hK hP (ci := 1) (q0 := 0) rfl rfl) rfl hP hK (hD.weaken (fun _ _ _ _ => trivial))) rfl rfl hl.1 rfl (lv_room (Nat.le_of_ble_eq_true rfl)) dX1_findWithin_73 ⟨Nat.zero_le _, Nat.zero_le _⟩) hP hD hS hA [0, 1, 2, 3, 4, 5, 6, 7, 8, 9, 10, 11, 12, 13] [] [0, 1, 2, 3, 4, 5, 6, 7, 8, 9, 10, 11, 12, 13] rfl rfl (by decide) (by decide) (fun _ => rfl) (by decide) (fun r9 u H locs hpost hP hD hS => ?_)
                obtain ⟨snw3, fnd3, z3⟩ := u
                obtain ⟨rfl, hI3⟩ := hpost
                have hP : va_P D vwCl (cW cI cL h0 ad n B nb tp ob co rd rts offs fnd3 mem frs btw snw3 stw fsw) H := hP
                have hD : va_D A (cW cI cL h0 ad n B nb tp ob co rd rts offs fnd3 mem frs btw snw3 stw fsw) := hD
                refine xk_top (y := nI z3) rfl ?_
                refine lv_istore_n (lv' := [(2, .int (nI z3)), (0, .ref h0), (1, .int (nI q)), (3, .int (nI a)), (4, .int (nI j)), (5, .int (nI z1)), (6, .int (nI f))]) hx hb dX1_findWithin_76 rfl hl (by decide) rfl (fun ls hl => ?_)
                refine lv_iinc (v := nI (f + 1)) (lv' := [(6, .int (nI (f + 1))), (2, .int (nI z3)), (0, .ref h0), (1, .int (nI q)), (3, .int (nI a)), (4, .int (nI j)), (5, .int (nI z1))]) hx hb dX1_findWithin_77 hl (k := 6) rfl (xk_inc f) (by decide) rfl (fun ls hl => ?_)
                refine lv_goto (tgt := 57) hx hb dX1_findWithin_80 (by decide) ?_
                exact ih2 snw3 fnd3 z3 (f + 1) H locs ls (by omega) (by omega) (by omega) (hI.trans hI3 (fun x _ => SS_s hn (by omega) o2 o3 x)) hP hD hS (lv_sub hl [2, 3, 1, 4, 5, 6, 0] rfl)
          exact inn (z1 + 1) snw1 fnd1 z1 a H locs ls (by omega) (by omega) (by omega) (StpF.refl hF (fun x _ _ h => absurd h SS_0)) hP hD hS (lv_sub hl [2, 3, 4, 5, 6, 1, 0] rfl)
  refine lv_aload_n hx hb dX1_findWithin_0 rfl (lv_at hl 0 rfl) ?_
  refine va_get (D := D) (ci := 1) (v := .ref (ad 6)) (C := RX1) (T := TX1) (N := 16) hx hb hts in_X1_findWithin_X1 hown hK hP 0 rfl rfl 7 (by decide) (hts (.fieldLink RX1 51 "OffsetHeap" "seen" "LOffsetHeap$BitRow;") (by decide +kernel)) (fun _ h9 => h9) rfl dX1_findWithin_1 ?_
  refine xk_aftv (wr := [(h0, .inr (1, [.int (nI n), .int (nI B), .int (nI nb), .ref (ad 1), .ref (ad 2), .ref (ad 4), .ref (ad 5), .ref (ad 6), .ref (ad 8), .ref (ad 9), .ref (ad 10), .ref (ad 12), .int (nI tp), .int (nI ob), .int (nI co), .int (nI rd)])), ((ad 1), .inl (cI, 8, .inl rts)), ((ad 2), .inr (0, [.ref (ad 3)])), ((ad 3), .inl (cL, (n / 64 + 1), .inr (.inl btw))), ((ad 4), .inl (cI, nb, .inl offs)), ((ad 5), .inl (cI, n, .inl fnd)), ((ad 8), .inl (cI, (n + 1), .inl mem)), ((ad 9), .inl (cI, (n + 1), .inl frs)), ((ad 10), .inr (0, [.ref (ad 11)])), ((ad 11), .inl (cL, (n / 64 + 1), .inr (.inl stw))), ((ad 12), .inr (0, [.ref (ad 13)])), ((ad 13), .inl (cL, (n / 64 + 1), .inr (.inl fsw)))]) (ws' := fun f2 => cW cI cL h0 ad n B nb tp ob co rd rts offs fnd mem frs btw f2 stw fsw) (va_runV (As := []) (rest := []) ⟨hx, hb, hml, hown, hts⟩ (c_clear l D cL (ad 6) (ad 7) (n / 64 + 1) snw (by omega) s.heap.size) (cwV 0 hts gX1_findWithin_X0_clear rfl rfl rfl (by decide +kernel) ⟨Nat.le_of_ble_eq_true rfl, Nat.le_of_ble_eq_true rfl⟩) (xk_preV (va_recv hK hP (ci := 0) (q0 := 6) rfl rfl) rfl (hP.sub [6, 7] rfl) (hK.sub [1] rfl) ((hD.sub [6, 7] (by decide) rfl).weaken (fun _ _ _ _ => trivial))) rfl rfl hl.1 rfl (lv_room (Nat.le_of_ble_eq_true rfl)) dX1_findWithin_4 ⟨Nat.zero_le _, Nat.zero_le _⟩) hP hD hS hA [6, 7] [0, 1, 2, 3, 4, 5, 8, 9, 10, 11, 12, 13] [0, 1, 2, 3, 4, 5, 12, 13, 6, 7, 8, 9, 10, 11] rfl rfl (by decide) (by decide) (fun _ => rfl) (by decide) (fun f2 H locs hf2 hP hD hS => ?_)
  obtain ⟨sn0, esn0⟩ : ∃ z, z = f2 := ⟨_, rfl⟩
  rw [← esn0] at hP hD hf2
  have hsn0 := hf2
  have hP : va_P D vwCl (cW cI cL h0 ad n B nb tp ob co rd rts offs fnd mem frs btw sn0 stw fsw) H := hP
  have hD : va_D A (cW cI cL h0 ad n B nb tp ob co rd rts offs fnd mem frs btw sn0 stw fsw) := hD
  have bz : ∀ x, x ≤ n → bo sn0 x = false := fun x hx => bo_c0 (hsn0 (x / 64) (by omega))
  have hF0 : FI n sn0 fnd 0 := ⟨(cn_0 (fun i hi => bz i (by omega))).symm, bz 0 (by omega), fun f hf => absurd hf (Nat.not_lt_zero f), fun x hx h => by rw [bz x hx] at h; cases h⟩
  have keyR : ∀ (d : Nat) (snw1 : Nat → Int64) (fnd1 : Nat → Int32) (z1 i : Nat) (H : Heap) (locs : List Loc) (ls : Array Slot), 9 ≤ i + d → i ≤ 8 → StpF n sn0 fnd 0 (fun x => ∃ k, k < i ∧ tn (rts k) = x) snw1 fnd1 z1 → va_P D vwCl (cW cI cL h0 ad n B nb tp ob co rd rts offs fnd1 mem frs btw snw1 stw fsw) H → va_D A (cW cI cL h0 ad n B nb tp ob co rd rts offs fnd1 mem frs btw snw1 stw fsw) → va_S A s.heap H locs → lv_has ls 7 [(0, .ref h0), (1, .int (nI q)), (2, .int (nI z1)), (3, .int (nI i))] → W p l e (headSpec wsX1_findWithin ({ frames := 3, cells := 0, slots := 0, locals := 90 })).room s m ([.ref h0, .int (nI q)] : List Value).toArray below meth c H locs 0 0 (MQ below (va_Qi (fun (r9 : Int32) (u : (Nat → Int64) × (Nat → Int32) × Nat) => r9 = nI u.2.2 ∧ FI n u.1 u.2.1 u.2.2 ∧ ∀ x, x ≤ n → (bo u.1 x = true ↔ NR mem rts q x)) (fun (u : (Nat → Int64) × (Nat → Int32) × Nat) t => va_P D vwCl (cW cI cL h0 ad n B nb tp ob co rd rts offs u.2.1 mem frs btw u.1 stw fsw) t.heap ∧ va_D A (cW cI cL h0 ad n B nb tp ob co rd rts offs u.2.1 mem frs btw u.1 stw fsw)) A) ([.ref h0, .int (nI q)] : List Value).toArray s 0 0 A) (F0 m 11 ls []) := by
    intro d
    induction d with
    | zero =>
      intro snw1 fnd1 z1 i H locs ls hd hi hI hP hD hS hl
      exfalso; omega
    | succ d ih =>
      intro snw1 fnd1 z1 i H locs ls hd hi hI hP hD hS hl
      refine lv_iload_n hx hb dX1_findWithin_11 rfl (lv_at hl 3 rfl) ?_
      refine lv_bipush (v := nI 8) hx hb dX1_findWithin_12 (by decide +kernel) ?_
      refine xk_icmp_ge (tgt := 35) hx hb (by omega) (by omega) dX1_findWithin_14 (by decide) (fun c14 => ?_) (fun c14 => ?_)
      · refine lv_iconst (v := nI 0) hx hb dX1_findWithin_35 (by decide +kernel) ?_
        refine lv_istore_n (lv' := [(3, .int (nI 0)), (0, .ref h0), (1, .int (nI q)), (2, .int (nI z1))]) hx hb dX1_findWithin_36 rfl hl (by decide) rfl (fun ls hl => ?_)
        refine lv_iconst (v := nI 0) hx hb dX1_findWithin_37 (by decide +kernel) ?_
        refine lv_istore (lv' := [(4, .int (nI 0)), (3, .int (nI 0)), (0, .ref h0), (1, .int (nI q)), (2, .int (nI z1))]) hx hb dX1_findWithin_38 hl (by decide) rfl (fun ls hl => ?_)
        have hi8 : i = 8 := by omega
        rw [hi8] at hI
        exact keyO (q + 1) snw1 fnd1 z1 0 0 H locs ls (by omega) (by omega) (by omega) hI.1 (fun x hx => by rw [hI.2.1 x hx, bz x hx]; simp only [NR, Bool.false_eq_true, false_or]; exact ⟨fun h => ⟨by omega, h.2⟩, fun h => ⟨by omega, h.2⟩⟩) (fun f hf => absurd hf (Nat.not_lt_zero f)) hP hD hS (lv_sub hl [2, 3, 4, 1, 0] rfl)
      · have w := hok.rootN (k := i) (by omega)
        have w2 := w.2
        refine lv_aload_n hx hb dX1_findWithin_17 rfl (lv_at hl 0 rfl) ?_
        refine lv_aload_n hx hb dX1_findWithin_18 rfl (lv_at hl 0 rfl) ?_
        refine va_get (D := D) (ci := 1) (v := .ref (ad 1)) (C := RX1) (T := TX1) (N := 16) hx hb hts in_X1_findWithin_X1 hown hK hP 0 rfl rfl 3 (by decide) (hts (.fieldLink RX1 32 "OffsetHeap" "roots" "[I") (by decide +kernel)) (fun _ h9 => h9) rfl dX1_findWithin_19 ?_
        refine lv_iload_n hx hb dX1_findWithin_22 rfl (lv_at hl 3 rfl) ?_
        refine xk_iald hx hb hK hP 1 0 rfl rfl (by omega) (by omega) dX1_findWithin_23 ?_
        refine xk_top w.1 ?_
        refine lv_iload_n hx hb dX1_findWithin_24 rfl (lv_at hl 2 rfl) ?_
        refine xk_afti (wr := []) (ws' := fun u => cW cI cL h0 ad n B nb tp ob co rd rts offs u.2.1 mem frs btw u.1 stw fsw) (va_runV (As := [.int (nI (tn (rts i))), .int (nI z1)]) (rest := []) ⟨hx, hb, hml, hown, hts⟩ (c_find l D cI cL h0 ad n B nb tp ob co rd rts offs fnd1 mem frs btw snw1 stw fsw H.size (tn (rts i)) z1 hn (by omega) hI.1) (cwV 2 hts gX1_findWithin_X1_find rfl rfl rfl (by decide +kernel) ⟨Nat.le_of_ble_eq_true rfl, Nat.le_of_ble_eq_true rfl⟩) (xk_preV (va_recv hK hP (ci := 1) (q0 := 0) rfl rfl) rfl hP hK (hD.weaken (fun _ _ _ _ => trivial))) rfl rfl hl.1 rfl (lv_room (Nat.le_of_ble_eq_true rfl)) dX1_findWithin_25 ⟨Nat.zero_le _, Nat.zero_le _⟩) hP hD hS hA [0, 1, 2, 3, 4, 5, 6, 7, 8, 9, 10, 11, 12, 13] [] [0, 1, 2, 3, 4, 5, 6, 7, 8, 9, 10, 11, 12, 13] rfl rfl (by decide) (by decide) (fun _ => rfl) (by decide) (fun r9 u H locs hpost hP hD hS => ?_)
        obtain ⟨snw2, fnd2, z2⟩ := u
        obtain ⟨rfl, hI2⟩ := hpost
        have hP : va_P D vwCl (cW cI cL h0 ad n B nb tp ob co rd rts offs fnd2 mem frs btw snw2 stw fsw) H := hP
        have hD : va_D A (cW cI cL h0 ad n B nb tp ob co rd rts offs fnd2 mem frs btw snw2 stw fsw) := hD
        refine xk_top (y := nI z2) rfl ?_
        refine lv_istore_n (lv' := [(2, .int (nI z2)), (0, .ref h0), (1, .int (nI q)), (3, .int (nI i))]) hx hb dX1_findWithin_28 rfl hl (by decide) rfl (fun ls hl => ?_)
        refine lv_iinc (v := nI (i + 1)) (lv' := [(3, .int (nI (i + 1))), (2, .int (nI z2)), (0, .ref h0), (1, .int (nI q))]) hx hb dX1_findWithin_29 hl (k := 3) rfl (xk_inc i) (by decide) rfl (fun ls hl => ?_)
        refine lv_goto (tgt := 11) hx hb dX1_findWithin_32 (by decide) ?_
        exact ih snw2 fnd2 z2 (i + 1) H locs ls (by omega) (by omega) (hI.trans hI2 (fun x _ => ex_s (f := fun k => tn (rts k)))) hP hD hS (lv_sub hl [2, 3, 1, 0] rfl)
  refine lv_iconst (v := nI 0) hx hb dX1_findWithin_7 (by decide +kernel) ?_
  refine lv_istore_n (lv' := [(2, .int (nI 0)), (0, .ref h0), (1, .int (nI q))]) hx hb dX1_findWithin_8 rfl hl (by decide) rfl (fun ls hl => ?_)
  refine lv_iconst (v := nI 0) hx hb dX1_findWithin_9 (by decide +kernel) ?_
  refine lv_istore_n (lv' := [(3, .int (nI 0)), (2, .int (nI 0)), (0, .ref h0), (1, .int (nI q))]) hx hb dX1_findWithin_10 rfl hl (by decide) rfl (fun ls hl => ?_)
  exact keyR 9 sn0 fnd 0 0 H locs ls (by omega) (by omega) (StpF.refl hF0 (fun x _ _ h => absurd h ex_0)) hP hD hS (lv_sub hl [2, 3, 1, 0] rfl)
set_option maxHeartbeats 4000000 in
set_option maxRecDepth 100000 in
/-- near -/
theorem c_near (l : Launch) (D : va_G) (cI cL : ClassId) (h0 : Nat) (ad : Nat → Nat) (n B nb tp ob co rd : Nat) (rts offs fnd mem frs : Nat → Int32) (btw snw stw fsw : Nat → Int64) (sz : Nat) (x : Int32) (hn : n ≤ 4000) (hok : okS n tp mem (bo stw) rts) : Met l yX1_near wsX1_near ({ frames := 4, cells := 0, slots := 0, locals := 120 }) (va_Pc [.ref h0, .int x] (fun U => U.heap.size = sz ∧ va_P D vwCl (cW cI cL h0 ad n B nb tp ob co rd rts offs fnd mem frs btw snw stw fsw) U.heap ∧ va_K D vwCl [(cI, .int), (cL, .long)] U ∧ va_D (fun _ => True) (cW cI cL h0 ad n B nb tp ob co rd rts offs fnd mem frs btw snw stw fsw))) (va_Qi (fun (r9 : Int32) (u : (Nat → Int64) × (Nat → Int32)) => (inR 101 x = false ∧ r9 = -1) ∨ ∃ q b, q ≤ 100 ∧ x = nI q ∧ (∀ y, y ≤ n → (b y = true ↔ NR mem rts q y)) ∧ r9 = nI (cn b (n + 1))) (fun (u : (Nat → Int64) × (Nat → Int32)) t => va_P D vwCl (cW cI cL h0 ad n B nb tp ob co rd rts offs u.2 mem frs btw u.1 stw fsw) t.heap ∧ va_D (va_A (cW cI cL h0 ad n B nb tp ob co rd rts offs fnd mem frs btw snw stw fsw) sz) (cW cI cL h0 ad n B nb tp ob co rd rts offs u.2 mem frs btw u.1 stw fsw)) (va_A (cW cI cL h0 ad n B nb tp ob co rd rts offs fnd mem frs btw snw stw fsw) sz)) 0 0 (va_A (cW cI cL h0 ad n B nb tp ob co rd rts offs fnd mem frs btw snw stw fsw) sz) := by
  refine Met.ofW (cc := cX1_near) (maxL := 2) (ret := (some .int)) (by decide) rfl ?_
  intro p e s m args below meth c s₁ B9 hml hv
  obtain ⟨rfl, hsz, hP, hK, hD0⟩ := hv
  have hx := B9.exec
  have hb := B9.bytes
  have hr := B9.returns
  have hts := atoms_spec (ws := wsX1_near) B9.pre
  have hown : s.vm.findClass RX1 = some m.cls := findClass_of_methodNamed B9.named
  have hlocks := B9.notSynchronized
  subst hsz
  have hD := hD0.self (sz := s.heap.size)
  generalize hAe : va_A (cW cI cL h0 ad n B nb tp ob co rd rts offs fnd mem frs btw snw stw fsw) s.heap.size = A at hD ⊢
  have hA : ∀ q : Nat, s.heap.size ≤ q → A q := fun q h => by rw [← hAe]; exact Or.inr h
  have hS : va_S A s.heap s.heap [] := va_S.rf
  have hl := lv_entry ([.ref h0, .int x]) (n := 2) (Nat.le_of_ble_eq_true rfl)
  rw [lg_entry_eq]
  generalize (lg_sl ([.ref h0, .int x]) ++ List.replicate (2 - (lg_sl ([.ref h0, .int x])).length) Slot.unset).toArray = ls at hl ⊢
  have hl : lv_has ls 2 [(0, .ref h0), (1, .int x)] := hl
  rcases xk_sgn x with hneg | ⟨a, ha, rfl⟩
  · refine lv_iload_n hx hb dX1_near_0 rfl (lv_at hl 1 rfl) ?_
    refine lv_if_lt (tgt := 18) hx hb dX1_near_1 (by decide) (fun c1 => ?_) (fun c1 => absurd hneg c1)
    refine lv_iconst (v := (-1)) hx hb dX1_near_18 (by decide +kernel) ?_
    exact W.iret hx hb hr (fun t ht hW => ⟨⟨_, (snw, fnd), rfl, Or.inl ⟨inR_neg hneg, rfl⟩, by rw [ht]; exact hP, hD⟩, hS.F ht⟩) hS.2.2 dX1_near_19
  · refine lv_iload_n hx hb dX1_near_0 rfl (lv_at hl 1 rfl) ?_
    refine xk_if_lt (tgt := 18) hx hb (by omega) dX1_near_1 (by decide) ?_
    refine lv_iload_n hx hb dX1_near_4 rfl (lv_at hl 1 rfl) ?_
    refine lv_bipush (v := nI 100) hx hb dX1_near_5 (by decide +kernel) ?_
    refine xk_icmp_gt (tgt := 18) hx hb (by omega) (by omega) dX1_near_7 (by decide) (fun c7 => ?_) (fun c7 => ?_)
    · refine lv_iconst (v := (-1)) hx hb dX1_near_18 (by decide +kernel) ?_
      exact W.iret hx hb hr (fun t ht hW => ⟨⟨_, (snw, fnd), rfl, Or.inl ⟨by rw [inR_nat ha]; simp; omega, rfl⟩, by rw [ht]; exact hP, hD⟩, hS.F ht⟩) hS.2.2 dX1_near_19
    · refine lv_aload_n hx hb dX1_near_10 rfl (lv_at hl 0 rfl) ?_
      refine lv_iload_n hx hb dX1_near_11 rfl (lv_at hl 1 rfl) ?_
      refine xk_afti (wr := []) (ws' := fun u => cW cI cL h0 ad n B nb tp ob co rd rts offs u.2.1 mem frs btw u.1 stw fsw) (va_runV (As := [.int (nI a)]) (rest := []) ⟨hx, hb, hml, hown, hts⟩ (c_findWithin l D cI cL h0 ad n B nb tp ob co rd rts offs fnd mem frs btw snw stw fsw s.heap.size a hn (by omega) hok) (cwV 1 hts gX1_near_X1_findWithin rfl rfl rfl (by decide +kernel) ⟨Nat.le_of_ble_eq_true rfl, Nat.le_of_ble_eq_true rfl⟩) (xk_preV (va_recv hK hP (ci := 1) (q0 := 0) rfl rfl) rfl hP hK (hD.weaken (fun _ _ _ _ => trivial))) rfl rfl hl.1 rfl (lv_room (Nat.le_of_ble_eq_true rfl)) dX1_near_12 ⟨Nat.zero_le _, Nat.zero_le _⟩) hP hD hS hA [0, 1, 2, 3, 4, 5, 6, 7, 8, 9, 10, 11, 12, 13] [] [0, 1, 2, 3, 4, 5, 6, 7, 8, 9, 10, 11, 12, 13] rfl rfl (by decide) (by decide) (fun _ => rfl) (by decide) (fun r9 u H locs hpost hP hD hS => ?_)
      obtain ⟨snw1, fnd1, z1⟩ := u
      obtain ⟨rfl, hF1, hN1⟩ := hpost
      have hP : va_P D vwCl (cW cI cL h0 ad n B nb tp ob co rd rts offs fnd1 mem frs btw snw1 stw fsw) H := hP
      have hD : va_D A (cW cI cL h0 ad n B nb tp ob co rd rts offs fnd1 mem frs btw snw1 stw fsw) := hD
      refine xk_top (y := nI z1) rfl ?_
      refine lv_goto (tgt := 19) hx hb dX1_near_15 (by decide) ?_
      exact W.iret hx hb hr (fun t ht hW => ⟨⟨_, (snw1, fnd1), rfl, Or.inr ⟨a, bo snw1, by omega, rfl, hN1, by rw [← hF1.1]⟩, by rw [ht]; exact hP, hD⟩, hS.F ht⟩) hS.2.2 dX1_near_19
end
section
/-! the class: make, refer, set, root -/
def cRef (tp : Nat) (mem : Nat → Int32) (st : Nat → Bool) (x k to : Int32) (o j : Nat) : Prop := (o < 2 ^ 31 ∧ x = nI o ∧ 1 ≤ o ∧ o < tp ∧ st o = true) ∧ (j < 2 ^ 31 ∧ k = nI j ∧ j < rfs mem o) ∧ isL tp st to = true
def cSet (tp : Nat) (mem : Nat → Int32) (st : Nat → Bool) (x k : Int32) (o j : Nat) : Prop := (o < 2 ^ 31 ∧ x = nI o ∧ 1 ≤ o ∧ o < tp ∧ st o = true) ∧ (j < 2 ^ 31 ∧ k = nI j ∧ j < pln mem o)
theorem isO_no {tp o : Nat} {st : Nat → Bool} {x : Int32} (h : isO tp st x = false) (ho : o < 2 ^ 31) (e : x = nI o) (h1 : 1 ≤ o) (h2 : o < tp) (h3 : st o = true) : False := by
  rw [e, isO_nat ho] at h
  simp [h1, h2, h3] at h
theorem nI_inj {a b : Nat} (ha : a < 2 ^ 31) (hb : b < 2 ^ 31) (h : nI a = nI b) : a = b := (nI_eq ha hb).mp h
theorem hd_p {r w : Nat} (hr : r ≤ 15) : (256 * w + 16 * r) / 16 % 16 = r ∧ (256 * w + 16 * r) / 256 = w := by omega
theorem in_X1_make_X1 : ∀ w ∈ wsX10, w ∈ wsX1_make := by decide +kernel
theorem in_X1_refer_X1 : ∀ w ∈ wsX10, w ∈ wsX1_refer := by decide +kernel
theorem in_X1_set_X1 : ∀ w ∈ wsX10, w ∈ wsX1_set := by decide +kernel
theorem in_X1_root_X1 : ∀ w ∈ wsX10, w ∈ wsX1_root := by decide +kernel
set_option maxHeartbeats 4000000 in
set_option maxRecDepth 100000 in
/-- make -/
theorem c_make (l : Launch) (D : va_G) (cI cL : ClassId) (h0 : Nat) (ad : Nat → Nat) (n B nb tp ob co rd : Nat) (rts offs fnd mem frs : Nat → Int32) (btw snw stw fsw : Nat → Int64) (sz : Nat) (x y : Int32) (hn : n ≤ 4000) (hob : ob ≤ 4000) (htp : tp ≤ n + 1) (htp1 : 1 ≤ tp) : Met l yX1_make wsX1_make ({ frames := 2, cells := 0, slots := 0, locals := 60 }) (va_Pc [.ref h0, .int x, .int y] (fun U => U.heap.size = sz ∧ va_P D vwCl (cW cI cL h0 ad n B nb tp ob co rd rts offs fnd mem frs btw snw stw fsw) U.heap ∧ va_K D vwCl [(cI, .int), (cL, .long)] U ∧ va_D (fun _ => True) (cW cI cL h0 ad n B nb tp ob co rd rts offs fnd mem frs btw snw stw fsw))) (va_Qi (fun (r9 : Int32) (u : Nat × Nat × (Nat → Int32) × (Nat → Int64)) => (u = (tp, ob, mem, stw) ∧ ((inR 16 x = false ∨ inR 101 y = false) ∧ r9 = -1)) ∨ (u = (tp, ob, mem, stw) ∧ ∃ r w, x = nI r ∧ y = nI w ∧ r ≤ 15 ∧ w ≤ 100 ∧ n < tp + r + w ∧ r9 = nI 0) ∨ (∃ r w, x = nI r ∧ y = nI w ∧ r ≤ 15 ∧ w ≤ 100 ∧ tp + r + w ≤ n ∧ r9 = nI tp ∧ u = (tp + (1 + r + w), ob + 1, upd mem tp (nI (256 * w + 16 * r)), bput stw tp))) (fun (u : Nat × Nat × (Nat → Int32) × (Nat → Int64)) t => va_P D vwCl (cW cI cL h0 ad n B nb u.1 u.2.1 co rd rts offs fnd u.2.2.1 frs btw snw u.2.2.2 fsw) t.heap ∧ va_D (va_A (cW cI cL h0 ad n B nb tp ob co rd rts offs fnd mem frs btw snw stw fsw) sz) (cW cI cL h0 ad n B nb u.1 u.2.1 co rd rts offs fnd u.2.2.1 frs btw snw u.2.2.2 fsw)) (va_A (cW cI cL h0 ad n B nb tp ob co rd rts offs fnd mem frs btw snw stw fsw) sz)) 0 0 (va_A (cW cI cL h0 ad n B nb tp ob co rd rts offs fnd mem frs btw snw stw fsw) sz) := by
  refine Met.ofW (cc := cX1_make) (maxL := 5) (ret := (some .int)) (by decide) rfl ?_
  intro p e s m args below meth c s₁ B9 hml hv
  obtain ⟨rfl, hsz, hP, hK, hD0⟩ := hv
  have hx := B9.exec
  have hb := B9.bytes
  have hr := B9.returns
  have hts := atoms_spec (ws := wsX1_make) B9.pre
  have hown : s.vm.findClass RX1 = some m.cls := findClass_of_methodNamed B9.named
  have hlocks := B9.notSynchronized
  subst hsz
  have hD := hD0.self (sz := s.heap.size)
  generalize hAe : va_A (cW cI cL h0 ad n B nb tp ob co rd rts offs fnd mem frs btw snw stw fsw) s.heap.size = A at hD ⊢
  have hA : ∀ q : Nat, s.heap.size ≤ q → A q := fun q h => by rw [← hAe]; exact Or.inr h
  have hS : va_S A s.heap s.heap [] := va_S.rf
  have hl := lv_entry ([.ref h0, .int x, .int y]) (n := 5) (Nat.le_of_ble_eq_true rfl)
  rw [lg_entry_eq]
  generalize (lg_sl ([.ref h0, .int x, .int y]) ++ List.replicate (5 - (lg_sl ([.ref h0, .int x, .int y])).length) Slot.unset).toArray = ls at hl ⊢
  have hl : lv_has ls 5 [(0, .ref h0), (1, .int x), (2, .int y)] := hl
  refine lv_iload_n hx hb dX1_make_0 rfl (lv_at hl 1 rfl) ?_
  refine lv_if_lt (tgt := 20) hx hb dX1_make_1 (by decide) (fun c1 => ?_) (fun c1 => ?_)
  · refine lv_iconst (v := (-1)) hx hb dX1_make_20 (by decide +kernel) ?_
    exact W.iret hx hb hr (fun t ht hW => ⟨⟨_, (tp, ob, mem, stw), rfl, Or.inl ⟨rfl, Or.inl (inR_neg c1), rfl⟩, by rw [ht]; exact hP, hD⟩, hS.F ht⟩) hS.2.2 dX1_make_21
  · obtain ⟨r, hr0, er⟩ := nI_of c1
    refine lv_iload_n hx hb dX1_make_4 rfl (lv_at hl 1 rfl) ?_
    refine xk_top er ?_
    refine lv_bipush (v := nI 15) hx hb dX1_make_5 (by decide +kernel) ?_
    refine xk_icmp_gt (tgt := 20) hx hb (by omega) (by omega) dX1_make_7 (by decide) (fun c7 => ?_) (fun c7 => ?_)
    · refine lv_iconst (v := (-1)) hx hb dX1_make_20 (by decide +kernel) ?_
      exact W.iret hx hb hr (fun t ht hW => ⟨⟨_, (tp, ob, mem, stw), rfl, Or.inl ⟨rfl, Or.inl (by rw [er, inR_nat hr0]; simp; omega), rfl⟩, by rw [ht]; exact hP, hD⟩, hS.F ht⟩) hS.2.2 dX1_make_21
    · refine lv_iload_n hx hb dX1_make_10 rfl (lv_at hl 2 rfl) ?_
      refine lv_if_lt (tgt := 20) hx hb dX1_make_11 (by decide) (fun c11 => ?_) (fun c11 => ?_)
      · refine lv_iconst (v := (-1)) hx hb dX1_make_20 (by decide +kernel) ?_
        exact W.iret hx hb hr (fun t ht hW => ⟨⟨_, (tp, ob, mem, stw), rfl, Or.inl ⟨rfl, Or.inr (inR_neg c11), rfl⟩, by rw [ht]; exact hP, hD⟩, hS.F ht⟩) hS.2.2 dX1_make_21
      · obtain ⟨w, hw, ew⟩ := nI_of c11
        refine lv_iload_n hx hb dX1_make_14 rfl (lv_at hl 2 rfl) ?_
        refine xk_top ew ?_
        refine lv_bipush (v := nI 100) hx hb dX1_make_15 (by decide +kernel) ?_
        refine xk_icmp_le (tgt := 22) hx hb (by omega) (by omega) dX1_make_17 (by decide) (fun c17 => ?_) (fun c17 => ?_)
        · have hd := hd_p (w := w) (r := r) (by omega)
          refine lv_iload_n hx hb dX1_make_22 rfl (lv_at hl 1 rfl) ?_
          refine xk_top er ?_
          refine lv_iload_n hx hb dX1_make_23 rfl (lv_at hl 2 rfl) ?_
          refine xk_top ew ?_
          refine xk_roS (As := [.int (nI r), .int (nI w)]) (rest := []) ⟨hx, hb, hml, hown, hts⟩ (c_headerOf l r w) (va_cwS 2 hts gX1_make_X1_headerOf rfl rfl rfl (by decide +kernel) ⟨Nat.le_of_ble_eq_true rfl, Nat.le_of_ble_eq_true rfl⟩) rfl hl.1 rfl (Nat.le_of_ble_eq_true rfl) dX1_make_24 ⟨Nat.zero_le _, Nat.zero_le _⟩ ?_
          refine lv_istore_n (lv' := [(3, .int (nI (256 * w + 16 * r))), (0, .ref h0), (1, .int x), (2, .int y)]) hx hb dX1_make_27 rfl hl (by decide) rfl (fun ls hl => ?_)
          refine lv_iload_n hx hb dX1_make_28 rfl (lv_at hl 0 rfl) ?_
          refine xk_roS (As := [.int (nI (256 * w + 16 * r))]) (rest := []) ⟨hx, hb, hml, hown, hts⟩ (c_sizeBy l (256 * w + 16 * r) (by omega)) (va_cwS 1 hts gX1_make_X1_sizeBy rfl rfl rfl (by decide +kernel) ⟨Nat.le_of_ble_eq_true rfl, Nat.le_of_ble_eq_true rfl⟩) rfl hl.1 rfl (Nat.le_of_ble_eq_true rfl) dX1_make_29 ⟨Nat.zero_le _, Nat.zero_le _⟩ ?_
          refine lv_aload_n hx hb dX1_make_32 rfl (lv_at hl 1 rfl) ?_
          refine va_get (D := D) (ci := 1) (v := .int (nI n)) (C := RX1) (T := TX1) (N := 16) hx hb hts in_X1_make_X1 hown hK hP 0 rfl rfl 0 (by decide) (hts (.fieldLink RX1 18 "OffsetHeap" "last" "I") (by decide +kernel)) (fun _ h9 => h9) rfl dX1_make_33 ?_
          refine lv_iconst (v := nI 1) hx hb dX1_make_36 (by decide +kernel) ?_
          refine lv_iadd hx hb dX1_make_37 ?_
          refine xk_top (nI_add _ _) ?_
          refine lv_aload_n hx hb dX1_make_38 rfl (lv_at hl 1 rfl) ?_
          refine va_get (D := D) (ci := 1) (v := .int (nI tp)) (C := RX1) (T := TX1) (N := 16) hx hb hts in_X1_make_X1 hown hK hP 0 rfl rfl 12 (by decide) (hts (.fieldLink RX1 66 "OffsetHeap" "top" "I") (by decide +kernel)) (fun _ h9 => h9) rfl dX1_make_39 ?_
          refine lv_isub hx hb dX1_make_42 ?_
          refine xk_top (pk_sub (by omega)) ?_
          refine xk_icmp_le (tgt := 48) hx hb (by omega) (by omega) dX1_make_43 (by decide) (fun c43 => ?_) (fun c43 => ?_)
          · refine lv_aload_n hx hb dX1_make_48 rfl (lv_at hl 1 rfl) ?_
            refine va_get (D := D) (ci := 1) (v := .int (nI tp)) (C := RX1) (T := TX1) (N := 16) hx hb hts in_X1_make_X1 hown hK hP 0 rfl rfl 12 (by decide) (hts (.fieldLink RX1 66 "OffsetHeap" "top" "I") (by decide +kernel)) (fun _ h9 => h9) rfl dX1_make_49 ?_
            refine lv_istore (lv' := [(4, .int (nI tp)), (3, .int (nI (256 * w + 16 * r))), (0, .ref h0), (1, .int x), (2, .int y)]) hx hb dX1_make_52 hl (by decide) rfl (fun ls hl => ?_)
            refine lv_aload_n hx hb dX1_make_54 rfl (lv_at hl 2 rfl) ?_
            refine va_get (D := D) (ci := 1) (v := .ref (ad 8)) (C := RX1) (T := TX1) (N := 16) hx hb hts in_X1_make_X1 hown hK hP 0 rfl rfl 8 (by decide) (hts (.fieldLink RX1 54 "OffsetHeap" "space" "[I") (by decide +kernel)) (fun _ h9 => h9) rfl dX1_make_55 ?_
            refine lv_iload hx hb dX1_make_58 (lv_at hl 0 rfl) ?_
            refine lv_iload_n hx hb dX1_make_60 rfl (lv_at hl 1 rfl) ?_
            refine xk_iast hx hb hK hP hD hS 8 0 rfl rfl (by omega) (by omega) dX1_make_61 (fun H locs hP hD hS => ?_)
            have hP : va_P D vwCl (cW cI cL h0 ad n B nb tp ob co rd rts offs fnd (upd mem tp (nI (256 * w + 16 * r))) frs btw snw stw fsw) H := hP
            have hD : va_D A (cW cI cL h0 ad n B nb tp ob co rd rts offs fnd (upd mem tp (nI (256 * w + 16 * r))) frs btw snw stw fsw) := hD
            refine lv_aload_n hx hb dX1_make_62 rfl (lv_at hl 2 rfl) ?_
            refine va_get (D := D) (ci := 1) (v := .ref (ad 10)) (C := RX1) (T := TX1) (N := 16) hx hb hts in_X1_make_X1 hown hK hP 0 rfl rfl 10 (by decide) (hts (.fieldLink RX1 60 "OffsetHeap" "starts" "LOffsetHeap$BitRow;") (by decide +kernel)) (fun _ h9 => h9) rfl dX1_make_63 ?_
            refine lv_iload hx hb dX1_make_66 (lv_at hl 0 rfl) ?_
            refine xk_aftv (wr := [(h0, .inr (1, [.int (nI n), .int (nI B), .int (nI nb), .ref (ad 1), .ref (ad 2), .ref (ad 4), .ref (ad 5), .ref (ad 6), .ref (ad 8), .ref (ad 9), .ref (ad 10), .ref (ad 12), .int (nI tp), .int (nI ob), .int (nI co), .int (nI rd)])), ((ad 1), .inl (cI, 8, .inl rts)), ((ad 2), .inr (0, [.ref (ad 3)])), ((ad 3), .inl (cL, (n / 64 + 1), .inr (.inl btw))), ((ad 4), .inl (cI, nb, .inl offs)), ((ad 5), .inl (cI, n, .inl fnd)), ((ad 6), .inr (0, [.ref (ad 7)])), ((ad 7), .inl (cL, (n / 64 + 1), .inr (.inl snw))), ((ad 8), .inl (cI, (n + 1), .inl (upd mem tp (nI (256 * w + 16 * r))))), ((ad 9), .inl (cI, (n + 1), .inl frs)), ((ad 12), .inr (0, [.ref (ad 13)])), ((ad 13), .inl (cL, (n / 64 + 1), .inr (.inl fsw)))]) (ws' := fun f2 => cW cI cL h0 ad n B nb tp ob co rd rts offs fnd (upd mem tp (nI (256 * w + 16 * r))) frs btw snw f2 fsw) (va_runV (As := [.int (nI tp)]) (rest := []) ⟨hx, hb, hml, hown, hts⟩ (c_put l D cL (ad 10) (ad 11) (n / 64 + 1) stw (by omega) H.size tp (by omega) (by omega)) (cwV 1 hts gX1_make_X0_put rfl rfl rfl (by decide +kernel) ⟨Nat.le_of_ble_eq_true rfl, Nat.le_of_ble_eq_true rfl⟩) (xk_preV (va_recv hK hP (ci := 0) (q0 := 10) rfl rfl) rfl (hP.sub [10, 11] rfl) (hK.sub [1] rfl) ((hD.sub [10, 11] (by decide) rfl).weaken (fun _ _ _ _ => trivial))) rfl rfl hl.1 rfl (lv_room (Nat.le_of_ble_eq_true rfl)) dX1_make_68 ⟨Nat.zero_le _, Nat.zero_le _⟩) hP hD hS hA [10, 11] [0, 1, 2, 3, 4, 5, 6, 7, 8, 9, 12, 13] [0, 1, 2, 3, 4, 5, 6, 7, 8, 9, 12, 13, 10, 11] rfl rfl (by decide) (by decide) (fun _ => rfl) (by decide) (fun f2 H locs hf2 hP hD hS => ?_)
            subst hf2
            have hP : va_P D vwCl (cW cI cL h0 ad n B nb tp ob co rd rts offs fnd (upd mem tp (nI (256 * w + 16 * r))) frs btw snw (bput stw tp) fsw) H := hP
            have hD : va_D A (cW cI cL h0 ad n B nb tp ob co rd rts offs fnd (upd mem tp (nI (256 * w + 16 * r))) frs btw snw (bput stw tp) fsw) := hD
            refine lv_aload_n hx hb dX1_make_71 rfl (lv_at hl 2 rfl) ?_
            refine lv_dup hx hb dX1_make_72 rfl ?_
            refine va_get (D := D) (ci := 1) (v := .int (nI tp)) (C := RX1) (T := TX1) (N := 16) hx hb hts in_X1_make_X1 hown hK hP 0 rfl rfl 12 (by decide) (hts (.fieldLink RX1 66 "OffsetHeap" "top" "I") (by decide +kernel)) (fun _ h9 => h9) rfl dX1_make_73 ?_
            refine lv_iload_n hx hb dX1_make_76 rfl (lv_at hl 1 rfl) ?_
            refine xk_roS (As := [.int (nI (256 * w + 16 * r))]) (rest := [.int (nI tp), .ref h0]) ⟨hx, hb, hml, hown, hts⟩ (c_sizeBy l (256 * w + 16 * r) (by omega)) (va_cwS 1 hts gX1_make_X1_sizeBy rfl rfl rfl (by decide +kernel) ⟨Nat.le_of_ble_eq_true rfl, Nat.le_of_ble_eq_true rfl⟩) rfl hl.1 rfl (Nat.le_of_ble_eq_true rfl) dX1_make_77 ⟨Nat.zero_le _, Nat.zero_le _⟩ ?_
            refine lv_iadd hx hb dX1_make_80 ?_
            refine xk_top (nI_add _ _) ?_
            refine va_put (D := D) (ci := 1) (v := .int (nI (tp + (1 + (256 * w + 16 * r) / 16 % 16 + (256 * w + 16 * r) / 256)))) (ty := .int) (C := RX1) (T := TX1) (N := 16) hx hb hts in_X1_make_X1 tyX1 tyX1_ok nmX1 hown hK hP hD hS 0 rfl rfl 12 (by decide) (hts (.fieldLink RX1 66 "OffsetHeap" "top" "I") (by decide +kernel)) (fun _ h9 => h9) rfl (by decide +kernel) rfl rfl (Nat.le_of_ble_eq_true rfl) dX1_make_81 (fun H locs hP hD hS => ?_)
            have hP : va_P D vwCl (cW cI cL h0 ad n B nb (tp + (1 + (256 * w + 16 * r) / 16 % 16 + (256 * w + 16 * r) / 256)) ob co rd rts offs fnd (upd mem tp (nI (256 * w + 16 * r))) frs btw snw (bput stw tp) fsw) H := hP
            have hD : va_D A (cW cI cL h0 ad n B nb (tp + (1 + (256 * w + 16 * r) / 16 % 16 + (256 * w + 16 * r) / 256)) ob co rd rts offs fnd (upd mem tp (nI (256 * w + 16 * r))) frs btw snw (bput stw tp) fsw) := hD
            refine lv_aload_n hx hb dX1_make_84 rfl (lv_at hl 2 rfl) ?_
            refine lv_dup hx hb dX1_make_85 rfl ?_
            refine va_get (D := D) (ci := 1) (v := .int (nI ob)) (C := RX1) (T := TX1) (N := 16) hx hb hts in_X1_make_X1 hown hK hP 0 rfl rfl 13 (by decide) (hts (.fieldLink RX1 79 "OffsetHeap" "objects" "I") (by decide +kernel)) (fun _ h9 => h9) rfl dX1_make_86 ?_
            refine lv_iconst (v := nI 1) hx hb dX1_make_89 (by decide +kernel) ?_
            refine lv_iadd hx hb dX1_make_90 ?_
            refine xk_top (nI_add _ _) ?_
            refine va_put (D := D) (ci := 1) (v := .int (nI (ob + 1))) (ty := .int) (C := RX1) (T := TX1) (N := 16) hx hb hts in_X1_make_X1 tyX1 tyX1_ok nmX1 hown hK hP hD hS 0 rfl rfl 13 (by decide) (hts (.fieldLink RX1 79 "OffsetHeap" "objects" "I") (by decide +kernel)) (fun _ h9 => h9) rfl (by decide +kernel) rfl rfl (Nat.le_of_ble_eq_true rfl) dX1_make_91 (fun H locs hP hD hS => ?_)
            have hP : va_P D vwCl (cW cI cL h0 ad n B nb (tp + (1 + (256 * w + 16 * r) / 16 % 16 + (256 * w + 16 * r) / 256)) (ob + 1) co rd rts offs fnd (upd mem tp (nI (256 * w + 16 * r))) frs btw snw (bput stw tp) fsw) H := hP
            have hD : va_D A (cW cI cL h0 ad n B nb (tp + (1 + (256 * w + 16 * r) / 16 % 16 + (256 * w + 16 * r) / 256)) (ob + 1) co rd rts offs fnd (upd mem tp (nI (256 * w + 16 * r))) frs btw snw (bput stw tp) fsw) := hD
            refine lv_iload hx hb dX1_make_94 (lv_at hl 0 rfl) ?_
            exact W.iret hx hb hr (fun t ht hW => ⟨⟨_, (tp + (1 + (256 * w + 16 * r) / 16 % 16 + (256 * w + 16 * r) / 256), ob + 1, upd mem tp (nI (256 * w + 16 * r)), bput stw tp), rfl, Or.inr (Or.inr ⟨r, w, er, ew, by omega, by omega, by omega, rfl, by rw [hd.1, hd.2]⟩), by rw [ht]; exact hP, hD⟩, hS.F ht⟩) hS.2.2 dX1_make_96
          · refine lv_iconst (v := nI 0) hx hb dX1_make_46 (by decide +kernel) ?_
            exact W.iret hx hb hr (fun t ht hW => ⟨⟨_, (tp, ob, mem, stw), rfl, Or.inr (Or.inl ⟨rfl, r, w, er, ew, by omega, by omega, by omega, rfl⟩), by rw [ht]; exact hP, hD⟩, hS.F ht⟩) hS.2.2 dX1_make_47
        · refine lv_iconst (v := (-1)) hx hb dX1_make_20 (by decide +kernel) ?_
          exact W.iret hx hb hr (fun t ht hW => ⟨⟨_, (tp, ob, mem, stw), rfl, Or.inl ⟨rfl, Or.inr (by rw [ew, inR_nat hw]; simp; omega), rfl⟩, by rw [ht]; exact hP, hD⟩, hS.F ht⟩) hS.2.2 dX1_make_21
set_option maxHeartbeats 4000000 in
set_option maxRecDepth 100000 in
/-- refer -/
theorem c_refer (l : Launch) (D : va_G) (cI cL : ClassId) (h0 : Nat) (ad : Nat → Nat) (n B nb tp ob co rd : Nat) (rts offs fnd mem frs : Nat → Int32) (btw snw stw fsw : Nat → Int64) (sz : Nat) (x k v : Int32) (hn : n ≤ 4000) (hok : okS n tp mem (bo stw) rts) : Met l yX1_refer wsX1_refer ({ frames := 3, cells := 0, slots := 0, locals := 90 }) (va_Pc [.ref h0, .int x, .int k, .int v] (fun U => U.heap.size = sz ∧ va_P D vwCl (cW cI cL h0 ad n B nb tp ob co rd rts offs fnd mem frs btw snw stw fsw) U.heap ∧ va_K D vwCl [(cI, .int), (cL, .long)] U ∧ va_D (fun _ => True) (cW cI cL h0 ad n B nb tp ob co rd rts offs fnd mem frs btw snw stw fsw))) (va_Qi (fun (r9 : Int32) (u : Nat → Int32) => ((∀ o j, ¬ cRef tp mem (bo stw) x k v o j) ∧ r9 = nI 0 ∧ u = mem) ∨ ∃ o j, cRef tp mem (bo stw) x k v o j ∧ r9 = nI 1 ∧ u = upd mem (o + 1 + j) v) (fun (u : Nat → Int32) t => va_P D vwCl (cW cI cL h0 ad n B nb tp ob co rd rts offs fnd u frs btw snw stw fsw) t.heap ∧ va_D (va_A (cW cI cL h0 ad n B nb tp ob co rd rts offs fnd mem frs btw snw stw fsw) sz) (cW cI cL h0 ad n B nb tp ob co rd rts offs fnd u frs btw snw stw fsw)) (va_A (cW cI cL h0 ad n B nb tp ob co rd rts offs fnd mem frs btw snw stw fsw) sz)) 0 0 (va_A (cW cI cL h0 ad n B nb tp ob co rd rts offs fnd mem frs btw snw stw fsw) sz) := by
  refine Met.ofW (cc := cX1_refer) (maxL := 4) (ret := (some .boolean)) (by decide) rfl ?_
  intro p e s m args below meth c s₁ B9 hml hv
  obtain ⟨rfl, hsz, hP, hK, hD0⟩ := hv
  have hx := B9.exec
  have hb := B9.bytes
  have hr := B9.returns
  have hts := atoms_spec (ws := wsX1_refer) B9.pre
  have hown : s.vm.findClass RX1 = some m.cls := findClass_of_methodNamed B9.named
  have hlocks := B9.notSynchronized
  subst hsz
  have hD := hD0.self (sz := s.heap.size)
  generalize hAe : va_A (cW cI cL h0 ad n B nb tp ob co rd rts offs fnd mem frs btw snw stw fsw) s.heap.size = A at hD ⊢
  have hA : ∀ q : Nat, s.heap.size ≤ q → A q := fun q h => by rw [← hAe]; exact Or.inr h
  have hS : va_S A s.heap s.heap [] := va_S.rf
  have hl := lv_entry ([.ref h0, .int x, .int k, .int v]) (n := 4) (Nat.le_of_ble_eq_true rfl)
  rw [lg_entry_eq]
  generalize (lg_sl ([.ref h0, .int x, .int k, .int v]) ++ List.replicate (4 - (lg_sl ([.ref h0, .int x, .int k, .int v])).length) Slot.unset).toArray = ls at hl ⊢
  have hl : lv_has ls 4 [(0, .ref h0), (1, .int x), (2, .int k), (3, .int v)] := hl
  have htp := hok.1.2.1
  refine lv_aload_n hx hb dX1_refer_0 rfl (lv_at hl 0 rfl) ?_
  refine lv_iload_n hx hb dX1_refer_1 rfl (lv_at hl 1 rfl) ?_
  refine xk_roV (As := [.int x]) (rest := []) ⟨hx, hb, hml, hown, hts⟩ (c_isObject l D cI cL h0 ad n B nb tp ob co rd rts offs fnd mem frs btw snw stw fsw x hn htp) (cwV 1 hts gX1_refer_X1_isObject rfl rfl rfl (by decide +kernel) ⟨Nat.le_of_ble_eq_true rfl, Nat.le_of_ble_eq_true rfl⟩) (va_recv hK hP (ci := 1) (q0 := 0) rfl rfl) hP hK rfl hl.1 rfl (Nat.le_of_ble_eq_true rfl) dX1_refer_2 ⟨Nat.zero_le _, Nat.zero_le _⟩ ?_
  refine xk_if_eqB (tgt := 33) hx hb dX1_refer_5 (by decide) (fun c5 => ?_) (fun c5 => ?_)
  · refine lv_iconst (v := nI 0) hx hb dX1_refer_33 (by decide +kernel) ?_
    exact W.zret hx hb hr rfl (fun t ht hW => ⟨⟨_, mem, rfl, Or.inl ⟨fun o' j' c => isO_no c5 c.1.1 c.1.2.1 c.1.2.2.1 c.1.2.2.2.1 c.1.2.2.2.2, rfl, rfl⟩, by rw [ht]; exact hP, hD⟩, hS.F ht⟩) hS.2.2 dX1_refer_34
  · obtain ⟨o, ho, eo, o1, o2, o3⟩ := isO_t c5
    have hh := hok.hdr o1 o2 o3
    have hs := hok.hsm o1 o2 o3
    have hf := hok.fit o1 o2 o3
    unfold siz at hf
    refine lv_iload_n hx hb dX1_refer_8 rfl (lv_at hl 2 rfl) ?_
    refine lv_if_lt (tgt := 33) hx hb dX1_refer_9 (by decide) (fun c9 => ?_) (fun c9 => ?_)
    · refine lv_iconst (v := nI 0) hx hb dX1_refer_33 (by decide +kernel) ?_
      exact W.zret hx hb hr rfl (fun t ht hW => ⟨⟨_, mem, rfl, Or.inl ⟨fun o' j' c => absurd c9 (by rw [c.2.1.2.1]; exact nI_pos c.2.1.1), rfl, rfl⟩, by rw [ht]; exact hP, hD⟩, hS.F ht⟩) hS.2.2 dX1_refer_34
    · obtain ⟨j, hj, ej⟩ := nI_of c9
      refine lv_iload_n hx hb dX1_refer_12 rfl (lv_at hl 2 rfl) ?_
      refine xk_top ej ?_
      refine lv_aload_n hx hb dX1_refer_13 rfl (lv_at hl 0 rfl) ?_
      refine va_get (D := D) (ci := 1) (v := .ref (ad 8)) (C := RX1) (T := TX1) (N := 16) hx hb hts in_X1_refer_X1 hown hK hP 0 rfl rfl 8 (by decide) (hts (.fieldLink RX1 54 "OffsetHeap" "space" "[I") (by decide +kernel)) (fun _ h9 => h9) rfl dX1_refer_14 ?_
      refine lv_iload_n hx hb dX1_refer_17 rfl (lv_at hl 1 rfl) ?_
      refine xk_top eo ?_
      refine xk_iald hx hb hK hP 8 0 rfl rfl (by omega) (by omega) dX1_refer_18 ?_
      refine xk_top hh ?_
      refine xk_roS (As := [.int (nI (tn (mem o)))]) (rest := [.int (nI j)]) ⟨hx, hb, hml, hown, hts⟩ (c_referencesBy l (tn (mem o)) (by omega)) (va_cwS 1 hts gX1_refer_X1_referencesBy rfl rfl rfl (by decide +kernel) ⟨Nat.le_of_ble_eq_true rfl, Nat.le_of_ble_eq_true rfl⟩) rfl hl.1 rfl (Nat.le_of_ble_eq_true rfl) dX1_refer_19 ⟨Nat.zero_le _, Nat.zero_le _⟩ ?_
      refine xk_icmp_ge (tgt := 33) hx hb (by omega) (by omega) dX1_refer_22 (by decide) (fun c22 => ?_) (fun c22 => ?_)
      · refine lv_iconst (v := nI 0) hx hb dX1_refer_33 (by decide +kernel) ?_
        exact W.zret hx hb hr rfl (fun t ht hW => ⟨⟨_, mem, rfl, Or.inl ⟨fun o' j' c => by have e1 := nI_inj c.1.1 ho (c.1.2.1.symm.trans eo); have e2 := nI_inj c.2.1.1 hj (c.2.1.2.1.symm.trans ej); have e3 := c.2.1.2.2; rw [e1, e2] at e3; unfold rfs at e3; omega, rfl, rfl⟩, by rw [ht]; exact hP, hD⟩, hS.F ht⟩) hS.2.2 dX1_refer_34
      · refine lv_aload_n hx hb dX1_refer_25 rfl (lv_at hl 0 rfl) ?_
        refine lv_iload_n hx hb dX1_refer_26 rfl (lv_at hl 3 rfl) ?_
        refine xk_roV (As := [.int v]) (rest := []) ⟨hx, hb, hml, hown, hts⟩ (c_isObjectOrNone l D cI cL h0 ad n B nb tp ob co rd rts offs fnd mem frs btw snw stw fsw v hn htp) (cwV 1 hts gX1_refer_X1_isObjectOrNone rfl rfl rfl (by decide +kernel) ⟨Nat.le_of_ble_eq_true rfl, Nat.le_of_ble_eq_true rfl⟩) (va_recv hK hP (ci := 1) (q0 := 0) rfl rfl) hP hK rfl hl.1 rfl (Nat.le_of_ble_eq_true rfl) dX1_refer_27 ⟨Nat.zero_le _, Nat.zero_le _⟩ ?_
        refine xk_if_neB (tgt := 35) hx hb dX1_refer_30 (by decide) (fun c30 => ?_) (fun c30 => ?_)
        · refine lv_aload_n hx hb dX1_refer_35 rfl (lv_at hl 0 rfl) ?_
          refine va_get (D := D) (ci := 1) (v := .ref (ad 8)) (C := RX1) (T := TX1) (N := 16) hx hb hts in_X1_refer_X1 hown hK hP 0 rfl rfl 8 (by decide) (hts (.fieldLink RX1 54 "OffsetHeap" "space" "[I") (by decide +kernel)) (fun _ h9 => h9) rfl dX1_refer_36 ?_
          refine lv_iload_n hx hb dX1_refer_39 rfl (lv_at hl 1 rfl) ?_
          refine xk_top eo ?_
          refine lv_iconst (v := nI 1) hx hb dX1_refer_40 (by decide +kernel) ?_
          refine lv_iadd hx hb dX1_refer_41 ?_
          refine xk_top (nI_add _ _) ?_
          refine lv_iload_n hx hb dX1_refer_42 rfl (lv_at hl 2 rfl) ?_
          refine xk_top ej ?_
          refine lv_iadd hx hb dX1_refer_43 ?_
          refine xk_top (nI_add _ _) ?_
          refine lv_iload_n hx hb dX1_refer_44 rfl (lv_at hl 3 rfl) ?_
          refine xk_iast hx hb hK hP hD hS 8 0 rfl rfl (by omega) (by omega) dX1_refer_45 (fun H locs hP hD hS => ?_)
          have hP : va_P D vwCl (cW cI cL h0 ad n B nb tp ob co rd rts offs fnd (upd mem ((o + 1) + j) v) frs btw snw stw fsw) H := hP
          have hD : va_D A (cW cI cL h0 ad n B nb tp ob co rd rts offs fnd (upd mem ((o + 1) + j) v) frs btw snw stw fsw) := hD
          refine lv_iconst (v := nI 1) hx hb dX1_refer_46 (by decide +kernel) ?_
          exact W.zret hx hb hr rfl (fun t ht hW => ⟨⟨_, _, rfl, Or.inr ⟨o, j, ⟨⟨ho, eo, o1, o2, o3⟩, ⟨hj, ej, by unfold rfs; omega⟩, c30⟩, rfl, rfl⟩, by rw [ht]; exact hP, hD⟩, hS.F ht⟩) hS.2.2 dX1_refer_47
        · refine lv_iconst (v := nI 0) hx hb dX1_refer_33 (by decide +kernel) ?_
          exact W.zret hx hb hr rfl (fun t ht hW => ⟨⟨_, mem, rfl, Or.inl ⟨fun o' j' c => absurd c.2.2 (by rw [c30]; decide), rfl, rfl⟩, by rw [ht]; exact hP, hD⟩, hS.F ht⟩) hS.2.2 dX1_refer_34
set_option maxHeartbeats 4000000 in
set_option maxRecDepth 100000 in
/-- set -/
theorem c_set (l : Launch) (D : va_G) (cI cL : ClassId) (h0 : Nat) (ad : Nat → Nat) (n B nb tp ob co rd : Nat) (rts offs fnd mem frs : Nat → Int32) (btw snw stw fsw : Nat → Int64) (sz : Nat) (x k v : Int32) (hn : n ≤ 4000) (hok : okS n tp mem (bo stw) rts) : Met l yX1_set wsX1_set ({ frames := 3, cells := 0, slots := 0, locals := 90 }) (va_Pc [.ref h0, .int x, .int k, .int v] (fun U => U.heap.size = sz ∧ va_P D vwCl (cW cI cL h0 ad n B nb tp ob co rd rts offs fnd mem frs btw snw stw fsw) U.heap ∧ va_K D vwCl [(cI, .int), (cL, .long)] U ∧ va_D (fun _ => True) (cW cI cL h0 ad n B nb tp ob co rd rts offs fnd mem frs btw snw stw fsw))) (va_Qi (fun (r9 : Int32) (u : Nat → Int32) => ((∀ o j, ¬ cSet tp mem (bo stw) x k o j) ∧ r9 = nI 0 ∧ u = mem) ∨ ∃ o j, cSet tp mem (bo stw) x k o j ∧ r9 = nI 1 ∧ u = upd mem (o + 1 + rfs mem o + j) v) (fun (u : Nat → Int32) t => va_P D vwCl (cW cI cL h0 ad n B nb tp ob co rd rts offs fnd u frs btw snw stw fsw) t.heap ∧ va_D (va_A (cW cI cL h0 ad n B nb tp ob co rd rts offs fnd mem frs btw snw stw fsw) sz) (cW cI cL h0 ad n B nb tp ob co rd rts offs fnd u frs btw snw stw fsw)) (va_A (cW cI cL h0 ad n B nb tp ob co rd rts offs fnd mem frs btw snw stw fsw) sz)) 0 0 (va_A (cW cI cL h0 ad n B nb tp ob co rd rts offs fnd mem frs btw snw stw fsw) sz) := by
  refine Met.ofW (cc := cX1_set) (maxL := 4) (ret := (some .boolean)) (by decide) rfl ?_
  intro p e s m args below meth c s₁ B9 hml hv
  obtain ⟨rfl, hsz, hP, hK, hD0⟩ := hv
  have hx := B9.exec
  have hb := B9.bytes
  have hr := B9.returns
  have hts := atoms_spec (ws := wsX1_set) B9.pre
  have hown : s.vm.findClass RX1 = some m.cls := findClass_of_methodNamed B9.named
  have hlocks := B9.notSynchronized
  subst hsz
  have hD := hD0.self (sz := s.heap.size)
  generalize hAe : va_A (cW cI cL h0 ad n B nb tp ob co rd rts offs fnd mem frs btw snw stw fsw) s.heap.size = A at hD ⊢
  have hA : ∀ q : Nat, s.heap.size ≤ q → A q := fun q h => by rw [← hAe]; exact Or.inr h
  have hS : va_S A s.heap s.heap [] := va_S.rf
  have hl := lv_entry ([.ref h0, .int x, .int k, .int v]) (n := 4) (Nat.le_of_ble_eq_true rfl)
  rw [lg_entry_eq]
  generalize (lg_sl ([.ref h0, .int x, .int k, .int v]) ++ List.replicate (4 - (lg_sl ([.ref h0, .int x, .int k, .int v])).length) Slot.unset).toArray = ls at hl ⊢
  have hl : lv_has ls 4 [(0, .ref h0), (1, .int x), (2, .int k), (3, .int v)] := hl
  have htp := hok.1.2.1
  refine lv_aload_n hx hb dX1_set_0 rfl (lv_at hl 0 rfl) ?_
  refine lv_iload_n hx hb dX1_set_1 rfl (lv_at hl 1 rfl) ?_
  refine xk_roV (As := [.int x]) (rest := []) ⟨hx, hb, hml, hown, hts⟩ (c_isObject l D cI cL h0 ad n B nb tp ob co rd rts offs fnd mem frs btw snw stw fsw x hn htp) (cwV 1 hts gX1_set_X1_isObject rfl rfl rfl (by decide +kernel) ⟨Nat.le_of_ble_eq_true rfl, Nat.le_of_ble_eq_true rfl⟩) (va_recv hK hP (ci := 1) (q0 := 0) rfl rfl) hP hK rfl hl.1 rfl (Nat.le_of_ble_eq_true rfl) dX1_set_2 ⟨Nat.zero_le _, Nat.zero_le _⟩ ?_
  refine xk_if_eqB (tgt := 25) hx hb dX1_set_5 (by decide) (fun c5 => ?_) (fun c5 => ?_)
  · refine lv_iconst (v := nI 0) hx hb dX1_set_25 (by decide +kernel) ?_
    exact W.zret hx hb hr rfl (fun t ht hW => ⟨⟨_, mem, rfl, Or.inl ⟨fun o' j' c => isO_no c5 c.1.1 c.1.2.1 c.1.2.2.1 c.1.2.2.2.1 c.1.2.2.2.2, rfl, rfl⟩, by rw [ht]; exact hP, hD⟩, hS.F ht⟩) hS.2.2 dX1_set_26
  · obtain ⟨o, ho, eo, o1, o2, o3⟩ := isO_t c5
    have hh := hok.hdr o1 o2 o3
    have hs := hok.hsm o1 o2 o3
    have hf := hok.fit o1 o2 o3
    unfold siz at hf
    refine lv_iload_n hx hb dX1_set_8 rfl (lv_at hl 2 rfl) ?_
    refine lv_if_lt (tgt := 25) hx hb dX1_set_9 (by decide) (fun c9 => ?_) (fun c9 => ?_)
    · refine lv_iconst (v := nI 0) hx hb dX1_set_25 (by decide +kernel) ?_
      exact W.zret hx hb hr rfl (fun t ht hW => ⟨⟨_, mem, rfl, Or.inl ⟨fun o' j' c => absurd c9 (by rw [c.2.2.1]; exact nI_pos c.2.1), rfl, rfl⟩, by rw [ht]; exact hP, hD⟩, hS.F ht⟩) hS.2.2 dX1_set_26
    · obtain ⟨j, hj, ej⟩ := nI_of c9
      refine lv_iload_n hx hb dX1_set_12 rfl (lv_at hl 2 rfl) ?_
      refine xk_top ej ?_
      refine lv_aload_n hx hb dX1_set_13 rfl (lv_at hl 0 rfl) ?_
      refine va_get (D := D) (ci := 1) (v := .ref (ad 8)) (C := RX1) (T := TX1) (N := 16) hx hb hts in_X1_set_X1 hown hK hP 0 rfl rfl 8 (by decide) (hts (.fieldLink RX1 54 "OffsetHeap" "space" "[I") (by decide +kernel)) (fun _ h9 => h9) rfl dX1_set_14 ?_
      refine lv_iload_n hx hb dX1_set_17 rfl (lv_at hl 1 rfl) ?_
      refine xk_top eo ?_
      refine xk_iald hx hb hK hP 8 0 rfl rfl (by omega) (by omega) dX1_set_18 ?_
      refine xk_top hh ?_
      refine xk_roS (As := [.int (nI (tn (mem o)))]) (rest := [.int (nI j)]) ⟨hx, hb, hml, hown, hts⟩ (c_plainBy l (tn (mem o)) (by omega)) (va_cwS 1 hts gX1_set_X1_plainBy rfl rfl rfl (by decide +kernel) ⟨Nat.le_of_ble_eq_true rfl, Nat.le_of_ble_eq_true rfl⟩) rfl hl.1 rfl (Nat.le_of_ble_eq_true rfl) dX1_set_19 ⟨Nat.zero_le _, Nat.zero_le _⟩ ?_
      refine xk_icmp_lt (tgt := 27) hx hb (by omega) (by omega) dX1_set_22 (by decide) (fun c22 => ?_) (fun c22 => ?_)
      · refine lv_aload_n hx hb dX1_set_27 rfl (lv_at hl 0 rfl) ?_
        refine va_get (D := D) (ci := 1) (v := .ref (ad 8)) (C := RX1) (T := TX1) (N := 16) hx hb hts in_X1_set_X1 hown hK hP 0 rfl rfl 8 (by decide) (hts (.fieldLink RX1 54 "OffsetHeap" "space" "[I") (by decide +kernel)) (fun _ h9 => h9) rfl dX1_set_28 ?_
        refine lv_iload_n hx hb dX1_set_31 rfl (lv_at hl 1 rfl) ?_
        refine xk_top eo ?_
        refine lv_iconst (v := nI 1) hx hb dX1_set_32 (by decide +kernel) ?_
        refine lv_iadd hx hb dX1_set_33 ?_
        refine xk_top (nI_add _ _) ?_
        refine lv_aload_n hx hb dX1_set_34 rfl (lv_at hl 0 rfl) ?_
        refine va_get (D := D) (ci := 1) (v := .ref (ad 8)) (C := RX1) (T := TX1) (N := 16) hx hb hts in_X1_set_X1 hown hK hP 0 rfl rfl 8 (by decide) (hts (.fieldLink RX1 54 "OffsetHeap" "space" "[I") (by decide +kernel)) (fun _ h9 => h9) rfl dX1_set_35 ?_
        refine lv_iload_n hx hb dX1_set_38 rfl (lv_at hl 1 rfl) ?_
        refine xk_top eo ?_
        refine xk_iald hx hb hK hP 8 0 rfl rfl (by omega) (by omega) dX1_set_39 ?_
        refine xk_top hh ?_
        refine xk_roS (As := [.int (nI (tn (mem o)))]) (rest := [.int (nI (o + 1)), .ref (ad 8)]) ⟨hx, hb, hml, hown, hts⟩ (c_referencesBy l (tn (mem o)) (by omega)) (va_cwS 1 hts gX1_set_X1_referencesBy rfl rfl rfl (by decide +kernel) ⟨Nat.le_of_ble_eq_true rfl, Nat.le_of_ble_eq_true rfl⟩) rfl hl.1 rfl (Nat.le_of_ble_eq_true rfl) dX1_set_40 ⟨Nat.zero_le _, Nat.zero_le _⟩ ?_
        refine lv_iadd hx hb dX1_set_43 ?_
        refine xk_top (nI_add _ _) ?_
        refine lv_iload_n hx hb dX1_set_44 rfl (lv_at hl 2 rfl) ?_
        refine xk_top ej ?_
        refine lv_iadd hx hb dX1_set_45 ?_
        refine xk_top (nI_add _ _) ?_
        refine lv_iload_n hx hb dX1_set_46 rfl (lv_at hl 3 rfl) ?_
        refine xk_iast hx hb hK hP hD hS 8 0 rfl rfl (by omega) (by omega) dX1_set_47 (fun H locs hP hD hS => ?_)
        have hP : va_P D vwCl (cW cI cL h0 ad n B nb tp ob co rd rts offs fnd (upd mem (((o + 1) + ((tn (mem o)) / 16 % 16)) + j) v) frs btw snw stw fsw) H := hP
        have hD : va_D A (cW cI cL h0 ad n B nb tp ob co rd rts offs fnd (upd mem (((o + 1) + ((tn (mem o)) / 16 % 16)) + j) v) frs btw snw stw fsw) := hD
        refine lv_iconst (v := nI 1) hx hb dX1_set_48 (by decide +kernel) ?_
        exact W.zret hx hb hr rfl (fun t ht hW => ⟨⟨_, _, rfl, Or.inr ⟨o, j, ⟨⟨ho, eo, o1, o2, o3⟩, ⟨hj, ej, by unfold pln; omega⟩⟩, rfl, rfl⟩, by rw [ht]; exact hP, hD⟩, hS.F ht⟩) hS.2.2 dX1_set_49
      · refine lv_iconst (v := nI 0) hx hb dX1_set_25 (by decide +kernel) ?_
        exact W.zret hx hb hr rfl (fun t ht hW => ⟨⟨_, mem, rfl, Or.inl ⟨fun o' j' c => by have e1 := nI_inj c.1.1 ho (c.1.2.1.symm.trans eo); have e2 := nI_inj c.2.1 hj (c.2.2.1.symm.trans ej); have e3 := c.2.2.2; rw [e1, e2] at e3; unfold pln at e3; omega, rfl, rfl⟩, by rw [ht]; exact hP, hD⟩, hS.F ht⟩) hS.2.2 dX1_set_26
set_option maxHeartbeats 4000000 in
set_option maxRecDepth 100000 in
/-- root -/
theorem c_root (l : Launch) (D : va_G) (cI cL : ClassId) (h0 : Nat) (ad : Nat → Nat) (n B nb tp ob co rd : Nat) (rts offs fnd mem frs : Nat → Int32) (btw snw stw fsw : Nat → Int64) (sz : Nat) (k v : Int32) (hn : n ≤ 4000) (htp : tp ≤ n + 1) : Met l yX1_root wsX1_root ({ frames := 3, cells := 0, slots := 0, locals := 90 }) (va_Pc [.ref h0, .int k, .int v] (fun U => U.heap.size = sz ∧ va_P D vwCl (cW cI cL h0 ad n B nb tp ob co rd rts offs fnd mem frs btw snw stw fsw) U.heap ∧ va_K D vwCl [(cI, .int), (cL, .long)] U ∧ va_D (fun _ => True) (cW cI cL h0 ad n B nb tp ob co rd rts offs fnd mem frs btw snw stw fsw))) (va_Qi (fun (r9 : Int32) (u : Nat → Int32) => ((inR 8 k = false ∨ isL tp (bo stw) v = false) ∧ r9 = nI 0 ∧ u = rts) ∨ ∃ j, j < 8 ∧ k = nI j ∧ isL tp (bo stw) v = true ∧ r9 = nI 1 ∧ u = upd rts j v) (fun (u : Nat → Int32) t => va_P D vwCl (cW cI cL h0 ad n B nb tp ob co rd u offs fnd mem frs btw snw stw fsw) t.heap ∧ va_D (va_A (cW cI cL h0 ad n B nb tp ob co rd rts offs fnd mem frs btw snw stw fsw) sz) (cW cI cL h0 ad n B nb tp ob co rd u offs fnd mem frs btw snw stw fsw)) (va_A (cW cI cL h0 ad n B nb tp ob co rd rts offs fnd mem frs btw snw stw fsw) sz)) 0 0 (va_A (cW cI cL h0 ad n B nb tp ob co rd rts offs fnd mem frs btw snw stw fsw) sz) := by
  refine Met.ofW (cc := cX1_root) (maxL := 3) (ret := (some .boolean)) (by decide) rfl ?_
  intro p e s m args below meth c s₁ B9 hml hv
  obtain ⟨rfl, hsz, hP, hK, hD0⟩ := hv
  have hx := B9.exec
  have hb := B9.bytes
  have hr := B9.returns
  have hts := atoms_spec (ws := wsX1_root) B9.pre
  have hown : s.vm.findClass RX1 = some m.cls := findClass_of_methodNamed B9.named
  have hlocks := B9.notSynchronized
  subst hsz
  have hD := hD0.self (sz := s.heap.size)
  generalize hAe : va_A (cW cI cL h0 ad n B nb tp ob co rd rts offs fnd mem frs btw snw stw fsw) s.heap.size = A at hD ⊢
  have hA : ∀ q : Nat, s.heap.size ≤ q → A q := fun q h => by rw [← hAe]; exact Or.inr h
  have hS : va_S A s.heap s.heap [] := va_S.rf
  have hl := lv_entry ([.ref h0, .int k, .int v]) (n := 3) (Nat.le_of_ble_eq_true rfl)
  rw [lg_entry_eq]
  generalize (lg_sl ([.ref h0, .int k, .int v]) ++ List.replicate (3 - (lg_sl ([.ref h0, .int k, .int v])).length) Slot.unset).toArray = ls at hl ⊢
  have hl : lv_has ls 3 [(0, .ref h0), (1, .int k), (2, .int v)] := hl
  refine lv_iload_n hx hb dX1_root_0 rfl (lv_at hl 1 rfl) ?_
  refine xk_roS (As := [.int k]) (rest := []) ⟨hx, hb, hml, hown, hts⟩ (c_isRoot l k) (va_cwS 1 hts gX1_root_X1_isRoot rfl rfl rfl (by decide +kernel) ⟨Nat.le_of_ble_eq_true rfl, Nat.le_of_ble_eq_true rfl⟩) rfl hl.1 rfl (Nat.le_of_ble_eq_true rfl) dX1_root_1 ⟨Nat.zero_le _, Nat.zero_le _⟩ ?_
  refine xk_if_eqB (tgt := 15) hx hb dX1_root_4 (by decide) (fun c4 => ?_) (fun c4 => ?_)
  · refine lv_iconst (v := nI 0) hx hb dX1_root_15 (by decide +kernel) ?_
    exact W.zret hx hb hr rfl (fun t ht hW => ⟨⟨_, rts, rfl, Or.inl ⟨Or.inl c4, rfl, rfl⟩, by rw [ht]; exact hP, hD⟩, hS.F ht⟩) hS.2.2 dX1_root_16
  · refine lv_aload_n hx hb dX1_root_7 rfl (lv_at hl 0 rfl) ?_
    refine lv_iload_n hx hb dX1_root_8 rfl (lv_at hl 2 rfl) ?_
    refine xk_roV (As := [.int v]) (rest := []) ⟨hx, hb, hml, hown, hts⟩ (c_isObjectOrNone l D cI cL h0 ad n B nb tp ob co rd rts offs fnd mem frs btw snw stw fsw v hn htp) (cwV 1 hts gX1_root_X1_isObjectOrNone rfl rfl rfl (by decide +kernel) ⟨Nat.le_of_ble_eq_true rfl, Nat.le_of_ble_eq_true rfl⟩) (va_recv hK hP (ci := 1) (q0 := 0) rfl rfl) hP hK rfl hl.1 rfl (Nat.le_of_ble_eq_true rfl) dX1_root_9 ⟨Nat.zero_le _, Nat.zero_le _⟩ ?_
    refine xk_if_neB (tgt := 17) hx hb dX1_root_12 (by decide) (fun c12 => ?_) (fun c12 => ?_)
    · obtain ⟨j, hj, ej⟩ : ∃ j, j < 8 ∧ k = nI j := by
        rcases xk_sgn k with q | ⟨j, hj, rfl⟩
        · rw [inR_neg q] at c4; cases c4
        · rw [inR_nat hj] at c4; simp at c4; exact ⟨j, c4, rfl⟩
      refine lv_aload_n hx hb dX1_root_17 rfl (lv_at hl 0 rfl) ?_
      refine va_get (D := D) (ci := 1) (v := .ref (ad 1)) (C := RX1) (T := TX1) (N := 16) hx hb hts in_X1_root_X1 hown hK hP 0 rfl rfl 3 (by decide) (hts (.fieldLink RX1 32 "OffsetHeap" "roots" "[I") (by decide +kernel)) (fun _ h9 => h9) rfl dX1_root_18 ?_
      refine lv_iload_n hx hb dX1_root_21 rfl (lv_at hl 1 rfl) ?_
      refine xk_top ej ?_
      refine lv_iload_n hx hb dX1_root_22 rfl (lv_at hl 2 rfl) ?_
      refine xk_iast hx hb hK hP hD hS 1 0 rfl rfl (by omega) (by omega) dX1_root_23 (fun H locs hP hD hS => ?_)
      have hP : va_P D vwCl (cW cI cL h0 ad n B nb tp ob co rd (upd rts j v) offs fnd mem frs btw snw stw fsw) H := hP
      have hD : va_D A (cW cI cL h0 ad n B nb tp ob co rd (upd rts j v) offs fnd mem frs btw snw stw fsw) := hD
      refine lv_iconst (v := nI 1) hx hb dX1_root_24 (by decide +kernel) ?_
      exact W.zret hx hb hr rfl (fun t ht hW => ⟨⟨_, _, rfl, Or.inr ⟨j, hj, ej, c12, rfl, rfl⟩, by rw [ht]; exact hP, hD⟩, hS.F ht⟩) hS.2.2 dX1_root_25
    · refine lv_iconst (v := nI 0) hx hb dX1_root_15 (by decide +kernel) ?_
      exact W.zret hx hb hr rfl (fun t ht hW => ⟨⟨_, rts, rfl, Or.inl ⟨Or.inr c12, rfl, rfl⟩, by rw [ht]; exact hP, hD⟩, hS.F ht⟩) hS.2.2 dX1_root_16
end
section
/-! collecting: which words live, and what copying comes to -/
def LW (n : Nat) (mem rt : Nat → Int32) (i : Nat) : Prop := ∃ o, NR mem rt n o ∧ o ≤ i ∧ i < o + siz mem o
theorem lw_tp {n tp : Nat} {mem : Nat → Int32} {st : Nat → Bool} {rt : Nat → Int32} (hok : okS n tp mem st rt) {i : Nat} (h : LW n mem rt i) : 1 ≤ i ∧ i < tp := by
  obtain ⟨o, h1, h2, h3⟩ := h
  obtain ⟨o1, o2, o3⟩ := NR_obj hok _ o h1
  have := hok.fit o1 o2 o3
  omega
theorem lw_obj {n tp : Nat} {mem : Nat → Int32} {st : Nat → Bool} {rt : Nat → Int32} (hok : okS n tp mem st rt) {o j : Nat} (h1 : 1 ≤ o) (h2 : o < tp) (h3 : st o = true) (h4 : o ≤ j) (h5 : j < o + siz mem o) : LW n mem rt j ↔ NR mem rt n o := by
  constructor
  · rintro ⟨o', g1, g2, g3⟩
    obtain ⟨o1, o2, o3⟩ := NR_obj hok _ o' g1
    rw [hok.own1 h1 h2 h3 o1 o2 o3 h4 h5 g2 g3]
    exact g1
  · intro h
    exact ⟨o, h, h4, h5⟩
/-- the bits are those of what lives -/
def okL (n : Nat) (mem rt : Nat → Int32) (b : Nat → Bool) : Prop := ∀ i, i ≤ n → (b i = true ↔ LW n mem rt i)
theorem okL.obj {n tp : Nat} {mem : Nat → Int32} {st : Nat → Bool} {rt : Nat → Int32} {b : Nat → Bool} (hb : okL n mem rt b) (hok : okS n tp mem st rt) {o j : Nat} (h1 : 1 ≤ o) (h2 : o < tp) (h3 : st o = true) (h4 : o ≤ j) (h5 : j < o + siz mem o) : b j = true ↔ NR mem rt n o := by
  have := hok.fit h1 h2 h3
  have := hok.1.2.1
  rw [hb j (by omega)]
  exact lw_obj hok h1 h2 h3 h4 h5
theorem okL.tp {n tp : Nat} {mem : Nat → Int32} {st : Nat → Bool} {rt : Nat → Int32} {b : Nat → Bool} (hb : okL n mem rt b) (hok : okS n tp mem st rt) {i : Nat} (hi : i ≤ n) (h : b i = true) : 1 ≤ i ∧ i < tp := lw_tp hok ((hb i hi).mp h)
theorem okL.zero {n tp : Nat} {mem : Nat → Int32} {st : Nat → Bool} {rt : Nat → Int32} {b : Nat → Bool} (hb : okL n mem rt b) (hok : okS n tp mem st rt) : b 0 = false := by
  cases h : b 0 with
  | false => rfl
  | true => have := hb.tp hok (by omega) h; omega
/-- what a living one leads to lives -/
theorem okL.ref {n tp : Nat} {mem : Nat → Int32} {st : Nat → Bool} {rt : Nat → Int32} {b : Nat → Bool} (hb : okL n mem rt b) (hok : okS n tp mem st rt) {o k : Nat} (h1 : 1 ≤ o) (h2 : o < tp) (h3 : st o = true) (h4 : b o = true) (hk : k < rfs mem o) (h0 : tn (mem (o + 1 + k)) ≠ 0) : 1 ≤ tn (mem (o + 1 + k)) ∧ tn (mem (o + 1 + k)) < tp ∧ st (tn (mem (o + 1 + k))) = true ∧ b (tn (mem (o + 1 + k))) = true := by
  have hl := (hb.obj hok h1 h2 h3 (Nat.le_refl o) (by have := siz_pos mem o; omega)).mp h4
  have hn : NR mem rt n (tn (mem (o + 1 + k))) := NR_n hok (n + 1) _ (Or.inr ⟨o, hl, by omega, k, hk, rfl⟩)
  obtain ⟨a1, a2, a3⟩ := NR_obj hok _ _ hn
  exact ⟨a1, a2, a3, (hb.obj hok a1 a2 a3 (Nat.le_refl _) (by have := siz_pos mem (tn (mem (o + 1 + k))); omega)).mpr hn⟩
theorem okL.root {n tp : Nat} {mem : Nat → Int32} {st : Nat → Bool} {rt : Nat → Int32} {b : Nat → Bool} (hb : okL n mem rt b) (hok : okS n tp mem st rt) {k : Nat} (hk : k < 8) (h0 : tn (rt k) ≠ 0) : 1 ≤ tn (rt k) ∧ tn (rt k) < tp ∧ st (tn (rt k)) = true ∧ b (tn (rt k)) = true := by
  have hn : NR mem rt n (tn (rt k)) := NR_mono (Nat.zero_le n) (⟨by omega, k, hk, rfl⟩ : NR mem rt 0 (tn (rt k)))
  obtain ⟨a1, a2, a3⟩ := NR_obj hok _ _ hn
  exact ⟨a1, a2, a3, (hb.obj hok a1 a2 a3 (Nat.le_refl _) (by have := siz_pos mem (tn (rt k)); omega)).mpr hn⟩
theorem okL.lt {n tp : Nat} {mem : Nat → Int32} {st : Nat → Bool} {rt : Nat → Int32} {b : Nat → Bool} (hb : okL n mem rt b) (hok : okS n tp mem st rt) {i : Nat} (hi : 1 ≤ i) : cn b i < i := cn_lt (a := 0) (by omega) (hb.zero hok)
/-- a word that is a reference -/
def RW (tp : Nat) (mem : Nat → Int32) (st : Nat → Bool) (j : Nat) : Prop := ∃ o, 1 ≤ o ∧ o < tp ∧ st o = true ∧ o < j ∧ j ≤ o + rfs mem o
/-- what is written for a word -/
def TV (tp : Nat) (mem : Nat → Int32) (st b : Nat → Bool) (j : Nat) (v : Int32) : Prop := (RW tp mem st j → v = nI (if tn (mem j) = 0 then 0 else 1 + cn b (tn (mem j)))) ∧ (¬ RW tp mem st j → v = mem j)
theorem RW_in {n tp : Nat} {mem : Nat → Int32} {st : Nat → Bool} {rt : Nat → Int32} (hok : okS n tp mem st rt) {o j : Nat} (h1 : 1 ≤ o) (h2 : o < tp) (h3 : st o = true) (h4 : o ≤ j) (h5 : j < o + siz mem o) : RW tp mem st j ↔ o < j ∧ j ≤ o + rfs mem o := by
  constructor
  · rintro ⟨o', g1, g2, g3, g4, g5⟩
    have : o = o' := hok.own1 h1 h2 h3 g1 g2 g3 h4 h5 (by omega) (by rw [siz_rfs]; omega)
    subst this
    exact ⟨g4, g5⟩
  · rintro ⟨g4, g5⟩
    exact ⟨o, h1, h2, h3, g4, g5⟩
/-- where the copying stands -/
def PH (tp : Nat) (mem : Nat → Int32) (st b : Nat → Bool) (R P i : Nat) : Prop := (R = 0 ∧ P = 0 ∧ (i < tp → st i = true ∨ b i = false)) ∨ ∃ o, 1 ≤ o ∧ o < tp ∧ st o = true ∧ b o = true ∧ o < i ∧ i < o + siz mem o ∧ R = o + 1 + rfs mem o - i ∧ P = pln mem o - (i - (o + 1 + rfs mem o))
def CP (n tp : Nat) (mem : Nat → Int32) (st b : Nat → Bool) (frs : Nat → Int32) (fst : Nat → Bool) (rd ob i : Nat) : Prop :=
  (1 ≤ i ∧ i ≤ tp ∧ rd = cn b i ∧ ob = cn (fun j => b j && st j) i) ∧ (∀ j, j < i → b j = true → TV tp mem st b j (frs (1 + cn b j))) ∧ (∀ j, j ≤ n → (j = 0 ∨ cn b i < j) → frs j = 0) ∧ ∀ j, j ≤ n → (fst j = true ↔ ∃ t, t < i ∧ b t = true ∧ st t = true ∧ 1 + cn b t = j)
theorem ph_next {n tp : Nat} {mem : Nat → Int32} {st : Nat → Bool} {rt : Nat → Int32} {b : Nat → Bool} (hok : okS n tp mem st rt) {o i : Nat} (h1 : 1 ≤ o) (h2 : o < tp) (h3 : st o = true) (h4 : b o = true) (h5 : o ≤ i) (h6 : i < o + siz mem o) : PH tp mem st b (o + 1 + rfs mem o - (i + 1)) (pln mem o - (i + 1 - (o + 1 + rfs mem o))) (i + 1) := by
  by_cases q : i + 1 < o + siz mem o
  · exact Or.inr ⟨o, h1, h2, h3, h4, by omega, q, rfl, rfl⟩
  · have e : i + 1 = o + siz mem o := by omega
    refine Or.inl ⟨?_, ?_, fun h => Or.inl ?_⟩
    · rw [siz_rfs] at e; omega
    · rw [siz_rfs] at e; omega
    · rw [e]; exact hok.next h1 h2 h3 (by omega)
/-- a word that doesn't live is passed over -/
theorem ph_skip {n tp : Nat} {mem : Nat → Int32} {st : Nat → Bool} {rt : Nat → Int32} {b : Nat → Bool} (hok : okS n tp mem st rt) (hb : okL n mem rt b) {R P i : Nat} (h : PH tp mem st b R P i) (h1 : 1 ≤ i) (hi : i < tp) (hbi : b i = false) : PH tp mem st b R P (i + 1) := by
  rcases h with ⟨r0, p0, q⟩ | ⟨o, o1, o2, o3, o4, o5, o6, -⟩
  · refine Or.inl ⟨r0, p0, fun h2 => ?_⟩
    obtain ⟨o, o1, o2, o3, o4⟩ := hok.own i h1 hi
    by_cases q2 : i + 1 < o + siz mem o
    · refine Or.inr ?_
      cases hz : b (i + 1) with
      | false => rfl
      | true =>
        have := (hb.obj hok o1 (by omega) o3 (by omega) q2).mp hz
        rw [(hb.obj hok o1 (by omega) o3 o2 o4).mpr this] at hbi
        cases hbi
    · have e : i + 1 = o + siz mem o := by omega
      refine Or.inl ?_
      rw [e]; exact hok.next o1 (by omega) o3 (by omega)
  · have := (hb.obj hok o1 o2 o3 (by omega) o6).mpr ((hb.obj hok o1 o2 o3 (Nat.le_refl o) (by have := siz_pos mem o; omega)).mp o4)
    rw [this] at hbi
    cases hbi
theorem cp_skip {n tp : Nat} {mem : Nat → Int32} {st b : Nat → Bool} {frs : Nat → Int32} {fst : Nat → Bool} {rd ob i : Nat} (h : CP n tp mem st b frs fst rd ob i) (hi : i < tp) (hbi : b i = false) : CP n tp mem st b frs fst rd ob (i + 1) := by
  obtain ⟨⟨a1, a2, a3, a4⟩, h2, h3, h4⟩ := h
  refine ⟨⟨by omega, by omega, by rw [cn_f hbi]; exact a3, by rw [cn_f (by simp [hbi])]; exact a4⟩, fun j hj hbj => ?_, fun j hj q => h3 j hj (by rw [cn_f hbi] at q; exact q), fun j hj => ?_⟩
  · by_cases q : j = i
    · subst q; rw [hbi] at hbj; cases hbj
    · exact h2 j (by omega) hbj
  · rw [h4 j hj]
    constructor
    · rintro ⟨t, t1, t2⟩; exact ⟨t, by omega, t2⟩
    · rintro ⟨t, t1, t2, t3⟩
      refine ⟨t, ?_, t2, t3⟩
      by_cases q : t = i
      · subst q; rw [hbi] at t2; cases t2
      · omega
theorem cp_store {n tp : Nat} {mem : Nat → Int32} {st b : Nat → Bool} {frs : Nat → Int32} {fst fst' : Nat → Bool} {rd ob ob' i : Nat} {v : Int32} (h : CP n tp mem st b frs fst rd ob i) (hi : i < tp) (hbi : b i = true) (hv : TV tp mem st b i v) (hfs : ∀ j, j ≤ n → (fst' j = true ↔ fst j = true ∨ (st i = true ∧ 1 + cn b i = j))) (hob : ob' = ob + (st i).toNat) : CP n tp mem st b (upd frs (1 + cn b i) v) fst' (rd + 1) ob' (i + 1) := by
  obtain ⟨⟨a1, a2, a3, a4⟩, h2, h3, h4⟩ := h
  refine ⟨⟨by omega, by omega, by rw [cn_t hbi]; omega, by rw [cn_s, hbi, Bool.true_and]; omega⟩, fun j hj hbj => ?_, fun j hj q => ?_, fun j hj => ?_⟩
  · by_cases q : j = i
    · subst q
      rw [pk_us]; exact hv
    · have := cn_lt_of hbj (show j < i by omega)
      rw [pk_un (by omega)]
      exact h2 j (by omega) hbj
  · rw [cn_t hbi] at q
    rw [pk_un (by omega)]
    exact h3 j hj (by omega)
  · rw [hfs j hj, h4 j hj]
    constructor
    · rintro (⟨t, t1, t2⟩ | ⟨q1, q2⟩)
      · exact ⟨t, by omega, t2⟩
      · exact ⟨i, by omega, hbi, q1, q2⟩
    · rintro ⟨t, t1, t2, t3, t4⟩
      by_cases q : t = i
      · subst q; exact Or.inr ⟨t3, t4⟩
      · exact Or.inl ⟨t, by omega, t2, t3, t4⟩
/-- the offsets, as they are filled -/
theorem off_step {B nb i : Nat} {offs : Nat → Int32} {b : Nat → Bool} (hB : okB B) (h : ∀ k, k < nb → k * B < i → offs k = nI (cn b (k * B))) (hz : i % B = 0) : ∀ k, k < nb → k * B < i + 1 → upd offs (i / B) (nI (cn b i)) k = nI (cn b (k * B)) := by
  intro k hk hlt
  by_cases q : k = i / B
  · have e : k * B = i := by rcases hB with z | z | z | z <;> subst z <;> omega
    rw [q, pk_us, ← q, e]
  · rw [pk_un q]
    refine h k hk ?_
    rcases hB with z | z | z | z <;> subst z <;> omega
theorem off_skip {B nb i : Nat} {offs : Nat → Int32} {b : Nat → Bool} (hB : okB B) (h : ∀ k, k < nb → k * B < i → offs k = nI (cn b (k * B))) (hz : 0 < i % B) : ∀ k, k < nb → k * B < i + 1 → offs k = nI (cn b (k * B)) := by
  intro k hk hlt
  refine h k hk ?_
  rcases hB with z | z | z | z <;> subst z <;> omega
theorem off_all {B nb n : Nat} {offs : Nat → Int32} {b : Nat → Bool} (hB : okB B) (hnb : nb = n / B + 1) (h : ∀ k, k < nb → k * B < n + 1 → offs k = nI (cn b (k * B))) : offOk B nb offs b := by
  intro k hk
  refine h k hk ?_
  rcases hB with z | z | z | z <;> subst z <;> omega
/-- the bits of the first f found -/
def MK (n : Nat) (mem fnd : Nat → Int32) (f i : Nat) : Prop := ∃ g, g < f ∧ ∃ o, fnd g = nI o ∧ o ≤ n ∧ o ≤ i ∧ i < o + siz mem o
theorem MK_s {n : Nat} {mem fnd : Nat → Int32} {f o : Nat} (hn : n ≤ 4000) (ho : o ≤ n) (e : fnd f = nI o) (i : Nat) : MK n mem fnd (f + 1) i ↔ MK n mem fnd f i ∨ (o ≤ i ∧ i < o + siz mem o) := by
  constructor
  · rintro ⟨g, g1, o', h1, h2, h3⟩
    by_cases q : g = f
    · subst q
      have : o = o' := (nI_eq (by omega) (by omega)).mp (e.symm.trans h1)
      subst this
      exact Or.inr h3
    · exact Or.inl ⟨g, by omega, o', h1, h2, h3⟩
  · rintro (⟨g, g1, h⟩ | h)
    · exact ⟨g, by omega, h⟩
    · exact ⟨f, by omega, o, e, ho, h⟩
theorem MK_all {n : Nat} {mem rt fnd : Nat → Int32} {snw : Nat → Int64} {z : Nat} (hn : n ≤ 4000) (hF : FI n snw fnd z) (hN : ∀ x, x ≤ n → (bo snw x = true ↔ NR mem rt n x)) (hNn : ∀ x, NR mem rt n x → x ≤ n) (i : Nat) : MK n mem fnd z i ↔ LW n mem rt i := by
  constructor
  · rintro ⟨g, g1, o, h1, h2, h3⟩
    obtain ⟨x, x1, x2, x3, x4⟩ := hF.2.2.1 g g1
    have : x = o := (nI_eq (by omega) (by omega)).mp (x3.symm.trans h1)
    subst this
    exact ⟨x, (hN x x2).mp x4, h3⟩
  · rintro ⟨o, h1, h2⟩
    have ho := hNn o h1
    obtain ⟨f, f1, f2⟩ := hF.2.2.2 o ho ((hN o ho).mpr h1)
    exact ⟨f, f1, o, f2, ho, h2⟩
end
section
/-! the class: collect -/
def swA (ad : Nat → Nat) : Nat → Nat := fun k => match k with
  | 8 => ad 9
  | 9 => ad 8
  | 10 => ad 12
  | 11 => ad 13
  | 12 => ad 10
  | 13 => ad 11
  | k => ad k
theorem mk_put {n o i : Nat} {w1 w2 : Nat → Int64} (h : ∀ x, x ≤ n → (bo w2 x = true ↔ bo w1 x = true ∨ (o ≤ x ∧ x < i))) (hi : o ≤ i := by omega) : ∀ x, x ≤ n → (bo (bput w2 i) x = true ↔ bo w1 x = true ∨ (o ≤ x ∧ x < i + 1)) := by
  intro x hx
  rw [bo_put]
  simp only [Bool.or_eq_true, decide_eq_true_eq, h x hx]
  constructor
  · rintro ((z | z) | z)
    · exact Or.inl z
    · exact Or.inr ⟨z.1, by omega⟩
    · exact Or.inr ⟨by omega, by omega⟩
  · rintro (z | z)
    · exact Or.inl (Or.inl z)
    · by_cases w : x = i
      · exact Or.inr w
      · exact Or.inl (Or.inr ⟨z.1, by omega⟩)
theorem in_X1_markLiving_X1 : ∀ w ∈ wsX10, w ∈ wsX1_markLiving := by decide +kernel
theorem in_X1_fillOffsets_X1 : ∀ w ∈ wsX10, w ∈ wsX1_fillOffsets := by decide +kernel
theorem in_X1_copyLiving_X1 : ∀ w ∈ wsX10, w ∈ wsX1_copyLiving := by decide +kernel
theorem in_X1_leadRootsAnew_X1 : ∀ w ∈ wsX10, w ∈ wsX1_leadRootsAnew := by decide +kernel
theorem in_X1_swapSpaces_X1 : ∀ w ∈ wsX10, w ∈ wsX1_swapSpaces := by decide +kernel
theorem in_X1_collect_X1 : ∀ w ∈ wsX10, w ∈ wsX1_collect := by decide +kernel
set_option maxHeartbeats 4000000 in
set_option maxRecDepth 100000 in
/-- markLiving -/
theorem c_markLiving (l : Launch) (D : va_G) (cI cL : ClassId) (h0 : Nat) (ad : Nat → Nat) (n B nb tp ob co rd : Nat) (rts offs fnd mem frs : Nat → Int32) (btw snw stw fsw : Nat → Int64) (sz : Nat) (hn : n ≤ 4000) (hok : okS n tp mem (bo stw) rts) : Met l yX1_markLiving wsX1_markLiving ({ frames := 4, cells := 0, slots := 0, locals := 120 }) (va_Pc [.ref h0] (fun U => U.heap.size = sz ∧ va_P D vwCl (cW cI cL h0 ad n B nb tp ob co rd rts offs fnd mem frs btw snw stw fsw) U.heap ∧ va_K D vwCl [(cI, .int), (cL, .long)] U ∧ va_D (fun _ => True) (cW cI cL h0 ad n B nb tp ob co rd rts offs fnd mem frs btw snw stw fsw))) (va_Qv (fun (u : (Nat → Int64) × (Nat → Int32) × (Nat → Int64)) => okL n mem rts (bo u.2.2)) (fun (u : (Nat → Int64) × (Nat → Int32) × (Nat → Int64)) t => va_P D vwCl (cW cI cL h0 ad n B nb tp ob co rd rts offs u.2.1 mem frs u.2.2 u.1 stw fsw) t.heap ∧ va_D (va_A (cW cI cL h0 ad n B nb tp ob co rd rts offs fnd mem frs btw snw stw fsw) sz) (cW cI cL h0 ad n B nb tp ob co rd rts offs u.2.1 mem frs u.2.2 u.1 stw fsw)) (va_A (cW cI cL h0 ad n B nb tp ob co rd rts offs fnd mem frs btw snw stw fsw) sz)) 0 0 (va_A (cW cI cL h0 ad n B nb tp ob co rd rts offs fnd mem frs btw snw stw fsw) sz) := by
  refine Met.ofW (cc := cX1_markLiving) (maxL := 5) (ret := none) (by decide) rfl ?_
  intro p e s m args below meth c s₁ B9 hml hv
  obtain ⟨rfl, hsz, hP, hK, hD0⟩ := hv
  have hx := B9.exec
  have hb := B9.bytes
  have hr := B9.returns
  have hts := atoms_spec (ws := wsX1_markLiving) B9.pre
  have hown : s.vm.findClass RX1 = some m.cls := findClass_of_methodNamed B9.named
  have hlocks := B9.notSynchronized
  subst hsz
  have hD := hD0.self (sz := s.heap.size)
  generalize hAe : va_A (cW cI cL h0 ad n B nb tp ob co rd rts offs fnd mem frs btw snw stw fsw) s.heap.size = A at hD ⊢
  have hA : ∀ q : Nat, s.heap.size ≤ q → A q := fun q h => by rw [← hAe]; exact Or.inr h
  have hS : va_S A s.heap s.heap [] := va_S.rf
  have hl := lv_entry ([.ref h0]) (n := 5) (Nat.le_of_ble_eq_true rfl)
  rw [lg_entry_eq]
  generalize (lg_sl ([.ref h0]) ++ List.replicate (5 - (lg_sl ([.ref h0])).length) Slot.unset).toArray = ls at hl ⊢
  have hl : lv_has ls 5 [(0, .ref h0)] := hl
  have htp := hok.1.2.1
  refine lv_aload_n hx hb dX1_markLiving_0 rfl (lv_at hl 0 rfl) ?_
  refine lv_aload_n hx hb dX1_markLiving_1 rfl (lv_at hl 0 rfl) ?_
  refine va_get (D := D) (ci := 1) (v := .int (nI n)) (C := RX1) (T := TX1) (N := 16) hx hb hts in_X1_markLiving_X1 hown hK hP 0 rfl rfl 0 (by decide) (hts (.fieldLink RX1 18 "OffsetHeap" "last" "I") (by decide +kernel)) (fun _ h9 => h9) rfl dX1_markLiving_2 ?_
  refine xk_afti (wr := []) (ws' := fun u => cW cI cL h0 ad n B nb tp ob co rd rts offs u.2.1 mem frs btw u.1 stw fsw) (va_runV (As := [.int (nI n)]) (rest := []) ⟨hx, hb, hml, hown, hts⟩ (c_findWithin l D cI cL h0 ad n B nb tp ob co rd rts offs fnd mem frs btw snw stw fsw s.heap.size n hn (by omega) hok) (cwV 1 hts gX1_markLiving_X1_findWithin rfl rfl rfl (by decide +kernel) ⟨Nat.le_of_ble_eq_true rfl, Nat.le_of_ble_eq_true rfl⟩) (xk_preV (va_recv hK hP (ci := 1) (q0 := 0) rfl rfl) rfl hP hK (hD.weaken (fun _ _ _ _ => trivial))) rfl rfl hl.1 rfl (lv_room (Nat.le_of_ble_eq_true rfl)) dX1_markLiving_5 ⟨Nat.zero_le _, Nat.zero_le _⟩) hP hD hS hA [0, 1, 2, 3, 4, 5, 6, 7, 8, 9, 10, 11, 12, 13] [] [0, 1, 2, 3, 4, 5, 6, 7, 8, 9, 10, 11, 12, 13] rfl rfl (by decide) (by decide) (fun _ => rfl) (by decide) (fun r9 u H locs hpost hP hD hS => ?_)
  obtain ⟨snw1, fnd1, z1⟩ := u
  obtain ⟨rfl, hF, hN⟩ := hpost
  have hF : FI n snw1 fnd1 z1 := hF
  have hN : ∀ x, x ≤ n → (bo snw1 x = true ↔ NR mem rts n x) := hN
  have hP : va_P D vwCl (cW cI cL h0 ad n B nb tp ob co rd rts offs fnd1 mem frs btw snw1 stw fsw) H := hP
  have hD : va_D A (cW cI cL h0 ad n B nb tp ob co rd rts offs fnd1 mem frs btw snw1 stw fsw) := hD
  refine xk_top (y := nI z1) rfl ?_
  refine lv_istore_n (lv' := [(1, .int (nI z1)), (0, .ref h0)]) hx hb dX1_markLiving_8 rfl hl (by decide) rfl (fun ls hl => ?_)
  refine lv_aload_n hx hb dX1_markLiving_9 rfl (lv_at hl 1 rfl) ?_
  refine va_get (D := D) (ci := 1) (v := .ref (ad 2)) (C := RX1) (T := TX1) (N := 16) hx hb hts in_X1_markLiving_X1 hown hK hP 0 rfl rfl 4 (by decide) (hts (.fieldLink RX1 41 "OffsetHeap" "bits" "LOffsetHeap$BitRow;") (by decide +kernel)) (fun _ h9 => h9) rfl dX1_markLiving_10 ?_
  refine xk_aftv (wr := [(h0, .inr (1, [.int (nI n), .int (nI B), .int (nI nb), .ref (ad 1), .ref (ad 2), .ref (ad 4), .ref (ad 5), .ref (ad 6), .ref (ad 8), .ref (ad 9), .ref (ad 10), .ref (ad 12), .int (nI tp), .int (nI ob), .int (nI co), .int (nI rd)])), ((ad 1), .inl (cI, 8, .inl rts)), ((ad 4), .inl (cI, nb, .inl offs)), ((ad 5), .inl (cI, n, .inl fnd1)), ((ad 6), .inr (0, [.ref (ad 7)])), ((ad 7), .inl (cL, (n / 64 + 1), .inr (.inl snw1))), ((ad 8), .inl (cI, (n + 1), .inl mem)), ((ad 9), .inl (cI, (n + 1), .inl frs)), ((ad 10), .inr (0, [.ref (ad 11)])), ((ad 11), .inl (cL, (n / 64 + 1), .inr (.inl stw))), ((ad 12), .inr (0, [.ref (ad 13)])), ((ad 13), .inl (cL, (n / 64 + 1), .inr (.inl fsw)))]) (ws' := fun f2 => cW cI cL h0 ad n B nb tp ob co rd rts offs fnd1 mem frs f2 snw1 stw fsw) (va_runV (As := []) (rest := []) ⟨hx, hb, hml, hown, hts⟩ (c_clear l D cL (ad 2) (ad 3) (n / 64 + 1) btw (by omega) H.size) (cwV 0 hts gX1_markLiving_X0_clear rfl rfl rfl (by decide +kernel) ⟨Nat.le_of_ble_eq_true rfl, Nat.le_of_ble_eq_true rfl⟩) (xk_preV (va_recv hK hP (ci := 0) (q0 := 2) rfl rfl) rfl (hP.sub [2, 3] rfl) (hK.sub [1] rfl) ((hD.sub [2, 3] (by decide) rfl).weaken (fun _ _ _ _ => trivial))) rfl rfl hl.1 rfl (lv_room (Nat.le_of_ble_eq_true rfl)) dX1_markLiving_13 ⟨Nat.zero_le _, Nat.zero_le _⟩) hP hD hS hA [2, 3] [0, 1, 4, 5, 6, 7, 8, 9, 10, 11, 12, 13] [0, 1, 12, 13, 2, 3, 4, 5, 6, 7, 8, 9, 10, 11] rfl rfl (by decide) (by decide) (fun _ => rfl) (by decide) (fun f2 H locs hf2 hP hD hS => ?_)
  obtain ⟨bt0, ebt0⟩ : ∃ z, z = f2 := ⟨_, rfl⟩
  rw [← ebt0] at hP hD hf2
  have hbt0 := hf2
  have hP : va_P D vwCl (cW cI cL h0 ad n B nb tp ob co rd rts offs fnd1 mem frs bt0 snw1 stw fsw) H := hP
  have hD : va_D A (cW cI cL h0 ad n B nb tp ob co rd rts offs fnd1 mem frs bt0 snw1 stw fsw) := hD
  have bz : ∀ x, x ≤ n → bo bt0 x = false := fun x hx => bo_c0 (hbt0 (x / 64) (by omega))
  have hz1 := hF.le
  have keyO : ∀ (d : Nat) (btw1 : Nat → Int64) (f : Nat) (H : Heap) (locs : List Loc) (ls : Array Slot), z1 + 1 ≤ f + d → f ≤ z1 → (∀ x, x ≤ n → (bo btw1 x = true ↔ MK n mem fnd1 f x)) → va_P D vwCl (cW cI cL h0 ad n B nb tp ob co rd rts offs fnd1 mem frs btw1 snw1 stw fsw) H → va_D A (cW cI cL h0 ad n B nb tp ob co rd rts offs fnd1 mem frs btw1 snw1 stw fsw) → va_S A s.heap H locs → lv_has ls 5 [(0, .ref h0), (1, .int (nI z1)), (2, .int (nI f))] → W p l e (headSpec wsX1_markLiving ({ frames := 4, cells := 0, slots := 0, locals := 120 })).room s m ([.ref h0] : List Value).toArray below meth c H locs 0 0 (MQ below (va_Qv (fun (u : (Nat → Int64) × (Nat → Int32) × (Nat → Int64)) => okL n mem rts (bo u.2.2)) (fun (u : (Nat → Int64) × (Nat → Int32) × (Nat → Int64)) t => va_P D vwCl (cW cI cL h0 ad n B nb tp ob co rd rts offs u.2.1 mem frs u.2.2 u.1 stw fsw) t.heap ∧ va_D A (cW cI cL h0 ad n B nb tp ob co rd rts offs u.2.1 mem frs u.2.2 u.1 stw fsw)) A) ([.ref h0] : List Value).toArray s 0 0 A) (F0 m 18 ls []) := by
    intro d
    induction d with
    | zero =>
      intro btw1 f H locs ls hd hf1 hM hP hD hS hl
      exfalso; omega
    | succ d ih1 =>
      intro btw1 f H locs ls hd hf1 hM hP hD hS hl
      refine lv_iload_n hx hb dX1_markLiving_18 rfl (lv_at hl 2 rfl) ?_
      refine lv_iload_n hx hb dX1_markLiving_19 rfl (lv_at hl 1 rfl) ?_
      refine xk_icmp_ge (tgt := 80) hx hb (by omega) (by omega) dX1_markLiving_20 (by decide) (fun c20 => ?_) (fun c20 => ?_)
      · exact W.vret hx hb hr (fun t ht hW => ⟨⟨(snw1, fnd1, btw1), rfl, fun x hx => by rw [hM x hx, show f = z1 by omega]; exact MK_all hn hF hN (fun x hx => by have := NR_obj hok _ x hx; omega) x, by rw [ht]; exact hP, hD⟩, hS.F ht⟩) hS.2.2 dX1_markLiving_80
      · obtain ⟨o, o1, o2, o3, o4⟩ := hF.2.2.1 f (by omega)
        have o6 := NR_obj hok _ o ((hN o o2).mp o4)
        have hh := hok.hdr o6.1 o6.2.1 o6.2.2
        have hs := hok.hsm o6.1 o6.2.1 o6.2.2
        have hf := hok.fit o6.1 o6.2.1 o6.2.2
        unfold siz at hf
        refine lv_aload_n hx hb dX1_markLiving_23 rfl (lv_at hl 0 rfl) ?_
        refine va_get (D := D) (ci := 1) (v := .ref (ad 5)) (C := RX1) (T := TX1) (N := 16) hx hb hts in_X1_markLiving_X1 hown hK hP 0 rfl rfl 6 (by decide) (hts (.fieldLink RX1 48 "OffsetHeap" "found" "[I") (by decide +kernel)) (fun _ h9 => h9) rfl dX1_markLiving_24 ?_
        refine lv_iload_n hx hb dX1_markLiving_27 rfl (lv_at hl 2 rfl) ?_
        refine xk_iald hx hb hK hP 5 0 rfl rfl (by omega) (by omega) dX1_markLiving_28 ?_
        refine xk_top o3 ?_
        refine lv_aload_n hx hb dX1_markLiving_29 rfl (lv_at hl 0 rfl) ?_
        refine va_get (D := D) (ci := 1) (v := .ref (ad 8)) (C := RX1) (T := TX1) (N := 16) hx hb hts in_X1_markLiving_X1 hown hK hP 0 rfl rfl 8 (by decide) (hts (.fieldLink RX1 54 "OffsetHeap" "space" "[I") (by decide +kernel)) (fun _ h9 => h9) rfl dX1_markLiving_30 ?_
        refine lv_aload_n hx hb dX1_markLiving_33 rfl (lv_at hl 0 rfl) ?_
        refine va_get (D := D) (ci := 1) (v := .ref (ad 5)) (C := RX1) (T := TX1) (N := 16) hx hb hts in_X1_markLiving_X1 hown hK hP 0 rfl rfl 6 (by decide) (hts (.fieldLink RX1 48 "OffsetHeap" "found" "[I") (by decide +kernel)) (fun _ h9 => h9) rfl dX1_markLiving_34 ?_
        refine lv_iload_n hx hb dX1_markLiving_37 rfl (lv_at hl 2 rfl) ?_
        refine xk_iald hx hb hK hP 5 0 rfl rfl (by omega) (by omega) dX1_markLiving_38 ?_
        refine xk_top o3 ?_
        refine xk_iald hx hb hK hP 8 0 rfl rfl (by omega) (by omega) dX1_markLiving_39 ?_
        refine xk_top hh ?_
        refine xk_roS (As := [.int (nI (tn (mem o)))]) (rest := [.int (nI o)]) ⟨hx, hb, hml, hown, hts⟩ (c_sizeBy l (tn (mem o)) (by omega)) (va_cwS 1 hts gX1_markLiving_X1_sizeBy rfl rfl rfl (by decide +kernel) ⟨Nat.le_of_ble_eq_true rfl, Nat.le_of_ble_eq_true rfl⟩) rfl hl.1 rfl (Nat.le_of_ble_eq_true rfl) dX1_markLiving_40 ⟨Nat.zero_le _, Nat.zero_le _⟩ ?_
        refine lv_iadd hx hb dX1_markLiving_43 ?_
        refine xk_top (nI_add _ _) ?_
        refine lv_istore_n (lv' := [(3, .int (nI (o + (1 + (tn (mem o)) / 16 % 16 + (tn (mem o)) / 256)))), (0, .ref h0), (1, .int (nI z1)), (2, .int (nI f))]) hx hb dX1_markLiving_44 rfl hl (by decide) rfl (fun ls hl => ?_)
        refine lv_aload_n hx hb dX1_markLiving_45 rfl (lv_at hl 1 rfl) ?_
        refine va_get (D := D) (ci := 1) (v := .ref (ad 5)) (C := RX1) (T := TX1) (N := 16) hx hb hts in_X1_markLiving_X1 hown hK hP 0 rfl rfl 6 (by decide) (hts (.fieldLink RX1 48 "OffsetHeap" "found" "[I") (by decide +kernel)) (fun _ h9 => h9) rfl dX1_markLiving_46 ?_
        refine lv_iload_n hx hb dX1_markLiving_49 rfl (lv_at hl 3 rfl) ?_
        refine xk_iald hx hb hK hP 5 0 rfl rfl (by omega) (by omega) dX1_markLiving_50 ?_
        refine xk_top o3 ?_
        refine lv_istore (lv' := [(4, .int (nI o)), (3, .int (nI (o + (1 + (tn (mem o)) / 16 % 16 + (tn (mem o)) / 256)))), (0, .ref h0), (1, .int (nI z1)), (2, .int (nI f))]) hx hb dX1_markLiving_51 hl (by decide) rfl (fun ls hl => ?_)
        have inn : ∀ (e9 : Nat) (btw2 : Nat → Int64) (i : Nat) (H : Heap) (locs : List Loc) (ls : Array Slot), o + (1 + tn (mem o) / 16 % 16 + tn (mem o) / 256) + 1 ≤ i + e9 → o ≤ i → i ≤ o + (1 + tn (mem o) / 16 % 16 + tn (mem o) / 256) → (∀ x, x ≤ n → (bo btw2 x = true ↔ bo btw1 x = true ∨ (o ≤ x ∧ x < i))) → va_P D vwCl (cW cI cL h0 ad n B nb tp ob co rd rts offs fnd1 mem frs btw2 snw1 stw fsw) H → va_D A (cW cI cL h0 ad n B nb tp ob co rd rts offs fnd1 mem frs btw2 snw1 stw fsw) → va_S A s.heap H locs → lv_has ls 5 [(0, .ref h0), (1, .int (nI z1)), (2, .int (nI f)), (3, .int (nI (o + (1 + tn (mem o) / 16 % 16 + tn (mem o) / 256)))), (4, .int (nI i))] → W p l e (headSpec wsX1_markLiving ({ frames := 4, cells := 0, slots := 0, locals := 120 })).room s m ([.ref h0] : List Value).toArray below meth c H locs 0 0 (MQ below (va_Qv (fun (u : (Nat → Int64) × (Nat → Int32) × (Nat → Int64)) => okL n mem rts (bo u.2.2)) (fun (u : (Nat → Int64) × (Nat → Int32) × (Nat → Int64)) t => va_P D vwCl (cW cI cL h0 ad n B nb tp ob co rd rts offs u.2.1 mem frs u.2.2 u.1 stw fsw) t.heap ∧ va_D A (cW cI cL h0 ad n B nb tp ob co rd rts offs u.2.1 mem frs u.2.2 u.1 stw fsw)) A) ([.ref h0] : List Value).toArray s 0 0 A) (F0 m 53 ls []) := by
          intro e9
          induction e9 with
          | zero =>
            intro btw2 i H locs ls he hi1 hi2 hI hP hD hS hl
            exfalso; omega
          | succ e9 ih2 =>
            intro btw2 i H locs ls he hi1 hi2 hI hP hD hS hl
            refine lv_iload hx hb dX1_markLiving_53 (lv_at hl 4 rfl) ?_
            refine lv_iload_n hx hb dX1_markLiving_55 rfl (lv_at hl 3 rfl) ?_
            refine xk_icmp_ge (tgt := 74) hx hb (by omega) (by omega) dX1_markLiving_56 (by decide) (fun c56 => ?_) (fun c56 => ?_)
            · refine lv_iinc (v := nI (f + 1)) (lv' := [(2, .int (nI (f + 1))), (0, .ref h0), (1, .int (nI z1)), (3, .int (nI (o + (1 + tn (mem o) / 16 % 16 + tn (mem o) / 256)))), (4, .int (nI i))]) hx hb dX1_markLiving_74 hl (k := 2) rfl (xk_inc f) (by decide) rfl (fun ls hl => ?_)
              refine lv_goto (tgt := 18) hx hb dX1_markLiving_77 (by decide) ?_
              exact ih1 btw2 (f + 1) H locs ls (by omega) (by omega) (fun x hx => by rw [hI x hx, hM x hx, MK_s hn o2 o3 x]; unfold siz; rw [show i = o + (1 + tn (mem o) / 16 % 16 + tn (mem o) / 256) by omega]) hP hD hS (lv_sub hl [1, 2, 0] rfl)
            · refine lv_aload_n hx hb dX1_markLiving_59 rfl (lv_at hl 0 rfl) ?_
              refine va_get (D := D) (ci := 1) (v := .ref (ad 2)) (C := RX1) (T := TX1) (N := 16) hx hb hts in_X1_markLiving_X1 hown hK hP 0 rfl rfl 4 (by decide) (hts (.fieldLink RX1 41 "OffsetHeap" "bits" "LOffsetHeap$BitRow;") (by decide +kernel)) (fun _ h9 => h9) rfl dX1_markLiving_60 ?_
              refine lv_iload hx hb dX1_markLiving_63 (lv_at hl 4 rfl) ?_
              refine xk_aftv (wr := [(h0, .inr (1, [.int (nI n), .int (nI B), .int (nI nb), .ref (ad 1), .ref (ad 2), .ref (ad 4), .ref (ad 5), .ref (ad 6), .ref (ad 8), .ref (ad 9), .ref (ad 10), .ref (ad 12), .int (nI tp), .int (nI ob), .int (nI co), .int (nI rd)])), ((ad 1), .inl (cI, 8, .inl rts)), ((ad 4), .inl (cI, nb, .inl offs)), ((ad 5), .inl (cI, n, .inl fnd1)), ((ad 6), .inr (0, [.ref (ad 7)])), ((ad 7), .inl (cL, (n / 64 + 1), .inr (.inl snw1))), ((ad 8), .inl (cI, (n + 1), .inl mem)), ((ad 9), .inl (cI, (n + 1), .inl frs)), ((ad 10), .inr (0, [.ref (ad 11)])), ((ad 11), .inl (cL, (n / 64 + 1), .inr (.inl stw))), ((ad 12), .inr (0, [.ref (ad 13)])), ((ad 13), .inl (cL, (n / 64 + 1), .inr (.inl fsw)))]) (ws' := fun f2 => cW cI cL h0 ad n B nb tp ob co rd rts offs fnd1 mem frs f2 snw1 stw fsw) (va_runV (As := [.int (nI i)]) (rest := []) ⟨hx, hb, hml, hown, hts⟩ (c_put l D cL (ad 2) (ad 3) (n / 64 + 1) btw2 (by omega) H.size i (by omega) (by omega)) (cwV 1 hts gX1_markLiving_X0_put rfl rfl rfl (by decide +kernel) ⟨Nat.le_of_ble_eq_true rfl, Nat.le_of_ble_eq_true rfl⟩) (xk_preV (va_recv hK hP (ci := 0) (q0 := 2) rfl rfl) rfl (hP.sub [2, 3] rfl) (hK.sub [1] rfl) ((hD.sub [2, 3] (by decide) rfl).weaken (fun _ _ _ _ => trivial))) rfl rfl hl.1 rfl (lv_room (Nat.le_of_ble_eq_true rfl)) dX1_markLiving_65 ⟨Nat.zero_le _, Nat.zero_le _⟩) hP hD hS hA [2, 3] [0, 1, 4, 5, 6, 7, 8, 9, 10, 11, 12, 13] [0, 1, 12, 13, 2, 3, 4, 5, 6, 7, 8, 9, 10, 11] rfl rfl (by decide) (by decide) (fun _ => rfl) (by decide) (fun f2 H locs hf2 hP hD hS => ?_)
              subst hf2
              have hP : va_P D vwCl (cW cI cL h0 ad n B nb tp ob co rd rts offs fnd1 mem frs (bput btw2 i) snw1 stw fsw) H := hP
              have hD : va_D A (cW cI cL h0 ad n B nb tp ob co rd rts offs fnd1 mem frs (bput btw2 i) snw1 stw fsw) := hD
              refine lv_iinc (v := nI (i + 1)) (lv' := [(4, .int (nI (i + 1))), (0, .ref h0), (1, .int (nI z1)), (2, .int (nI f)), (3, .int (nI (o + (1 + tn (mem o) / 16 % 16 + tn (mem o) / 256))))]) hx hb dX1_markLiving_68 hl (k := 4) rfl (xk_inc i) (by decide) rfl (fun ls hl => ?_)
              refine lv_goto (tgt := 53) hx hb dX1_markLiving_71 (by decide) ?_
              exact ih2 (bput btw2 i) (i + 1) H locs ls (by omega) (by omega) (by omega) (mk_put hI) hP hD hS (lv_sub hl [1, 2, 3, 4, 0] rfl)
        exact inn 300 btw1 o H locs ls (by omega) (by omega) (by omega) (fun x _ => ⟨Or.inl, fun z => z.resolve_right (fun w => by omega)⟩) hP hD hS (lv_sub hl [2, 3, 4, 1, 0] rfl)
  refine lv_iconst (v := nI 0) hx hb dX1_markLiving_16 (by decide +kernel) ?_
  refine lv_istore_n (lv' := [(2, .int (nI 0)), (1, .int (nI z1)), (0, .ref h0)]) hx hb dX1_markLiving_17 rfl hl (by decide) rfl (fun ls hl => ?_)
  exact keyO (z1 + 1) bt0 0 H locs ls (by omega) (by omega) (fun x hx => by rw [bz x hx]; exact ⟨fun z => absurd z (by decide), fun ⟨g, g1, _⟩ => by omega⟩) hP hD hS (lv_sub hl [2, 1, 0] rfl)
set_option maxHeartbeats 4000000 in
set_option maxRecDepth 100000 in
/-- fillOffsets -/
theorem c_fillOffsets (l : Launch) (D : va_G) (cI cL : ClassId) (h0 : Nat) (ad : Nat → Nat) (n B nb tp ob co rd : Nat) (rts offs fnd mem frs : Nat → Int32) (btw snw stw fsw : Nat → Int64) (sz : Nat) (hn : n ≤ 4000) (hB : okB B) (hnb : nb = n / B + 1) : Met l yX1_fillOffsets wsX1_fillOffsets ({ frames := 1, cells := 0, slots := 0, locals := 30 }) (va_Pc [.ref h0] (fun U => U.heap.size = sz ∧ va_P D vwCl (cW cI cL h0 ad n B nb tp ob co rd rts offs fnd mem frs btw snw stw fsw) U.heap ∧ va_K D vwCl [(cI, .int), (cL, .long)] U ∧ va_D (fun _ => True) (cW cI cL h0 ad n B nb tp ob co rd rts offs fnd mem frs btw snw stw fsw))) (va_Qi (fun (r9 : Int32) (u : Nat → Int32) => r9 = nI (cn (bo btw) (n + 1)) ∧ offOk B nb u (bo btw)) (fun (u : Nat → Int32) t => va_P D vwCl (cW cI cL h0 ad n B nb tp ob co rd rts u fnd mem frs btw snw stw fsw) t.heap ∧ va_D (va_A (cW cI cL h0 ad n B nb tp ob co rd rts offs fnd mem frs btw snw stw fsw) sz) (cW cI cL h0 ad n B nb tp ob co rd rts u fnd mem frs btw snw stw fsw)) (va_A (cW cI cL h0 ad n B nb tp ob co rd rts offs fnd mem frs btw snw stw fsw) sz)) 0 0 (va_A (cW cI cL h0 ad n B nb tp ob co rd rts offs fnd mem frs btw snw stw fsw) sz) := by
  refine Met.ofW (cc := cX1_fillOffsets) (maxL := 3) (ret := (some .int)) (by decide) rfl ?_
  intro p e s m args below meth c s₁ B9 hml hv
  obtain ⟨rfl, hsz, hP, hK, hD0⟩ := hv
  have hx := B9.exec
  have hb := B9.bytes
  have hr := B9.returns
  have hts := atoms_spec (ws := wsX1_fillOffsets) B9.pre
  have hown : s.vm.findClass RX1 = some m.cls := findClass_of_methodNamed B9.named
  have hlocks := B9.notSynchronized
  subst hsz
  have hD := hD0.self (sz := s.heap.size)
  generalize hAe : va_A (cW cI cL h0 ad n B nb tp ob co rd rts offs fnd mem frs btw snw stw fsw) s.heap.size = A at hD ⊢
  have hA : ∀ q : Nat, s.heap.size ≤ q → A q := fun q h => by rw [← hAe]; exact Or.inr h
  have hS : va_S A s.heap s.heap [] := va_S.rf
  have hl := lv_entry ([.ref h0]) (n := 3) (Nat.le_of_ble_eq_true rfl)
  rw [lg_entry_eq]
  generalize (lg_sl ([.ref h0]) ++ List.replicate (3 - (lg_sl ([.ref h0])).length) Slot.unset).toArray = ls at hl ⊢
  have hl : lv_has ls 3 [(0, .ref h0)] := hl
  obtain ⟨-, -, -, b4, b5⟩ := okB_div (i := 0) hB
  have key : ∀ (d : Nat) (offs1 : Nat → Int32) (i : Nat) (H : Heap) (locs : List Loc) (ls : Array Slot), n + 2 ≤ i + d → i ≤ n + 1 → (∀ k, k < nb → k * B < i → offs1 k = nI (cn (bo btw) (k * B))) → va_P D vwCl (cW cI cL h0 ad n B nb tp ob co rd rts offs1 fnd mem frs btw snw stw fsw) H → va_D A (cW cI cL h0 ad n B nb tp ob co rd rts offs1 fnd mem frs btw snw stw fsw) → va_S A s.heap H locs → lv_has ls 3 [(0, .ref h0), (1, .int (nI (cn (bo btw) i))), (2, .int (nI i))] → W p l e (headSpec wsX1_fillOffsets ({ frames := 1, cells := 0, slots := 0, locals := 30 })).room s m ([.ref h0] : List Value).toArray below meth c H locs 0 0 (MQ below (va_Qi (fun (r9 : Int32) (u : Nat → Int32) => r9 = nI (cn (bo btw) (n + 1)) ∧ offOk B nb u (bo btw)) (fun (u : Nat → Int32) t => va_P D vwCl (cW cI cL h0 ad n B nb tp ob co rd rts u fnd mem frs btw snw stw fsw) t.heap ∧ va_D A (cW cI cL h0 ad n B nb tp ob co rd rts u fnd mem frs btw snw stw fsw)) A) ([.ref h0] : List Value).toArray s 0 0 A) (F0 m 4 ls []) := by
    intro d
    induction d with
    | zero =>
      intro offs1 i H locs ls hd hi hO hP hD hS hl
      exfalso; omega
    | succ d ih =>
      intro offs1 i H locs ls hd hi hO hP hD hS hl
      refine lv_iload_n hx hb dX1_fillOffsets_4 rfl (lv_at hl 2 rfl) ?_
      refine lv_aload_n hx hb dX1_fillOffsets_5 rfl (lv_at hl 0 rfl) ?_
      refine va_get (D := D) (ci := 1) (v := .int (nI n)) (C := RX1) (T := TX1) (N := 16) hx hb hts in_X1_fillOffsets_X1 hown hK hP 0 rfl rfl 0 (by decide) (hts (.fieldLink RX1 18 "OffsetHeap" "last" "I") (by decide +kernel)) (fun _ h9 => h9) rfl dX1_fillOffsets_6 ?_
      refine xk_icmp_gt (tgt := 53) hx hb (by omega) (by omega) dX1_fillOffsets_9 (by decide) (fun c9 => ?_) (fun c9 => ?_)
      · refine lv_iload_n hx hb dX1_fillOffsets_53 rfl (lv_at hl 1 rfl) ?_
        exact W.iret hx hb hr (fun t ht hW => ⟨⟨_, offs1, rfl, ⟨by rw [show i = n + 1 by omega], off_all hB hnb (by rw [show i = n + 1 by omega] at hO; exact hO)⟩, by rw [ht]; exact hP, hD⟩, hS.F ht⟩) hS.2.2 dX1_fillOffsets_54
      · have b6 : i % B ≤ i := Nat.mod_le _ _
        have b7 : i / B ≤ n / B := Nat.div_le_div_right c9
        have b8 := cn_le (bo btw) i
        have b9 : n / B ≤ n := Nat.div_le_self _ _
        refine lv_iload_n hx hb dX1_fillOffsets_12 rfl (lv_at hl 2 rfl) ?_
        refine lv_aload_n hx hb dX1_fillOffsets_13 rfl (lv_at hl 0 rfl) ?_
        refine va_get (D := D) (ci := 1) (v := .int (nI B)) (C := RX1) (T := TX1) (N := 16) hx hb hts in_X1_fillOffsets_X1 hown hK hP 0 rfl rfl 1 (by decide) (hts (.fieldLink RX1 26 "OffsetHeap" "blockWords" "I") (by decide +kernel)) (fun _ h9 => h9) rfl dX1_fillOffsets_14 ?_
        refine lv_irem hx hb dX1_fillOffsets_17 (nI_ne0 (by omega) (by omega)) ?_
        refine xk_top (pk_rem (by omega) (by omega) (by omega)) ?_
        refine xk_if_ne (tgt := 33) hx hb (by omega) dX1_fillOffsets_18 (by decide) (fun c18 => ?_) (fun c18 => ?_)
        · refine lv_aload_n hx hb dX1_fillOffsets_33 rfl (lv_at hl 0 rfl) ?_
          refine va_get (D := D) (ci := 1) (v := .ref (ad 2)) (C := RX1) (T := TX1) (N := 16) hx hb hts in_X1_fillOffsets_X1 hown hK hP 0 rfl rfl 4 (by decide) (hts (.fieldLink RX1 41 "OffsetHeap" "bits" "LOffsetHeap$BitRow;") (by decide +kernel)) (fun _ h9 => h9) rfl dX1_fillOffsets_34 ?_
          refine lv_iload_n hx hb dX1_fillOffsets_37 rfl (lv_at hl 2 rfl) ?_
          refine xk_roV (As := [.int (nI i)]) (rest := []) ⟨hx, hb, hml, hown, hts⟩ (c_has l D cL (ad 2) (ad 3) (n / 64 + 1) btw (by omega) i (by omega) (by omega)) (cwV 1 hts gX1_fillOffsets_X0_has rfl rfl rfl (by decide +kernel) ⟨Nat.le_of_ble_eq_true rfl, Nat.le_of_ble_eq_true rfl⟩) (va_recv hK hP (ci := 0) (q0 := 2) rfl rfl) (hP.sub [2, 3] rfl) (hK.sub [1] rfl) rfl hl.1 rfl (Nat.le_of_ble_eq_true rfl) dX1_fillOffsets_38 ⟨Nat.zero_le _, Nat.zero_le _⟩ ?_
          refine xk_if_eqB (tgt := 47) hx hb dX1_fillOffsets_41 (by decide) (fun c41 => ?_) (fun c41 => ?_)
          · refine lv_iinc (v := nI (i + 1)) (lv' := [(2, .int (nI (i + 1))), (0, .ref h0), (1, .int (nI (cn (bo btw) i)))]) hx hb dX1_fillOffsets_47 hl (k := 2) rfl (xk_inc i) (by decide) rfl (fun ls hl => ?_)
            refine lv_goto (tgt := 4) hx hb dX1_fillOffsets_50 (by decide) ?_
            rw [← cn_f c41] at hl
            exact ih offs1 (i + 1) H locs ls (by omega) (by omega) (off_skip hB hO c18) hP hD hS (lv_sub hl [1, 2, 0] rfl)
          · refine lv_iinc (v := nI (cn (bo btw) i + 1)) (lv' := [(1, .int (nI (cn (bo btw) i + 1))), (0, .ref h0), (2, .int (nI i))]) hx hb dX1_fillOffsets_44 hl (k := 1) rfl (xk_inc (cn (bo btw) i)) (by decide) rfl (fun ls hl => ?_)
            refine lv_iinc (v := nI (i + 1)) (lv' := [(2, .int (nI (i + 1))), (1, .int (nI (cn (bo btw) i + 1))), (0, .ref h0)]) hx hb dX1_fillOffsets_47 hl (k := 2) rfl (xk_inc i) (by decide) rfl (fun ls hl => ?_)
            refine lv_goto (tgt := 4) hx hb dX1_fillOffsets_50 (by decide) ?_
            rw [← cn_t c41] at hl
            exact ih offs1 (i + 1) H locs ls (by omega) (by omega) (off_skip hB hO c18) hP hD hS (lv_sub hl [2, 1, 0] rfl)
        · refine lv_aload_n hx hb dX1_fillOffsets_21 rfl (lv_at hl 0 rfl) ?_
          refine va_get (D := D) (ci := 1) (v := .ref (ad 4)) (C := RX1) (T := TX1) (N := 16) hx hb hts in_X1_fillOffsets_X1 hown hK hP 0 rfl rfl 5 (by decide) (hts (.fieldLink RX1 45 "OffsetHeap" "offsets" "[I") (by decide +kernel)) (fun _ h9 => h9) rfl dX1_fillOffsets_22 ?_
          refine lv_iload_n hx hb dX1_fillOffsets_25 rfl (lv_at hl 2 rfl) ?_
          refine lv_aload_n hx hb dX1_fillOffsets_26 rfl (lv_at hl 0 rfl) ?_
          refine va_get (D := D) (ci := 1) (v := .int (nI B)) (C := RX1) (T := TX1) (N := 16) hx hb hts in_X1_fillOffsets_X1 hown hK hP 0 rfl rfl 1 (by decide) (hts (.fieldLink RX1 26 "OffsetHeap" "blockWords" "I") (by decide +kernel)) (fun _ h9 => h9) rfl dX1_fillOffsets_27 ?_
          refine lv_idiv hx hb dX1_fillOffsets_30 (nI_ne0 (by omega) (by omega)) ?_
          refine xk_top (pk_div (by omega) (by omega) (by omega)) ?_
          refine lv_iload_n hx hb dX1_fillOffsets_31 rfl (lv_at hl 1 rfl) ?_
          refine xk_iast hx hb hK hP hD hS 4 0 rfl rfl (by omega) (by omega) dX1_fillOffsets_32 (fun H locs hP hD hS => ?_)
          have hP : va_P D vwCl (cW cI cL h0 ad n B nb tp ob co rd rts (upd offs1 (i / B) (nI (cn (bo btw) i))) fnd mem frs btw snw stw fsw) H := hP
          have hD : va_D A (cW cI cL h0 ad n B nb tp ob co rd rts (upd offs1 (i / B) (nI (cn (bo btw) i))) fnd mem frs btw snw stw fsw) := hD
          refine lv_aload_n hx hb dX1_fillOffsets_33 rfl (lv_at hl 0 rfl) ?_
          refine va_get (D := D) (ci := 1) (v := .ref (ad 2)) (C := RX1) (T := TX1) (N := 16) hx hb hts in_X1_fillOffsets_X1 hown hK hP 0 rfl rfl 4 (by decide) (hts (.fieldLink RX1 41 "OffsetHeap" "bits" "LOffsetHeap$BitRow;") (by decide +kernel)) (fun _ h9 => h9) rfl dX1_fillOffsets_34 ?_
          refine lv_iload_n hx hb dX1_fillOffsets_37 rfl (lv_at hl 2 rfl) ?_
          refine xk_roV (As := [.int (nI i)]) (rest := []) ⟨hx, hb, hml, hown, hts⟩ (c_has l D cL (ad 2) (ad 3) (n / 64 + 1) btw (by omega) i (by omega) (by omega)) (cwV 1 hts gX1_fillOffsets_X0_has rfl rfl rfl (by decide +kernel) ⟨Nat.le_of_ble_eq_true rfl, Nat.le_of_ble_eq_true rfl⟩) (va_recv hK hP (ci := 0) (q0 := 2) rfl rfl) (hP.sub [2, 3] rfl) (hK.sub [1] rfl) rfl hl.1 rfl (Nat.le_of_ble_eq_true rfl) dX1_fillOffsets_38 ⟨Nat.zero_le _, Nat.zero_le _⟩ ?_
          refine xk_if_eqB (tgt := 47) hx hb dX1_fillOffsets_41 (by decide) (fun c41 => ?_) (fun c41 => ?_)
          · refine lv_iinc (v := nI (i + 1)) (lv' := [(2, .int (nI (i + 1))), (0, .ref h0), (1, .int (nI (cn (bo btw) i)))]) hx hb dX1_fillOffsets_47 hl (k := 2) rfl (xk_inc i) (by decide) rfl (fun ls hl => ?_)
            refine lv_goto (tgt := 4) hx hb dX1_fillOffsets_50 (by decide) ?_
            rw [← cn_f c41] at hl
            exact ih (upd offs1 (i / B) (nI (cn (bo btw) i))) (i + 1) H locs ls (by omega) (by omega) (off_step hB hO c18) hP hD hS (lv_sub hl [1, 2, 0] rfl)
          · refine lv_iinc (v := nI (cn (bo btw) i + 1)) (lv' := [(1, .int (nI (cn (bo btw) i + 1))), (0, .ref h0), (2, .int (nI i))]) hx hb dX1_fillOffsets_44 hl (k := 1) rfl (xk_inc (cn (bo btw) i)) (by decide) rfl (fun ls hl => ?_)
            refine lv_iinc (v := nI (i + 1)) (lv' := [(2, .int (nI (i + 1))), (1, .int (nI (cn (bo btw) i + 1))), (0, .ref h0)]) hx hb dX1_fillOffsets_47 hl (k := 2) rfl (xk_inc i) (by decide) rfl (fun ls hl => ?_)
            refine lv_goto (tgt := 4) hx hb dX1_fillOffsets_50 (by decide) ?_
            rw [← cn_t c41] at hl
            exact ih (upd offs1 (i / B) (nI (cn (bo btw) i))) (i + 1) H locs ls (by omega) (by omega) (off_step hB hO c18) hP hD hS (lv_sub hl [2, 1, 0] rfl)
  refine lv_iconst (v := nI 0) hx hb dX1_fillOffsets_0 (by decide +kernel) ?_
  refine lv_istore_n (lv' := [(1, .int (nI 0)), (0, .ref h0)]) hx hb dX1_fillOffsets_1 rfl hl (by decide) rfl (fun ls hl => ?_)
  refine lv_iconst (v := nI 0) hx hb dX1_fillOffsets_2 (by decide +kernel) ?_
  refine lv_istore_n (lv' := [(2, .int (nI 0)), (1, .int (nI 0)), (0, .ref h0)]) hx hb dX1_fillOffsets_3 rfl hl (by decide) rfl (fun ls hl => ?_)
  exact key (n + 2) offs 0 s.heap [] ls (by omega) (by omega) (fun k _ h => absurd h (Nat.not_lt_zero _)) hP hD hS (lv_sub hl [2, 1, 0] rfl)
set_option maxHeartbeats 4000000 in
set_option maxRecDepth 100000 in
/-- copyLiving -/
theorem c_copyLiving (l : Launch) (D : va_G) (cI cL : ClassId) (h0 : Nat) (ad : Nat → Nat) (n B nb tp ob co rd : Nat) (rts offs fnd mem frs : Nat → Int32) (btw snw stw fsw : Nat → Int64) (sz : Nat) (hn : n ≤ 4000) (hok : okS n tp mem (bo stw) rts) (hB : okB B) (hnb : nb = n / B + 1) (hof : offOk B nb offs (bo btw)) (hL : okL n mem rts (bo btw)) : Met l yX1_copyLiving wsX1_copyLiving ({ frames := 4, cells := 0, slots := 0, locals := 120 }) (va_Pc [.ref h0] (fun U => U.heap.size = sz ∧ va_P D vwCl (cW cI cL h0 ad n B nb tp ob co rd rts offs fnd mem frs btw snw stw fsw) U.heap ∧ va_K D vwCl [(cI, .int), (cL, .long)] U ∧ va_D (fun _ => True) (cW cI cL h0 ad n B nb tp ob co rd rts offs fnd mem frs btw snw stw fsw))) (va_Qv (fun (u : (Nat → Int32) × (Nat → Int64) × Nat × Nat) => CP n tp mem (bo stw) (bo btw) u.1 (bo u.2.1) u.2.2.1 u.2.2.2 tp) (fun (u : (Nat → Int32) × (Nat → Int64) × Nat × Nat) t => va_P D vwCl (cW cI cL h0 ad n B nb tp u.2.2.2 co u.2.2.1 rts offs fnd mem u.1 btw snw stw u.2.1) t.heap ∧ va_D (va_A (cW cI cL h0 ad n B nb tp ob co rd rts offs fnd mem frs btw snw stw fsw) sz) (cW cI cL h0 ad n B nb tp u.2.2.2 co u.2.2.1 rts offs fnd mem u.1 btw snw stw u.2.1)) (va_A (cW cI cL h0 ad n B nb tp ob co rd rts offs fnd mem frs btw snw stw fsw) sz)) 0 0 (va_A (cW cI cL h0 ad n B nb tp ob co rd rts offs fnd mem frs btw snw stw fsw) sz) := by
  refine Met.ofW (cc := cX1_copyLiving) (maxL := 6) (ret := none) (by decide) rfl ?_
  intro p e s m args below meth c s₁ B9 hml hv
  obtain ⟨rfl, hsz, hP, hK, hD0⟩ := hv
  have hx := B9.exec
  have hb := B9.bytes
  have hr := B9.returns
  have hts := atoms_spec (ws := wsX1_copyLiving) B9.pre
  have hown : s.vm.findClass RX1 = some m.cls := findClass_of_methodNamed B9.named
  have hlocks := B9.notSynchronized
  subst hsz
  have hD := hD0.self (sz := s.heap.size)
  generalize hAe : va_A (cW cI cL h0 ad n B nb tp ob co rd rts offs fnd mem frs btw snw stw fsw) s.heap.size = A at hD ⊢
  have hA : ∀ q : Nat, s.heap.size ≤ q → A q := fun q h => by rw [← hAe]; exact Or.inr h
  have hS : va_S A s.heap s.heap [] := va_S.rf
  have hl := lv_entry ([.ref h0]) (n := 6) (Nat.le_of_ble_eq_true rfl)
  rw [lg_entry_eq]
  generalize (lg_sl ([.ref h0]) ++ List.replicate (6 - (lg_sl ([.ref h0])).length) Slot.unset).toArray = ls at hl ⊢
  have hl : lv_has ls 6 [(0, .ref h0)] := hl
  have htp := hok.1.2.1
  have htp1 := hok.1.1
  refine lv_aload_n hx hb dX1_copyLiving_0 rfl (lv_at hl 0 rfl) ?_
  refine va_get (D := D) (ci := 1) (v := .ref (ad 9)) (C := RX1) (T := TX1) (N := 16) hx hb hts in_X1_copyLiving_X1 hown hK hP 0 rfl rfl 9 (by decide) (hts (.fieldLink RX1 57 "OffsetHeap" "fresh" "[I") (by decide +kernel)) (fun _ h9 => h9) rfl dX1_copyLiving_1 ?_
  refine lv_iconst (v := nI 0) hx hb dX1_copyLiving_4 (by decide +kernel) ?_
  refine xk_aftv (wr := [(h0, .inr (1, [.int (nI n), .int (nI B), .int (nI nb), .ref (ad 1), .ref (ad 2), .ref (ad 4), .ref (ad 5), .ref (ad 6), .ref (ad 8), .ref (ad 9), .ref (ad 10), .ref (ad 12), .int (nI tp), .int (nI ob), .int (nI co), .int (nI rd)])), ((ad 1), .inl (cI, 8, .inl rts)), ((ad 2), .inr (0, [.ref (ad 3)])), ((ad 3), .inl (cL, (n / 64 + 1), .inr (.inl btw))), ((ad 4), .inl (cI, nb, .inl offs)), ((ad 5), .inl (cI, n, .inl fnd)), ((ad 6), .inr (0, [.ref (ad 7)])), ((ad 7), .inl (cL, (n / 64 + 1), .inr (.inl snw))), ((ad 8), .inl (cI, (n + 1), .inl mem)), ((ad 10), .inr (0, [.ref (ad 11)])), ((ad 11), .inl (cL, (n / 64 + 1), .inr (.inl stw))), ((ad 12), .inr (0, [.ref (ad 13)])), ((ad 13), .inl (cL, (n / 64 + 1), .inr (.inl fsw)))]) (ws' := fun f2 => cW cI cL h0 ad n B nb tp ob co rd rts offs fnd mem f2 btw snw stw fsw) (va_runS (As := [.ref (ad 9), .int (nI 0)]) (rest := []) ⟨hx, hb, hml, hown, hts⟩ (c_fillI l D (ad 9) cI (n + 1) s.heap.size frs (nI 0) (by omega)) (va_cwS 2 hts gX1_copyLiving_J7_fill_53178 rfl rfl rfl (by decide +kernel) ⟨Nat.le_of_ble_eq_true rfl, Nat.le_of_ble_eq_true rfl⟩) (xk_preS rfl (hP.sub [9] rfl) (hK.sub [0] rfl) ((hD.sub [9] (by decide) rfl).weaken (fun _ _ _ _ => trivial))) rfl rfl hl.1 rfl (lv_room (Nat.le_of_ble_eq_true rfl)) dX1_copyLiving_5 ⟨Nat.zero_le _, Nat.zero_le _⟩) hP hD hS hA [9] [0, 1, 2, 3, 4, 5, 6, 7, 8, 10, 11, 12, 13] [0, 1, 2, 3, 4, 5, 6, 7, 8, 13, 9, 10, 11, 12] rfl rfl (by decide) (by decide) (fun _ => rfl) (by decide) (fun fr0 H locs hfr0 hP hD hS => ?_)
  have hP : va_P D vwCl (cW cI cL h0 ad n B nb tp ob co rd rts offs fnd mem fr0 btw snw stw fsw) H := hP
  have hD : va_D A (cW cI cL h0 ad n B nb tp ob co rd rts offs fnd mem fr0 btw snw stw fsw) := hD
  refine lv_aload_n hx hb dX1_copyLiving_8 rfl (lv_at hl 0 rfl) ?_
  refine va_get (D := D) (ci := 1) (v := .ref (ad 12)) (C := RX1) (T := TX1) (N := 16) hx hb hts in_X1_copyLiving_X1 hown hK hP 0 rfl rfl 11 (by decide) (hts (.fieldLink RX1 63 "OffsetHeap" "freshStarts" "LOffsetHeap$BitRow;") (by decide +kernel)) (fun _ h9 => h9) rfl dX1_copyLiving_9 ?_
  refine xk_aftv (wr := [(h0, .inr (1, [.int (nI n), .int (nI B), .int (nI nb), .ref (ad 1), .ref (ad 2), .ref (ad 4), .ref (ad 5), .ref (ad 6), .ref (ad 8), .ref (ad 9), .ref (ad 10), .ref (ad 12), .int (nI tp), .int (nI ob), .int (nI co), .int (nI rd)])), ((ad 1), .inl (cI, 8, .inl rts)), ((ad 2), .inr (0, [.ref (ad 3)])), ((ad 3), .inl (cL, (n / 64 + 1), .inr (.inl btw))), ((ad 4), .inl (cI, nb, .inl offs)), ((ad 5), .inl (cI, n, .inl fnd)), ((ad 6), .inr (0, [.ref (ad 7)])), ((ad 7), .inl (cL, (n / 64 + 1), .inr (.inl snw))), ((ad 8), .inl (cI, (n + 1), .inl mem)), ((ad 9), .inl (cI, (n + 1), .inl fr0)), ((ad 10), .inr (0, [.ref (ad 11)])), ((ad 11), .inl (cL, (n / 64 + 1), .inr (.inl stw)))]) (ws' := fun f2 => cW cI cL h0 ad n B nb tp ob co rd rts offs fnd mem fr0 btw snw stw f2) (va_runV (As := []) (rest := []) ⟨hx, hb, hml, hown, hts⟩ (c_clear l D cL (ad 12) (ad 13) (n / 64 + 1) fsw (by omega) H.size) (cwV 0 hts gX1_copyLiving_X0_clear rfl rfl rfl (by decide +kernel) ⟨Nat.le_of_ble_eq_true rfl, Nat.le_of_ble_eq_true rfl⟩) (xk_preV (va_recv hK hP (ci := 0) (q0 := 12) rfl rfl) rfl (hP.sub [12, 13] rfl) (hK.sub [1] rfl) ((hD.sub [12, 13] (by decide) rfl).weaken (fun _ _ _ _ => trivial))) rfl rfl hl.1 rfl (lv_room (Nat.le_of_ble_eq_true rfl)) dX1_copyLiving_12 ⟨Nat.zero_le _, Nat.zero_le _⟩) hP hD hS hA [12, 13] [0, 1, 2, 3, 4, 5, 6, 7, 8, 9, 10, 11] [0, 1, 2, 3, 4, 5, 6, 7, 8, 9, 10, 11, 12, 13] rfl rfl (by decide) (by decide) (fun _ => rfl) (by decide) (fun f2 H locs hf2 hP hD hS => ?_)
  obtain ⟨fs0, efs0⟩ : ∃ z, z = f2 := ⟨_, rfl⟩
  rw [← efs0] at hP hD hf2
  have hfs0 := hf2
  have hP : va_P D vwCl (cW cI cL h0 ad n B nb tp ob co rd rts offs fnd mem fr0 btw snw stw fs0) H := hP
  have hD : va_D A (cW cI cL h0 ad n B nb tp ob co rd rts offs fnd mem fr0 btw snw stw fs0) := hD
  refine lv_aload_n hx hb dX1_copyLiving_15 rfl (lv_at hl 0 rfl) ?_
  refine lv_iconst (v := nI 0) hx hb dX1_copyLiving_16 (by decide +kernel) ?_
  refine va_put (D := D) (ci := 1) (v := .int (nI 0)) (ty := .int) (C := RX1) (T := TX1) (N := 16) hx hb hts in_X1_copyLiving_X1 tyX1 tyX1_ok nmX1 hown hK hP hD hS 0 rfl rfl 15 (by decide) (hts (.fieldLink RX1 125 "OffsetHeap" "wordsRead" "I") (by decide +kernel)) (fun _ h9 => h9) rfl (by decide +kernel) rfl rfl (Nat.le_of_ble_eq_true rfl) dX1_copyLiving_17 (fun H locs hP hD hS => ?_)
  have hP : va_P D vwCl (cW cI cL h0 ad n B nb tp ob co 0 rts offs fnd mem fr0 btw snw stw fs0) H := hP
  have hD : va_D A (cW cI cL h0 ad n B nb tp ob co 0 rts offs fnd mem fr0 btw snw stw fs0) := hD
  refine lv_aload_n hx hb dX1_copyLiving_20 rfl (lv_at hl 0 rfl) ?_
  refine lv_iconst (v := nI 0) hx hb dX1_copyLiving_21 (by decide +kernel) ?_
  refine va_put (D := D) (ci := 1) (v := .int (nI 0)) (ty := .int) (C := RX1) (T := TX1) (N := 16) hx hb hts in_X1_copyLiving_X1 tyX1 tyX1_ok nmX1 hown hK hP hD hS 0 rfl rfl 13 (by decide) (hts (.fieldLink RX1 79 "OffsetHeap" "objects" "I") (by decide +kernel)) (fun _ h9 => h9) rfl (by decide +kernel) rfl rfl (Nat.le_of_ble_eq_true rfl) dX1_copyLiving_22 (fun H locs hP hD hS => ?_)
  have hP : va_P D vwCl (cW cI cL h0 ad n B nb tp 0 co 0 rts offs fnd mem fr0 btw snw stw fs0) H := hP
  have hD : va_D A (cW cI cL h0 ad n B nb tp 0 co 0 rts offs fnd mem fr0 btw snw stw fs0) := hD
  have bz : ∀ x, x ≤ n → bo fs0 x = false := fun x hx => bo_c0 (hfs0 (x / 64) (by omega))
  have key : ∀ (d : Nat) (frs1 : Nat → Int32) (fsw1 : Nat → Int64) (rd1 ob1 R P i : Nat) (H : Heap) (locs : List Loc) (ls : Array Slot), tp + 1 ≤ i + d → 1 ≤ i → i ≤ tp → R ≤ 15 → P ≤ 100 → CP n tp mem (bo stw) (bo btw) frs1 (bo fsw1) rd1 ob1 i → PH tp mem (bo stw) (bo btw) R P i → va_P D vwCl (cW cI cL h0 ad n B nb tp ob1 co rd1 rts offs fnd mem frs1 btw snw stw fsw1) H → va_D A (cW cI cL h0 ad n B nb tp ob1 co rd1 rts offs fnd mem frs1 btw snw stw fsw1) → va_S A s.heap H locs → lv_has ls 6 [(0, .ref h0), (1, .int (nI R)), (2, .int (nI P)), (3, .int (nI i))] → W p l e (headSpec wsX1_copyLiving ({ frames := 4, cells := 0, slots := 0, locals := 120 })).room s m ([.ref h0] : List Value).toArray below meth c H locs 0 0 (MQ below (va_Qv (fun (u : (Nat → Int32) × (Nat → Int64) × Nat × Nat) => CP n tp mem (bo stw) (bo btw) u.1 (bo u.2.1) u.2.2.1 u.2.2.2 tp) (fun (u : (Nat → Int32) × (Nat → Int64) × Nat × Nat) t => va_P D vwCl (cW cI cL h0 ad n B nb tp u.2.2.2 co u.2.2.1 rts offs fnd mem u.1 btw snw stw u.2.1) t.heap ∧ va_D A (cW cI cL h0 ad n B nb tp u.2.2.2 co u.2.2.1 rts offs fnd mem u.1 btw snw stw u.2.1)) A) ([.ref h0] : List Value).toArray s 0 0 A) (F0 m 31 ls []) := by
    intro d
    induction d with
    | zero =>
      intro frs1 fsw1 rd1 ob1 R P i H locs ls hd hi1 hi2 hR hPb hcp hph hP hD hS hl
      exfalso; omega
    | succ d ih =>
      intro frs1 fsw1 rd1 ob1 R P i H locs ls hd hi1 hi2 hR hPb hcp hph hP hD hS hl
      refine lv_iload_n hx hb dX1_copyLiving_31 rfl (lv_at hl 3 rfl) ?_
      refine lv_aload_n hx hb dX1_copyLiving_32 rfl (lv_at hl 0 rfl) ?_
      refine va_get (D := D) (ci := 1) (v := .int (nI tp)) (C := RX1) (T := TX1) (N := 16) hx hb hts in_X1_copyLiving_X1 hown hK hP 0 rfl rfl 12 (by decide) (hts (.fieldLink RX1 66 "OffsetHeap" "top" "I") (by decide +kernel)) (fun _ h9 => h9) rfl dX1_copyLiving_33 ?_
      refine xk_icmp_ge (tgt := 166) hx hb (by omega) (by omega) dX1_copyLiving_36 (by decide) (fun c36 => ?_) (fun c36 => ?_)
      · exact W.vret hx hb hr (fun t ht hW => ⟨⟨(frs1, fsw1, rd1, ob1), rfl, (by rw [show i = tp by omega] at hcp; exact hcp), by rw [ht]; exact hP, hD⟩, hS.F ht⟩) hS.2.2 dX1_copyLiving_166
      · refine lv_aload_n hx hb dX1_copyLiving_39 rfl (lv_at hl 0 rfl) ?_
        refine va_get (D := D) (ci := 1) (v := .ref (ad 2)) (C := RX1) (T := TX1) (N := 16) hx hb hts in_X1_copyLiving_X1 hown hK hP 0 rfl rfl 4 (by decide) (hts (.fieldLink RX1 41 "OffsetHeap" "bits" "LOffsetHeap$BitRow;") (by decide +kernel)) (fun _ h9 => h9) rfl dX1_copyLiving_40 ?_
        refine lv_iload_n hx hb dX1_copyLiving_43 rfl (lv_at hl 3 rfl) ?_
        refine xk_roV (As := [.int (nI i)]) (rest := []) ⟨hx, hb, hml, hown, hts⟩ (c_has l D cL (ad 2) (ad 3) (n / 64 + 1) btw (by omega) i (by omega) (by omega)) (cwV 1 hts gX1_copyLiving_X0_has rfl rfl rfl (by decide +kernel) ⟨Nat.le_of_ble_eq_true rfl, Nat.le_of_ble_eq_true rfl⟩) (va_recv hK hP (ci := 0) (q0 := 2) rfl rfl) (hP.sub [2, 3] rfl) (hK.sub [1] rfl) rfl hl.1 rfl (Nat.le_of_ble_eq_true rfl) dX1_copyLiving_44 ⟨Nat.zero_le _, Nat.zero_le _⟩ ?_
        refine xk_if_neB (tgt := 53) hx hb dX1_copyLiving_47 (by decide) (fun c47 => ?_) (fun c47 => ?_)
        · have b1 := hL.lt hok (i := i) (by omega)
          refine lv_aload_n hx hb dX1_copyLiving_53 rfl (lv_at hl 0 rfl) ?_
          refine va_get (D := D) (ci := 1) (v := .ref (ad 8)) (C := RX1) (T := TX1) (N := 16) hx hb hts in_X1_copyLiving_X1 hown hK hP 0 rfl rfl 8 (by decide) (hts (.fieldLink RX1 54 "OffsetHeap" "space" "[I") (by decide +kernel)) (fun _ h9 => h9) rfl dX1_copyLiving_54 ?_
          refine lv_iload_n hx hb dX1_copyLiving_57 rfl (lv_at hl 3 rfl) ?_
          refine xk_iald hx hb hK hP 8 0 rfl rfl (by omega) (by omega) dX1_copyLiving_58 ?_
          refine lv_istore (lv' := [(4, .int (mem i)), (0, .ref h0), (1, .int (nI R)), (2, .int (nI P)), (3, .int (nI i))]) hx hb dX1_copyLiving_59 hl (by decide) rfl (fun ls hl => ?_)
          refine lv_aload_n hx hb dX1_copyLiving_61 rfl (lv_at hl 1 rfl) ?_
          refine lv_dup hx hb dX1_copyLiving_62 rfl ?_
          refine va_get (D := D) (ci := 1) (v := .int (nI rd1)) (C := RX1) (T := TX1) (N := 16) hx hb hts in_X1_copyLiving_X1 hown hK hP 0 rfl rfl 15 (by decide) (hts (.fieldLink RX1 125 "OffsetHeap" "wordsRead" "I") (by decide +kernel)) (fun _ h9 => h9) rfl dX1_copyLiving_63 ?_
          refine lv_iconst (v := nI 1) hx hb dX1_copyLiving_66 (by decide +kernel) ?_
          refine lv_iadd hx hb dX1_copyLiving_67 ?_
          refine xk_top (nI_add _ _) ?_
          refine va_put (D := D) (ci := 1) (v := .int (nI (rd1 + 1))) (ty := .int) (C := RX1) (T := TX1) (N := 16) hx hb hts in_X1_copyLiving_X1 tyX1 tyX1_ok nmX1 hown hK hP hD hS 0 rfl rfl 15 (by decide) (hts (.fieldLink RX1 125 "OffsetHeap" "wordsRead" "I") (by decide +kernel)) (fun _ h9 => h9) rfl (by decide +kernel) rfl rfl (Nat.le_of_ble_eq_true rfl) dX1_copyLiving_68 (fun H locs hP hD hS => ?_)
          have hP : va_P D vwCl (cW cI cL h0 ad n B nb tp ob1 co (rd1 + 1) rts offs fnd mem frs1 btw snw stw fsw1) H := hP
          have hD : va_D A (cW cI cL h0 ad n B nb tp ob1 co (rd1 + 1) rts offs fnd mem frs1 btw snw stw fsw1) := hD
          refine lv_aload_n hx hb dX1_copyLiving_71 rfl (lv_at hl 1 rfl) ?_
          refine lv_iload_n hx hb dX1_copyLiving_72 rfl (lv_at hl 4 rfl) ?_
          refine xk_roV (As := [.int (nI i)]) (rest := []) ⟨hx, hb, hml, hown, hts⟩ (c_newAddress l D cI cL h0 ad n B nb tp ob1 co (rd1 + 1) rts offs fnd mem frs1 btw snw stw fsw1 i hn hB hnb hof (by omega)) (cwV 1 hts gX1_copyLiving_X1_newAddress rfl rfl rfl (by decide +kernel) ⟨Nat.le_of_ble_eq_true rfl, Nat.le_of_ble_eq_true rfl⟩) (va_recv hK hP (ci := 1) (q0 := 0) rfl rfl) hP hK rfl hl.1 rfl (Nat.le_of_ble_eq_true rfl) dX1_copyLiving_73 ⟨Nat.zero_le _, Nat.zero_le _⟩ ?_
          refine lv_istore (lv' := [(5, .int (nI (1 + cn (bo btw) i))), (4, .int (mem i)), (0, .ref h0), (1, .int (nI R)), (2, .int (nI P)), (3, .int (nI i))]) hx hb dX1_copyLiving_76 hl (by decide) rfl (fun ls hl => ?_)
          refine lv_iload_n hx hb dX1_copyLiving_78 rfl (lv_at hl 3 rfl) ?_
          refine xk_if_le (tgt := 101) hx hb (by omega) dX1_copyLiving_79 (by decide) (fun c79 => ?_) (fun c79 => ?_)
          · refine lv_iload_n hx hb dX1_copyLiving_101 rfl (lv_at hl 4 rfl) ?_
            refine xk_if_le (tgt := 120) hx hb (by omega) dX1_copyLiving_102 (by decide) (fun c102 => ?_) (fun c102 => ?_)
            · have hst : bo stw i = true := by
                rcases hph with ⟨-, -, w⟩ | ⟨o, o1, o2, o3, o4, o5, o6, eR, eP⟩
                · rcases w (by omega) with w | w
                  · exact w
                  · rw [w] at c47; cases c47
                · exfalso; rw [siz_rfs] at o6; omega
              have hh := hok.hdr (by omega) (by omega) hst
              have hs := hok.hsm (by omega) (by omega) hst
              refine lv_iload hx hb dX1_copyLiving_120 (lv_at hl 1 rfl) ?_
              refine xk_top hh ?_
              refine xk_roS (As := [.int (nI (tn (mem i)))]) (rest := []) ⟨hx, hb, hml, hown, hts⟩ (c_referencesBy l (tn (mem i)) (by omega)) (va_cwS 1 hts gX1_copyLiving_X1_referencesBy rfl rfl rfl (by decide +kernel) ⟨Nat.le_of_ble_eq_true rfl, Nat.le_of_ble_eq_true rfl⟩) rfl hl.1 rfl (Nat.le_of_ble_eq_true rfl) dX1_copyLiving_122 ⟨Nat.zero_le _, Nat.zero_le _⟩ ?_
              refine lv_istore_n (lv' := [(1, .int (nI ((tn (mem i)) / 16 % 16))), (5, .int (nI (1 + cn (bo btw) i))), (4, .int (mem i)), (0, .ref h0), (2, .int (nI P)), (3, .int (nI i))]) hx hb dX1_copyLiving_125 rfl hl (by decide) rfl (fun ls hl => ?_)
              refine lv_iload hx hb dX1_copyLiving_126 (lv_at hl 2 rfl) ?_
              refine xk_top hh ?_
              refine xk_roS (As := [.int (nI (tn (mem i)))]) (rest := []) ⟨hx, hb, hml, hown, hts⟩ (c_plainBy l (tn (mem i)) (by omega)) (va_cwS 1 hts gX1_copyLiving_X1_plainBy rfl rfl rfl (by decide +kernel) ⟨Nat.le_of_ble_eq_true rfl, Nat.le_of_ble_eq_true rfl⟩) rfl hl.1 rfl (Nat.le_of_ble_eq_true rfl) dX1_copyLiving_128 ⟨Nat.zero_le _, Nat.zero_le _⟩ ?_
              refine lv_istore_n (lv' := [(2, .int (nI ((tn (mem i)) / 256))), (1, .int (nI ((tn (mem i)) / 16 % 16))), (5, .int (nI (1 + cn (bo btw) i))), (4, .int (mem i)), (0, .ref h0), (3, .int (nI i))]) hx hb dX1_copyLiving_131 rfl hl (by decide) rfl (fun ls hl => ?_)
              refine lv_aload_n hx hb dX1_copyLiving_132 rfl (lv_at hl 4 rfl) ?_
              refine va_get (D := D) (ci := 1) (v := .ref (ad 9)) (C := RX1) (T := TX1) (N := 16) hx hb hts in_X1_copyLiving_X1 hown hK hP 0 rfl rfl 9 (by decide) (hts (.fieldLink RX1 57 "OffsetHeap" "fresh" "[I") (by decide +kernel)) (fun _ h9 => h9) rfl dX1_copyLiving_133 ?_
              refine lv_iload hx hb dX1_copyLiving_136 (lv_at hl 2 rfl) ?_
              refine lv_iload hx hb dX1_copyLiving_138 (lv_at hl 3 rfl) ?_
              refine xk_top hh ?_
              refine xk_iast hx hb hK hP hD hS 9 0 rfl rfl (by omega) (by omega) dX1_copyLiving_140 (fun H locs hP hD hS => ?_)
              have hP : va_P D vwCl (cW cI cL h0 ad n B nb tp ob1 co (rd1 + 1) rts offs fnd mem (upd frs1 (1 + cn (bo btw) i) (nI (tn (mem i)))) btw snw stw fsw1) H := hP
              have hD : va_D A (cW cI cL h0 ad n B nb tp ob1 co (rd1 + 1) rts offs fnd mem (upd frs1 (1 + cn (bo btw) i) (nI (tn (mem i)))) btw snw stw fsw1) := hD
              refine lv_aload_n hx hb dX1_copyLiving_141 rfl (lv_at hl 4 rfl) ?_
              refine va_get (D := D) (ci := 1) (v := .ref (ad 12)) (C := RX1) (T := TX1) (N := 16) hx hb hts in_X1_copyLiving_X1 hown hK hP 0 rfl rfl 11 (by decide) (hts (.fieldLink RX1 63 "OffsetHeap" "freshStarts" "LOffsetHeap$BitRow;") (by decide +kernel)) (fun _ h9 => h9) rfl dX1_copyLiving_142 ?_
              refine lv_iload hx hb dX1_copyLiving_145 (lv_at hl 2 rfl) ?_
              refine xk_aftv (wr := [(h0, .inr (1, [.int (nI n), .int (nI B), .int (nI nb), .ref (ad 1), .ref (ad 2), .ref (ad 4), .ref (ad 5), .ref (ad 6), .ref (ad 8), .ref (ad 9), .ref (ad 10), .ref (ad 12), .int (nI tp), .int (nI ob1), .int (nI co), .int (nI (rd1 + 1))])), ((ad 1), .inl (cI, 8, .inl rts)), ((ad 2), .inr (0, [.ref (ad 3)])), ((ad 3), .inl (cL, (n / 64 + 1), .inr (.inl btw))), ((ad 4), .inl (cI, nb, .inl offs)), ((ad 5), .inl (cI, n, .inl fnd)), ((ad 6), .inr (0, [.ref (ad 7)])), ((ad 7), .inl (cL, (n / 64 + 1), .inr (.inl snw))), ((ad 8), .inl (cI, (n + 1), .inl mem)), ((ad 9), .inl (cI, (n + 1), .inl (upd frs1 (1 + cn (bo btw) i) (nI (tn (mem i)))))), ((ad 10), .inr (0, [.ref (ad 11)])), ((ad 11), .inl (cL, (n / 64 + 1), .inr (.inl stw)))]) (ws' := fun f2 => cW cI cL h0 ad n B nb tp ob1 co (rd1 + 1) rts offs fnd mem (upd frs1 (1 + cn (bo btw) i) (nI (tn (mem i)))) btw snw stw f2) (va_runV (As := [.int (nI (1 + cn (bo btw) i))]) (rest := []) ⟨hx, hb, hml, hown, hts⟩ (c_put l D cL (ad 12) (ad 13) (n / 64 + 1) fsw1 (by omega) H.size (1 + cn (bo btw) i) (by omega) (by omega)) (cwV 1 hts gX1_copyLiving_X0_put rfl rfl rfl (by decide +kernel) ⟨Nat.le_of_ble_eq_true rfl, Nat.le_of_ble_eq_true rfl⟩) (xk_preV (va_recv hK hP (ci := 0) (q0 := 12) rfl rfl) rfl (hP.sub [12, 13] rfl) (hK.sub [1] rfl) ((hD.sub [12, 13] (by decide) rfl).weaken (fun _ _ _ _ => trivial))) rfl rfl hl.1 rfl (lv_room (Nat.le_of_ble_eq_true rfl)) dX1_copyLiving_147 ⟨Nat.zero_le _, Nat.zero_le _⟩) hP hD hS hA [12, 13] [0, 1, 2, 3, 4, 5, 6, 7, 8, 9, 10, 11] [0, 1, 2, 3, 4, 5, 6, 7, 8, 9, 10, 11, 12, 13] rfl rfl (by decide) (by decide) (fun _ => rfl) (by decide) (fun f2 H locs hf2 hP hD hS => ?_)
              subst hf2
              have hP : va_P D vwCl (cW cI cL h0 ad n B nb tp ob1 co (rd1 + 1) rts offs fnd mem (upd frs1 (1 + cn (bo btw) i) (nI (tn (mem i)))) btw snw stw (bput fsw1 (1 + cn (bo btw) i))) H := hP
              have hD : va_D A (cW cI cL h0 ad n B nb tp ob1 co (rd1 + 1) rts offs fnd mem (upd frs1 (1 + cn (bo btw) i) (nI (tn (mem i)))) btw snw stw (bput fsw1 (1 + cn (bo btw) i))) := hD
              refine lv_aload_n hx hb dX1_copyLiving_150 rfl (lv_at hl 4 rfl) ?_
              refine lv_dup hx hb dX1_copyLiving_151 rfl ?_
              refine va_get (D := D) (ci := 1) (v := .int (nI ob1)) (C := RX1) (T := TX1) (N := 16) hx hb hts in_X1_copyLiving_X1 hown hK hP 0 rfl rfl 13 (by decide) (hts (.fieldLink RX1 79 "OffsetHeap" "objects" "I") (by decide +kernel)) (fun _ h9 => h9) rfl dX1_copyLiving_152 ?_
              refine lv_iconst (v := nI 1) hx hb dX1_copyLiving_155 (by decide +kernel) ?_
              refine lv_iadd hx hb dX1_copyLiving_156 ?_
              refine xk_top (nI_add _ _) ?_
              refine va_put (D := D) (ci := 1) (v := .int (nI (ob1 + 1))) (ty := .int) (C := RX1) (T := TX1) (N := 16) hx hb hts in_X1_copyLiving_X1 tyX1 tyX1_ok nmX1 hown hK hP hD hS 0 rfl rfl 13 (by decide) (hts (.fieldLink RX1 79 "OffsetHeap" "objects" "I") (by decide +kernel)) (fun _ h9 => h9) rfl (by decide +kernel) rfl rfl (Nat.le_of_ble_eq_true rfl) dX1_copyLiving_157 (fun H locs hP hD hS => ?_)
              have hP : va_P D vwCl (cW cI cL h0 ad n B nb tp (ob1 + 1) co (rd1 + 1) rts offs fnd mem (upd frs1 (1 + cn (bo btw) i) (nI (tn (mem i)))) btw snw stw (bput fsw1 (1 + cn (bo btw) i))) H := hP
              have hD : va_D A (cW cI cL h0 ad n B nb tp (ob1 + 1) co (rd1 + 1) rts offs fnd mem (upd frs1 (1 + cn (bo btw) i) (nI (tn (mem i)))) btw snw stw (bput fsw1 (1 + cn (bo btw) i))) := hD
              refine lv_iinc (v := nI (i + 1)) (lv' := [(3, .int (nI (i + 1))), (2, .int (nI ((tn (mem i)) / 256))), (1, .int (nI ((tn (mem i)) / 16 % 16))), (5, .int (nI (1 + cn (bo btw) i))), (4, .int (mem i)), (0, .ref h0)]) hx hb dX1_copyLiving_160 hl (k := 5) rfl (xk_inc i) (by decide) rfl (fun ls hl => ?_)
              refine lv_goto (tgt := 31) hx hb dX1_copyLiving_163 (by decide) ?_
              have w := ph_next hok (by omega) (by omega) hst c47 (Nat.le_refl i) (by have := siz_pos mem i; omega)
              rw [show i + 1 + rfs mem i - (i + 1) = tn (mem i) / 16 % 16 by unfold rfs; omega, show pln mem i - (i + 1 - (i + 1 + rfs mem i)) = tn (mem i) / 256 by unfold pln; omega] at w
              exact ih _ (bput fsw1 (1 + cn (bo btw) i)) _ (ob1 + 1) _ _ (i + 1) H locs ls (by omega) (by omega) (by omega) (by omega) (by omega) (cp_store hcp (by omega) c47 ⟨fun z => absurd ((RW_in hok (by omega) (by omega) hst (Nat.le_refl i) (by have := siz_pos mem i; omega)).mp z) (by omega), fun _ => hh.symm⟩ (fun j hj => by rw [bo_put]; simp only [Bool.or_eq_true, decide_eq_true_eq, hst, true_and]; exact ⟨fun z => z.imp_right Eq.symm, fun z => z.imp_right Eq.symm⟩) (by rw [hst]; rfl)) w hP hD hS (lv_sub hl [5, 2, 1, 0] rfl)
            · obtain ⟨o, o1, o2, o3, o4, o5, o6, eR, eP⟩ := hph.resolve_left (fun z => by have := z.2.1; omega)
              refine lv_iinc (v := nI (P - 1)) (lv' := [(2, .int (nI (P - 1))), (5, .int (nI (1 + cn (bo btw) i))), (4, .int (mem i)), (0, .ref h0), (1, .int (nI R)), (3, .int (nI i))]) hx hb dX1_copyLiving_105 hl (k := 4) rfl (xk_dec (by omega)) (by decide) rfl (fun ls hl => ?_)
              refine lv_aload_n hx hb dX1_copyLiving_108 rfl (lv_at hl 3 rfl) ?_
              refine va_get (D := D) (ci := 1) (v := .ref (ad 9)) (C := RX1) (T := TX1) (N := 16) hx hb hts in_X1_copyLiving_X1 hown hK hP 0 rfl rfl 9 (by decide) (hts (.fieldLink RX1 57 "OffsetHeap" "fresh" "[I") (by decide +kernel)) (fun _ h9 => h9) rfl dX1_copyLiving_109 ?_
              refine lv_iload hx hb dX1_copyLiving_112 (lv_at hl 1 rfl) ?_
              refine lv_iload hx hb dX1_copyLiving_114 (lv_at hl 2 rfl) ?_
              refine xk_iast hx hb hK hP hD hS 9 0 rfl rfl (by omega) (by omega) dX1_copyLiving_116 (fun H locs hP hD hS => ?_)
              have hP : va_P D vwCl (cW cI cL h0 ad n B nb tp ob1 co (rd1 + 1) rts offs fnd mem (upd frs1 (1 + cn (bo btw) i) (mem i)) btw snw stw fsw1) H := hP
              have hD : va_D A (cW cI cL h0 ad n B nb tp ob1 co (rd1 + 1) rts offs fnd mem (upd frs1 (1 + cn (bo btw) i) (mem i)) btw snw stw fsw1) := hD
              refine lv_goto (tgt := 160) hx hb dX1_copyLiving_117 (by decide) ?_
              refine lv_iinc (v := nI (i + 1)) (lv' := [(3, .int (nI (i + 1))), (2, .int (nI (P - 1))), (5, .int (nI (1 + cn (bo btw) i))), (4, .int (mem i)), (0, .ref h0), (1, .int (nI R))]) hx hb dX1_copyLiving_160 hl (k := 5) rfl (xk_inc i) (by decide) rfl (fun ls hl => ?_)
              refine lv_goto (tgt := 31) hx hb dX1_copyLiving_163 (by decide) ?_
              have hgp := hok.gap o1 o2 o3 o5 o6
              have w := ph_next hok o1 o2 o3 o4 (by omega : o ≤ i) o6
              rw [show o + 1 + rfs mem o - (i + 1) = R by omega, show pln mem o - (i + 1 - (o + 1 + rfs mem o)) = P - 1 by omega] at w
              exact ih _ fsw1 _ ob1 R (P - 1) (i + 1) H locs ls (by omega) (by omega) (by omega) hR (by omega) (cp_store hcp (by omega) c47 ⟨fun z => absurd ((RW_in hok o1 o2 o3 (by omega) o6).mp z) (by omega), fun _ => rfl⟩ (fun j hj => ⟨Or.inl, fun z => z.resolve_right (fun y => by rw [hgp] at y; cases y.1)⟩) (by rw [hgp]; rfl)) w hP hD hS (lv_sub hl [4, 5, 1, 0] rfl)
          · obtain ⟨o, o1, o2, o3, o4, o5, o6, eR, eP⟩ := hph.resolve_left (fun z => by have := z.1; omega)
            have hk : i - (o + 1) < rfs mem o := by omega
            have q := hok.refN o1 o2 o3 hk
            rw [show o + 1 + (i - (o + 1)) = i by omega] at q
            have q2 := q.2
            refine lv_iinc (v := nI (R - 1)) (lv' := [(1, .int (nI (R - 1))), (5, .int (nI (1 + cn (bo btw) i))), (4, .int (mem i)), (0, .ref h0), (2, .int (nI P)), (3, .int (nI i))]) hx hb dX1_copyLiving_82 hl (k := 3) rfl (xk_dec (by omega)) (by decide) rfl (fun ls hl => ?_)
            refine lv_aload_n hx hb dX1_copyLiving_85 rfl (lv_at hl 3 rfl) ?_
            refine va_get (D := D) (ci := 1) (v := .ref (ad 9)) (C := RX1) (T := TX1) (N := 16) hx hb hts in_X1_copyLiving_X1 hown hK hP 0 rfl rfl 9 (by decide) (hts (.fieldLink RX1 57 "OffsetHeap" "fresh" "[I") (by decide +kernel)) (fun _ h9 => h9) rfl dX1_copyLiving_86 ?_
            refine lv_iload hx hb dX1_copyLiving_89 (lv_at hl 1 rfl) ?_
            refine lv_aload_n hx hb dX1_copyLiving_91 rfl (lv_at hl 3 rfl) ?_
            refine lv_iload hx hb dX1_copyLiving_92 (lv_at hl 2 rfl) ?_
            refine xk_top q.1 ?_
            refine xk_roV (As := [.int (nI (tn (mem i)))]) (rest := [.int (nI (1 + cn (bo btw) i)), .ref (ad 9)]) ⟨hx, hb, hml, hown, hts⟩ (c_newAddressOrNone l D cI cL h0 ad n B nb tp ob1 co (rd1 + 1) rts offs fnd mem frs1 btw snw stw fsw1 (tn (mem i)) hn hB hnb hof (by omega)) (cwV 1 hts gX1_copyLiving_X1_newAddressOrNone rfl rfl rfl (by decide +kernel) ⟨Nat.le_of_ble_eq_true rfl, Nat.le_of_ble_eq_true rfl⟩) (va_recv hK hP (ci := 1) (q0 := 0) rfl rfl) hP hK rfl hl.1 rfl (Nat.le_of_ble_eq_true rfl) dX1_copyLiving_94 ⟨Nat.zero_le _, Nat.zero_le _⟩ ?_
            refine xk_iast hx hb hK hP hD hS 9 0 rfl rfl (by omega) (by omega) dX1_copyLiving_97 (fun H locs hP hD hS => ?_)
            have hP : va_P D vwCl (cW cI cL h0 ad n B nb tp ob1 co (rd1 + 1) rts offs fnd mem (upd frs1 (1 + cn (bo btw) i) (nI (if tn (mem i) = 0 then 0 else 1 + cn (bo btw) (tn (mem i))))) btw snw stw fsw1) H := hP
            have hD : va_D A (cW cI cL h0 ad n B nb tp ob1 co (rd1 + 1) rts offs fnd mem (upd frs1 (1 + cn (bo btw) i) (nI (if tn (mem i) = 0 then 0 else 1 + cn (bo btw) (tn (mem i))))) btw snw stw fsw1) := hD
            refine lv_goto (tgt := 160) hx hb dX1_copyLiving_98 (by decide) ?_
            refine lv_iinc (v := nI (i + 1)) (lv' := [(3, .int (nI (i + 1))), (1, .int (nI (R - 1))), (5, .int (nI (1 + cn (bo btw) i))), (4, .int (mem i)), (0, .ref h0), (2, .int (nI P))]) hx hb dX1_copyLiving_160 hl (k := 5) rfl (xk_inc i) (by decide) rfl (fun ls hl => ?_)
            refine lv_goto (tgt := 31) hx hb dX1_copyLiving_163 (by decide) ?_
            have hgp := hok.gap o1 o2 o3 o5 o6
            have w := ph_next hok o1 o2 o3 o4 (by omega : o ≤ i) o6
            rw [show o + 1 + rfs mem o - (i + 1) = R - 1 by omega, show pln mem o - (i + 1 - (o + 1 + rfs mem o)) = P by omega] at w
            exact ih _ fsw1 _ ob1 (R - 1) P (i + 1) H locs ls (by omega) (by omega) (by omega) (by omega) hPb (cp_store hcp (by omega) c47 ⟨fun _ => rfl, fun nr => absurd ((RW_in hok o1 o2 o3 (by omega) o6).mpr ⟨o5, by omega⟩) nr⟩ (fun j hj => ⟨Or.inl, fun z => z.resolve_right (fun y => by rw [hgp] at y; cases y.1)⟩) (by rw [hgp]; rfl)) w hP hD hS (lv_sub hl [4, 1, 5, 0] rfl)
        · refine lv_goto (tgt := 160) hx hb dX1_copyLiving_50 (by decide) ?_
          refine lv_iinc (v := nI (i + 1)) (lv' := [(3, .int (nI (i + 1))), (0, .ref h0), (1, .int (nI R)), (2, .int (nI P))]) hx hb dX1_copyLiving_160 hl (k := 3) rfl (xk_inc i) (by decide) rfl (fun ls hl => ?_)
          refine lv_goto (tgt := 31) hx hb dX1_copyLiving_163 (by decide) ?_
          exact ih frs1 fsw1 rd1 ob1 R P (i + 1) H locs ls (by omega) (by omega) (by omega) hR hPb (cp_skip hcp (by omega) c47) (ph_skip hok hL hph (by omega) (by omega) c47) hP hD hS (lv_sub hl [1, 2, 3, 0] rfl)
  refine lv_iconst (v := nI 0) hx hb dX1_copyLiving_25 (by decide +kernel) ?_
  refine lv_istore_n (lv' := [(1, .int (nI 0)), (0, .ref h0)]) hx hb dX1_copyLiving_26 rfl hl (by decide) rfl (fun ls hl => ?_)
  refine lv_iconst (v := nI 0) hx hb dX1_copyLiving_27 (by decide +kernel) ?_
  refine lv_istore_n (lv' := [(2, .int (nI 0)), (1, .int (nI 0)), (0, .ref h0)]) hx hb dX1_copyLiving_28 rfl hl (by decide) rfl (fun ls hl => ?_)
  refine lv_iconst (v := nI 1) hx hb dX1_copyLiving_29 (by decide +kernel) ?_
  refine lv_istore_n (lv' := [(3, .int (nI 1)), (2, .int (nI 0)), (1, .int (nI 0)), (0, .ref h0)]) hx hb dX1_copyLiving_30 rfl hl (by decide) rfl (fun ls hl => ?_)
  exact key tp fr0 fs0 0 0 0 0 1 H locs ls (by omega) (by omega) (by omega) (by omega) (by omega) ⟨⟨by omega, by omega, (cn_0 (fun i hi => by rw [show i = 0 by omega]; exact hL.zero hok)).symm, (cn_0 (fun i hi => by rw [show i = 0 by omega, hL.zero hok]; rfl)).symm⟩, fun j hj hbj => (by rw [show j = 0 by omega, hL.zero hok] at hbj; cases hbj), fun j hj _ => hfr0 j (by omega), fun j hj => by rw [bz j hj]; exact ⟨fun z => absurd z (by decide), fun ⟨t, t1, t2, _⟩ => by rw [show t = 0 by omega, hL.zero hok] at t2; cases t2⟩⟩ (Or.inl ⟨rfl, rfl, fun h => Or.inl (hok.2.1 h)⟩) hP hD hS (lv_sub hl [3, 2, 1, 0] rfl)
set_option maxHeartbeats 4000000 in
set_option maxRecDepth 100000 in
/-- leadRootsAnew -/
theorem c_leadRootsAnew (l : Launch) (D : va_G) (cI cL : ClassId) (h0 : Nat) (ad : Nat → Nat) (n B nb tp ob co rd : Nat) (rts offs fnd mem frs : Nat → Int32) (btw snw stw fsw : Nat → Int64) (sz : Nat) (hn : n ≤ 4000) (hrt : ∀ j, j < 8 → rts j = nI (tn (rts j)) ∧ tn (rts j) ≤ n) (hB : okB B) (hnb : nb = n / B + 1) (hof : offOk B nb offs (bo btw)) : Met l yX1_leadRootsAnew wsX1_leadRootsAnew ({ frames := 4, cells := 0, slots := 0, locals := 120 }) (va_Pc [.ref h0] (fun U => U.heap.size = sz ∧ va_P D vwCl (cW cI cL h0 ad n B nb tp ob co rd rts offs fnd mem frs btw snw stw fsw) U.heap ∧ va_K D vwCl [(cI, .int), (cL, .long)] U ∧ va_D (fun _ => True) (cW cI cL h0 ad n B nb tp ob co rd rts offs fnd mem frs btw snw stw fsw))) (va_Qv (fun (u : Nat → Int32) => ∀ j, j < 8 → u j = nI (if tn (rts j) = 0 then 0 else 1 + cn (bo btw) (tn (rts j)))) (fun (u : Nat → Int32) t => va_P D vwCl (cW cI cL h0 ad n B nb tp ob co rd u offs fnd mem frs btw snw stw fsw) t.heap ∧ va_D (va_A (cW cI cL h0 ad n B nb tp ob co rd rts offs fnd mem frs btw snw stw fsw) sz) (cW cI cL h0 ad n B nb tp ob co rd u offs fnd mem frs btw snw stw fsw)) (va_A (cW cI cL h0 ad n B nb tp ob co rd rts offs fnd mem frs btw snw stw fsw) sz)) 0 0 (va_A (cW cI cL h0 ad n B nb tp ob co rd rts offs fnd mem frs btw snw stw fsw) sz) := by
  refine Met.ofW (cc := cX1_leadRootsAnew) (maxL := 2) (ret := none) (by decide) rfl ?_
  intro p e s m args below meth c s₁ B9 hml hv
  obtain ⟨rfl, hsz, hP, hK, hD0⟩ := hv
  have hx := B9.exec
  have hb := B9.bytes
  have hr := B9.returns
  have hts := atoms_spec (ws := wsX1_leadRootsAnew) B9.pre
  have hown : s.vm.findClass RX1 = some m.cls := findClass_of_methodNamed B9.named
  have hlocks := B9.notSynchronized
  subst hsz
  have hD := hD0.self (sz := s.heap.size)
  generalize hAe : va_A (cW cI cL h0 ad n B nb tp ob co rd rts offs fnd mem frs btw snw stw fsw) s.heap.size = A at hD ⊢
  have hA : ∀ q : Nat, s.heap.size ≤ q → A q := fun q h => by rw [← hAe]; exact Or.inr h
  have hS : va_S A s.heap s.heap [] := va_S.rf
  have hl := lv_entry ([.ref h0]) (n := 2) (Nat.le_of_ble_eq_true rfl)
  rw [lg_entry_eq]
  generalize (lg_sl ([.ref h0]) ++ List.replicate (2 - (lg_sl ([.ref h0])).length) Slot.unset).toArray = ls at hl ⊢
  have hl : lv_has ls 2 [(0, .ref h0)] := hl
  have key : ∀ (d : Nat) (rt1 : Nat → Int32) (i : Nat) (H : Heap) (locs : List Loc) (ls : Array Slot), 9 ≤ i + d → i ≤ 8 → (∀ j, j < i → rt1 j = nI (if tn (rts j) = 0 then 0 else 1 + cn (bo btw) (tn (rts j)))) → (∀ j, i ≤ j → rt1 j = rts j) → va_P D vwCl (cW cI cL h0 ad n B nb tp ob co rd rt1 offs fnd mem frs btw snw stw fsw) H → va_D A (cW cI cL h0 ad n B nb tp ob co rd rt1 offs fnd mem frs btw snw stw fsw) → va_S A s.heap H locs → lv_has ls 2 [(0, .ref h0), (1, .int (nI i))] → W p l e (headSpec wsX1_leadRootsAnew ({ frames := 4, cells := 0, slots := 0, locals := 120 })).room s m ([.ref h0] : List Value).toArray below meth c H locs 0 0 (MQ below (va_Qv (fun (u : Nat → Int32) => ∀ j, j < 8 → u j = nI (if tn (rts j) = 0 then 0 else 1 + cn (bo btw) (tn (rts j)))) (fun (u : Nat → Int32) t => va_P D vwCl (cW cI cL h0 ad n B nb tp ob co rd u offs fnd mem frs btw snw stw fsw) t.heap ∧ va_D A (cW cI cL h0 ad n B nb tp ob co rd u offs fnd mem frs btw snw stw fsw)) A) ([.ref h0] : List Value).toArray s 0 0 A) (F0 m 2 ls []) := by
    intro d
    induction d with
    | zero =>
      intro rt1 i H locs ls hd hi h1 h2 hP hD hS hl
      exfalso; omega
    | succ d ih =>
      intro rt1 i H locs ls hd hi h1 h2 hP hD hS hl
      refine lv_iload_n hx hb dX1_leadRootsAnew_2 rfl (lv_at hl 1 rfl) ?_
      refine lv_bipush (v := nI 8) hx hb dX1_leadRootsAnew_3 (by decide +kernel) ?_
      refine xk_icmp_ge (tgt := 30) hx hb (by omega) (by omega) dX1_leadRootsAnew_5 (by decide) (fun c5 => ?_) (fun c5 => ?_)
      · exact W.vret hx hb hr (fun t ht hW => ⟨⟨rt1, rfl, (fun j hj => h1 j (by omega)), by rw [ht]; exact hP, hD⟩, hS.F ht⟩) hS.2.2 dX1_leadRootsAnew_30
      · have q := hrt i (by omega)
        have q2 := q.2
        refine lv_aload_n hx hb dX1_leadRootsAnew_8 rfl (lv_at hl 0 rfl) ?_
        refine va_get (D := D) (ci := 1) (v := .ref (ad 1)) (C := RX1) (T := TX1) (N := 16) hx hb hts in_X1_leadRootsAnew_X1 hown hK hP 0 rfl rfl 3 (by decide) (hts (.fieldLink RX1 32 "OffsetHeap" "roots" "[I") (by decide +kernel)) (fun _ h9 => h9) rfl dX1_leadRootsAnew_9 ?_
        refine lv_iload_n hx hb dX1_leadRootsAnew_12 rfl (lv_at hl 1 rfl) ?_
        refine lv_aload_n hx hb dX1_leadRootsAnew_13 rfl (lv_at hl 0 rfl) ?_
        refine lv_aload_n hx hb dX1_leadRootsAnew_14 rfl (lv_at hl 0 rfl) ?_
        refine va_get (D := D) (ci := 1) (v := .ref (ad 1)) (C := RX1) (T := TX1) (N := 16) hx hb hts in_X1_leadRootsAnew_X1 hown hK hP 0 rfl rfl 3 (by decide) (hts (.fieldLink RX1 32 "OffsetHeap" "roots" "[I") (by decide +kernel)) (fun _ h9 => h9) rfl dX1_leadRootsAnew_15 ?_
        refine lv_iload_n hx hb dX1_leadRootsAnew_18 rfl (lv_at hl 1 rfl) ?_
        refine xk_iald hx hb hK hP 1 0 rfl rfl (by omega) (by omega) dX1_leadRootsAnew_19 ?_
        refine xk_top ((h2 i (Nat.le_refl i)).trans q.1) ?_
        refine xk_roV (As := [.int (nI (tn (rts i)))]) (rest := [.int (nI i), .ref (ad 1)]) ⟨hx, hb, hml, hown, hts⟩ (c_newAddressOrNone l D cI cL h0 ad n B nb tp ob co rd rt1 offs fnd mem frs btw snw stw fsw (tn (rts i)) hn hB hnb hof (by omega)) (cwV 1 hts gX1_leadRootsAnew_X1_newAddressOrNone rfl rfl rfl (by decide +kernel) ⟨Nat.le_of_ble_eq_true rfl, Nat.le_of_ble_eq_true rfl⟩) (va_recv hK hP (ci := 1) (q0 := 0) rfl rfl) hP hK rfl hl.1 rfl (Nat.le_of_ble_eq_true rfl) dX1_leadRootsAnew_20 ⟨Nat.zero_le _, Nat.zero_le _⟩ ?_
        refine xk_iast hx hb hK hP hD hS 1 0 rfl rfl (by omega) (by omega) dX1_leadRootsAnew_23 (fun H locs hP hD hS => ?_)
        have hP : va_P D vwCl (cW cI cL h0 ad n B nb tp ob co rd (upd rt1 i (nI (if tn (rts i) = 0 then 0 else 1 + cn (bo btw) (tn (rts i))))) offs fnd mem frs btw snw stw fsw) H := hP
        have hD : va_D A (cW cI cL h0 ad n B nb tp ob co rd (upd rt1 i (nI (if tn (rts i) = 0 then 0 else 1 + cn (bo btw) (tn (rts i))))) offs fnd mem frs btw snw stw fsw) := hD
        refine lv_iinc (v := nI (i + 1)) (lv' := [(1, .int (nI (i + 1))), (0, .ref h0)]) hx hb dX1_leadRootsAnew_24 hl (k := 1) rfl (xk_inc i) (by decide) rfl (fun ls hl => ?_)
        refine lv_goto (tgt := 2) hx hb dX1_leadRootsAnew_27 (by decide) ?_
        have w1 : ∀ j, j < i + 1 → upd rt1 i (nI (if tn (rts i) = 0 then 0 else 1 + cn (bo btw) (tn (rts i)))) j = nI (if tn (rts j) = 0 then 0 else 1 + cn (bo btw) (tn (rts j))) := by
          intro j hj
          by_cases z : j = i
          · rw [z]; exact pk_us
          · rw [pk_un z]; exact h1 j (by omega)
        exact ih _ (i + 1) H locs ls (by omega) (by omega) w1 (fun j hj => by rw [pk_un (by omega)]; exact h2 j (by omega)) hP hD hS (lv_sub hl [1, 0] rfl)
  refine lv_iconst (v := nI 0) hx hb dX1_leadRootsAnew_0 (by decide +kernel) ?_
  refine lv_istore_n (lv' := [(1, .int (nI 0)), (0, .ref h0)]) hx hb dX1_leadRootsAnew_1 rfl hl (by decide) rfl (fun ls hl => ?_)
  exact key 9 rts 0 s.heap [] ls (by omega) (by omega) (fun j hj => absurd hj (Nat.not_lt_zero j)) (fun j _ => rfl) hP hD hS (lv_sub hl [1, 0] rfl)
set_option maxHeartbeats 4000000 in
set_option maxRecDepth 100000 in
/-- swapSpaces -/
theorem c_swapSpaces (l : Launch) (D : va_G) (cI cL : ClassId) (h0 : Nat) (ad : Nat → Nat) (n B nb tp ob co rd : Nat) (rts offs fnd mem frs : Nat → Int32) (btw snw stw fsw : Nat → Int64) (sz : Nat) : Met l yX1_swapSpaces wsX1_swapSpaces ({ frames := 0, cells := 0, slots := 0, locals := 0 }) (va_Pc [.ref h0] (fun U => U.heap.size = sz ∧ va_P D vwCl (cW cI cL h0 ad n B nb tp ob co rd rts offs fnd mem frs btw snw stw fsw) U.heap ∧ va_K D vwCl [(cI, .int), (cL, .long)] U ∧ va_D (fun _ => True) (cW cI cL h0 ad n B nb tp ob co rd rts offs fnd mem frs btw snw stw fsw))) (va_Qv (fun (u : Unit) => True) (fun (u : Unit) t => va_P D vwCl (cW cI cL h0 (swA ad) n B nb tp ob co rd rts offs fnd frs mem btw snw fsw stw) t.heap ∧ va_D (va_A (cW cI cL h0 ad n B nb tp ob co rd rts offs fnd mem frs btw snw stw fsw) sz) (cW cI cL h0 (swA ad) n B nb tp ob co rd rts offs fnd frs mem btw snw fsw stw)) (va_A (cW cI cL h0 ad n B nb tp ob co rd rts offs fnd mem frs btw snw stw fsw) sz)) 0 0 (va_A (cW cI cL h0 ad n B nb tp ob co rd rts offs fnd mem frs btw snw stw fsw) sz) := by
  refine Met.ofW (cc := cX1_swapSpaces) (maxL := 3) (ret := none) (by decide) rfl ?_
  intro p e s m args below meth c s₁ B9 hml hv
  obtain ⟨rfl, hsz, hP, hK, hD0⟩ := hv
  have hx := B9.exec
  have hb := B9.bytes
  have hr := B9.returns
  have hts := atoms_spec (ws := wsX1_swapSpaces) B9.pre
  have hown : s.vm.findClass RX1 = some m.cls := findClass_of_methodNamed B9.named
  have hlocks := B9.notSynchronized
  subst hsz
  have hD := hD0.self (sz := s.heap.size)
  generalize hAe : va_A (cW cI cL h0 ad n B nb tp ob co rd rts offs fnd mem frs btw snw stw fsw) s.heap.size = A at hD ⊢
  have hA : ∀ q : Nat, s.heap.size ≤ q → A q := fun q h => by rw [← hAe]; exact Or.inr h
  have hS : va_S A s.heap s.heap [] := va_S.rf
  have hl := lv_entry ([.ref h0]) (n := 3) (Nat.le_of_ble_eq_true rfl)
  rw [lg_entry_eq]
  generalize (lg_sl ([.ref h0]) ++ List.replicate (3 - (lg_sl ([.ref h0])).length) Slot.unset).toArray = ls at hl ⊢
  have hl : lv_has ls 3 [(0, .ref h0)] := hl
  refine lv_aload_n hx hb dX1_swapSpaces_0 rfl (lv_at hl 0 rfl) ?_
  refine va_get (D := D) (ci := 1) (v := .ref (ad 8)) (C := RX1) (T := TX1) (N := 16) hx hb hts in_X1_swapSpaces_X1 hown hK hP 0 rfl rfl 8 (by decide) (hts (.fieldLink RX1 54 "OffsetHeap" "space" "[I") (by decide +kernel)) (fun _ h9 => h9) rfl dX1_swapSpaces_1 ?_
  refine lv_astore_n (lv' := [(1, .ref (ad 8)), (0, .ref h0)]) hx hb dX1_swapSpaces_4 rfl hl (by decide) rfl (fun ls hl => ?_)
  refine lv_aload_n hx hb dX1_swapSpaces_5 rfl (lv_at hl 1 rfl) ?_
  refine lv_aload_n hx hb dX1_swapSpaces_6 rfl (lv_at hl 1 rfl) ?_
  refine va_get (D := D) (ci := 1) (v := .ref (ad 9)) (C := RX1) (T := TX1) (N := 16) hx hb hts in_X1_swapSpaces_X1 hown hK hP 0 rfl rfl 9 (by decide) (hts (.fieldLink RX1 57 "OffsetHeap" "fresh" "[I") (by decide +kernel)) (fun _ h9 => h9) rfl dX1_swapSpaces_7 ?_
  refine va_put (D := D) (ci := 1) (v := .ref (ad 9)) (ty := .array .int) (C := RX1) (T := TX1) (N := 16) hx hb hts in_X1_swapSpaces_X1 tyX1 tyX1_ok nmX1 hown hK hP hD hS 0 rfl rfl 8 (by decide) (hts (.fieldLink RX1 54 "OffsetHeap" "space" "[I") (by decide +kernel)) (fun _ h9 => h9) rfl (by decide +kernel) rfl rfl (Nat.le_of_ble_eq_true rfl) dX1_swapSpaces_10 (fun H locs hP hD hS => ?_)
  have hP : va_P D vwCl [(h0, .inr (1, [.int (nI n), .int (nI B), .int (nI nb), .ref (ad 1), .ref (ad 2), .ref (ad 4), .ref (ad 5), .ref (ad 6), .ref (ad 9), .ref (ad 9), .ref (ad 10), .ref (ad 12), .int (nI tp), .int (nI ob), .int (nI co), .int (nI rd)])), ((ad 1), .inl (cI, 8, .inl rts)), ((ad 2), .inr (0, [.ref (ad 3)])), ((ad 3), .inl (cL, (n / 64 + 1), .inr (.inl btw))), ((ad 4), .inl (cI, nb, .inl offs)), ((ad 5), .inl (cI, n, .inl fnd)), ((ad 6), .inr (0, [.ref (ad 7)])), ((ad 7), .inl (cL, (n / 64 + 1), .inr (.inl snw))), ((ad 8), .inl (cI, (n + 1), .inl mem)), ((ad 9), .inl (cI, (n + 1), .inl frs)), ((ad 10), .inr (0, [.ref (ad 11)])), ((ad 11), .inl (cL, (n / 64 + 1), .inr (.inl stw))), ((ad 12), .inr (0, [.ref (ad 13)])), ((ad 13), .inl (cL, (n / 64 + 1), .inr (.inl fsw)))] H := hP
  have hD : va_D A [(h0, .inr (1, [.int (nI n), .int (nI B), .int (nI nb), .ref (ad 1), .ref (ad 2), .ref (ad 4), .ref (ad 5), .ref (ad 6), .ref (ad 9), .ref (ad 9), .ref (ad 10), .ref (ad 12), .int (nI tp), .int (nI ob), .int (nI co), .int (nI rd)])), ((ad 1), .inl (cI, 8, .inl rts)), ((ad 2), .inr (0, [.ref (ad 3)])), ((ad 3), .inl (cL, (n / 64 + 1), .inr (.inl btw))), ((ad 4), .inl (cI, nb, .inl offs)), ((ad 5), .inl (cI, n, .inl fnd)), ((ad 6), .inr (0, [.ref (ad 7)])), ((ad 7), .inl (cL, (n / 64 + 1), .inr (.inl snw))), ((ad 8), .inl (cI, (n + 1), .inl mem)), ((ad 9), .inl (cI, (n + 1), .inl frs)), ((ad 10), .inr (0, [.ref (ad 11)])), ((ad 11), .inl (cL, (n / 64 + 1), .inr (.inl stw))), ((ad 12), .inr (0, [.ref (ad 13)])), ((ad 13), .inl (cL, (n / 64 + 1), .inr (.inl fsw)))] := hD
  refine lv_aload_n hx hb dX1_swapSpaces_13 rfl (lv_at hl 1 rfl) ?_
  refine lv_aload_n hx hb dX1_swapSpaces_14 rfl (lv_at hl 0 rfl) ?_
  refine va_put (D := D) (ci := 1) (v := .ref (ad 8)) (ty := .array .int) (C := RX1) (T := TX1) (N := 16) hx hb hts in_X1_swapSpaces_X1 tyX1 tyX1_ok nmX1 hown hK hP hD hS 0 rfl rfl 9 (by decide) (hts (.fieldLink RX1 57 "OffsetHeap" "fresh" "[I") (by decide +kernel)) (fun _ h9 => h9) rfl (by decide +kernel) rfl rfl (Nat.le_of_ble_eq_true rfl) dX1_swapSpaces_15 (fun H locs hP hD hS => ?_)
  have hP : va_P D vwCl [(h0, .inr (1, [.int (nI n), .int (nI B), .int (nI nb), .ref (ad 1), .ref (ad 2), .ref (ad 4), .ref (ad 5), .ref (ad 6), .ref (ad 9), .ref (ad 8), .ref (ad 10), .ref (ad 12), .int (nI tp), .int (nI ob), .int (nI co), .int (nI rd)])), ((ad 1), .inl (cI, 8, .inl rts)), ((ad 2), .inr (0, [.ref (ad 3)])), ((ad 3), .inl (cL, (n / 64 + 1), .inr (.inl btw))), ((ad 4), .inl (cI, nb, .inl offs)), ((ad 5), .inl (cI, n, .inl fnd)), ((ad 6), .inr (0, [.ref (ad 7)])), ((ad 7), .inl (cL, (n / 64 + 1), .inr (.inl snw))), ((ad 8), .inl (cI, (n + 1), .inl mem)), ((ad 9), .inl (cI, (n + 1), .inl frs)), ((ad 10), .inr (0, [.ref (ad 11)])), ((ad 11), .inl (cL, (n / 64 + 1), .inr (.inl stw))), ((ad 12), .inr (0, [.ref (ad 13)])), ((ad 13), .inl (cL, (n / 64 + 1), .inr (.inl fsw)))] H := hP
  have hD : va_D A [(h0, .inr (1, [.int (nI n), .int (nI B), .int (nI nb), .ref (ad 1), .ref (ad 2), .ref (ad 4), .ref (ad 5), .ref (ad 6), .ref (ad 9), .ref (ad 8), .ref (ad 10), .ref (ad 12), .int (nI tp), .int (nI ob), .int (nI co), .int (nI rd)])), ((ad 1), .inl (cI, 8, .inl rts)), ((ad 2), .inr (0, [.ref (ad 3)])), ((ad 3), .inl (cL, (n / 64 + 1), .inr (.inl btw))), ((ad 4), .inl (cI, nb, .inl offs)), ((ad 5), .inl (cI, n, .inl fnd)), ((ad 6), .inr (0, [.ref (ad 7)])), ((ad 7), .inl (cL, (n / 64 + 1), .inr (.inl snw))), ((ad 8), .inl (cI, (n + 1), .inl mem)), ((ad 9), .inl (cI, (n + 1), .inl frs)), ((ad 10), .inr (0, [.ref (ad 11)])), ((ad 11), .inl (cL, (n / 64 + 1), .inr (.inl stw))), ((ad 12), .inr (0, [.ref (ad 13)])), ((ad 13), .inl (cL, (n / 64 + 1), .inr (.inl fsw)))] := hD
  refine lv_aload_n hx hb dX1_swapSpaces_18 rfl (lv_at hl 1 rfl) ?_
  refine va_get (D := D) (ci := 1) (v := .ref (ad 10)) (C := RX1) (T := TX1) (N := 16) hx hb hts in_X1_swapSpaces_X1 hown hK hP 0 rfl rfl 10 (by decide) (hts (.fieldLink RX1 60 "OffsetHeap" "starts" "LOffsetHeap$BitRow;") (by decide +kernel)) (fun _ h9 => h9) rfl dX1_swapSpaces_19 ?_
  refine lv_astore_n (lv' := [(2, .ref (ad 10)), (1, .ref (ad 8)), (0, .ref h0)]) hx hb dX1_swapSpaces_22 rfl hl (by decide) rfl (fun ls hl => ?_)
  refine lv_aload_n hx hb dX1_swapSpaces_23 rfl (lv_at hl 2 rfl) ?_
  refine lv_aload_n hx hb dX1_swapSpaces_24 rfl (lv_at hl 2 rfl) ?_
  refine va_get (D := D) (ci := 1) (v := .ref (ad 12)) (C := RX1) (T := TX1) (N := 16) hx hb hts in_X1_swapSpaces_X1 hown hK hP 0 rfl rfl 11 (by decide) (hts (.fieldLink RX1 63 "OffsetHeap" "freshStarts" "LOffsetHeap$BitRow;") (by decide +kernel)) (fun _ h9 => h9) rfl dX1_swapSpaces_25 ?_
  refine va_put (D := D) (ci := 1) (v := .ref (ad 12)) (ty := .object "OffsetHeap$BitRow") (C := RX1) (T := TX1) (N := 16) hx hb hts in_X1_swapSpaces_X1 tyX1 tyX1_ok nmX1 hown hK hP hD hS 0 rfl rfl 10 (by decide) (hts (.fieldLink RX1 60 "OffsetHeap" "starts" "LOffsetHeap$BitRow;") (by decide +kernel)) (fun _ h9 => h9) rfl (by decide +kernel) rfl rfl (Nat.le_of_ble_eq_true rfl) dX1_swapSpaces_28 (fun H locs hP hD hS => ?_)
  have hP : va_P D vwCl [(h0, .inr (1, [.int (nI n), .int (nI B), .int (nI nb), .ref (ad 1), .ref (ad 2), .ref (ad 4), .ref (ad 5), .ref (ad 6), .ref (ad 9), .ref (ad 8), .ref (ad 12), .ref (ad 12), .int (nI tp), .int (nI ob), .int (nI co), .int (nI rd)])), ((ad 1), .inl (cI, 8, .inl rts)), ((ad 2), .inr (0, [.ref (ad 3)])), ((ad 3), .inl (cL, (n / 64 + 1), .inr (.inl btw))), ((ad 4), .inl (cI, nb, .inl offs)), ((ad 5), .inl (cI, n, .inl fnd)), ((ad 6), .inr (0, [.ref (ad 7)])), ((ad 7), .inl (cL, (n / 64 + 1), .inr (.inl snw))), ((ad 8), .inl (cI, (n + 1), .inl mem)), ((ad 9), .inl (cI, (n + 1), .inl frs)), ((ad 10), .inr (0, [.ref (ad 11)])), ((ad 11), .inl (cL, (n / 64 + 1), .inr (.inl stw))), ((ad 12), .inr (0, [.ref (ad 13)])), ((ad 13), .inl (cL, (n / 64 + 1), .inr (.inl fsw)))] H := hP
  have hD : va_D A [(h0, .inr (1, [.int (nI n), .int (nI B), .int (nI nb), .ref (ad 1), .ref (ad 2), .ref (ad 4), .ref (ad 5), .ref (ad 6), .ref (ad 9), .ref (ad 8), .ref (ad 12), .ref (ad 12), .int (nI tp), .int (nI ob), .int (nI co), .int (nI rd)])), ((ad 1), .inl (cI, 8, .inl rts)), ((ad 2), .inr (0, [.ref (ad 3)])), ((ad 3), .inl (cL, (n / 64 + 1), .inr (.inl btw))), ((ad 4), .inl (cI, nb, .inl offs)), ((ad 5), .inl (cI, n, .inl fnd)), ((ad 6), .inr (0, [.ref (ad 7)])), ((ad 7), .inl (cL, (n / 64 + 1), .inr (.inl snw))), ((ad 8), .inl (cI, (n + 1), .inl mem)), ((ad 9), .inl (cI, (n + 1), .inl frs)), ((ad 10), .inr (0, [.ref (ad 11)])), ((ad 11), .inl (cL, (n / 64 + 1), .inr (.inl stw))), ((ad 12), .inr (0, [.ref (ad 13)])), ((ad 13), .inl (cL, (n / 64 + 1), .inr (.inl fsw)))] := hD
  refine lv_aload_n hx hb dX1_swapSpaces_31 rfl (lv_at hl 2 rfl) ?_
  refine lv_aload_n hx hb dX1_swapSpaces_32 rfl (lv_at hl 0 rfl) ?_
  refine va_put (D := D) (ci := 1) (v := .ref (ad 10)) (ty := .object "OffsetHeap$BitRow") (C := RX1) (T := TX1) (N := 16) hx hb hts in_X1_swapSpaces_X1 tyX1 tyX1_ok nmX1 hown hK hP hD hS 0 rfl rfl 11 (by decide) (hts (.fieldLink RX1 63 "OffsetHeap" "freshStarts" "LOffsetHeap$BitRow;") (by decide +kernel)) (fun _ h9 => h9) rfl (by decide +kernel) rfl rfl (Nat.le_of_ble_eq_true rfl) dX1_swapSpaces_33 (fun H locs hP hD hS => ?_)
  have hP : va_P D vwCl [(h0, .inr (1, [.int (nI n), .int (nI B), .int (nI nb), .ref (ad 1), .ref (ad 2), .ref (ad 4), .ref (ad 5), .ref (ad 6), .ref (ad 9), .ref (ad 8), .ref (ad 12), .ref (ad 10), .int (nI tp), .int (nI ob), .int (nI co), .int (nI rd)])), ((ad 1), .inl (cI, 8, .inl rts)), ((ad 2), .inr (0, [.ref (ad 3)])), ((ad 3), .inl (cL, (n / 64 + 1), .inr (.inl btw))), ((ad 4), .inl (cI, nb, .inl offs)), ((ad 5), .inl (cI, n, .inl fnd)), ((ad 6), .inr (0, [.ref (ad 7)])), ((ad 7), .inl (cL, (n / 64 + 1), .inr (.inl snw))), ((ad 8), .inl (cI, (n + 1), .inl mem)), ((ad 9), .inl (cI, (n + 1), .inl frs)), ((ad 10), .inr (0, [.ref (ad 11)])), ((ad 11), .inl (cL, (n / 64 + 1), .inr (.inl stw))), ((ad 12), .inr (0, [.ref (ad 13)])), ((ad 13), .inl (cL, (n / 64 + 1), .inr (.inl fsw)))] H := hP
  have hD : va_D A [(h0, .inr (1, [.int (nI n), .int (nI B), .int (nI nb), .ref (ad 1), .ref (ad 2), .ref (ad 4), .ref (ad 5), .ref (ad 6), .ref (ad 9), .ref (ad 8), .ref (ad 12), .ref (ad 10), .int (nI tp), .int (nI ob), .int (nI co), .int (nI rd)])), ((ad 1), .inl (cI, 8, .inl rts)), ((ad 2), .inr (0, [.ref (ad 3)])), ((ad 3), .inl (cL, (n / 64 + 1), .inr (.inl btw))), ((ad 4), .inl (cI, nb, .inl offs)), ((ad 5), .inl (cI, n, .inl fnd)), ((ad 6), .inr (0, [.ref (ad 7)])), ((ad 7), .inl (cL, (n / 64 + 1), .inr (.inl snw))), ((ad 8), .inl (cI, (n + 1), .inl mem)), ((ad 9), .inl (cI, (n + 1), .inl frs)), ((ad 10), .inr (0, [.ref (ad 11)])), ((ad 11), .inl (cL, (n / 64 + 1), .inr (.inl stw))), ((ad 12), .inr (0, [.ref (ad 13)])), ((ad 13), .inl (cL, (n / 64 + 1), .inr (.inl fsw)))] := hD
  exact W.vret hx hb hr (fun t ht hW => ⟨⟨(), rfl, trivial, by rw [ht]; exact hP.sub [0, 1, 2, 3, 4, 5, 6, 7, 9, 8, 12, 13, 10, 11] rfl, hD.sub [0, 1, 2, 3, 4, 5, 6, 7, 9, 8, 12, 13, 10, 11] (by decide) rfl⟩, hS.F ht⟩) hS.2.2 dX1_swapSpaces_36
set_option maxHeartbeats 4000000 in
set_option maxRecDepth 100000 in
/-- collect -/
theorem c_collect (l : Launch) (D : va_G) (cI cL : ClassId) (h0 : Nat) (ad : Nat → Nat) (n B nb tp ob co rd : Nat) (rts offs fnd mem frs : Nat → Int32) (btw snw stw fsw : Nat → Int64) (sz : Nat) (hn : n ≤ 4000) (hok : okS n tp mem (bo stw) rts) (hB : okB B) (hnb : nb = n / B + 1) : Met l yX1_collect wsX1_collect ({ frames := 5, cells := 0, slots := 0, locals := 150 }) (va_Pc [.ref h0] (fun U => U.heap.size = sz ∧ va_P D vwCl (cW cI cL h0 ad n B nb tp ob co rd rts offs fnd mem frs btw snw stw fsw) U.heap ∧ va_K D vwCl [(cI, .int), (cL, .long)] U ∧ va_D (fun _ => True) (cW cI cL h0 ad n B nb tp ob co rd rts offs fnd mem frs btw snw stw fsw))) (va_Qi (fun (r9 : Int32) (u : (Nat → Int32) × (Nat → Int32) × (Nat → Int32) × (Nat → Int32) × (Nat → Int32) × (Nat → Int64) × (Nat → Int64) × (Nat → Int64) × (Nat → Int64) × Nat × Nat × Nat) => (r9 = nI (cn (bo u.2.2.2.2.2.1) (n + 1)) ∧ u.2.2.2.2.2.2.2.2.2.1 = 1 + cn (bo u.2.2.2.2.2.1) (n + 1) ∧ offOk B nb u.2.1 (bo u.2.2.2.2.2.1)) ∧ okL n mem rts (bo u.2.2.2.2.2.1) ∧ CP n tp mem (bo stw) (bo u.2.2.2.2.2.1) u.2.2.2.1 (bo u.2.2.2.2.2.2.2.1) u.2.2.2.2.2.2.2.2.2.2.2 u.2.2.2.2.2.2.2.2.2.2.1 tp ∧ ∀ j, j < 8 → u.1 j = nI (if tn (rts j) = 0 then 0 else 1 + cn (bo u.2.2.2.2.2.1) (tn (rts j)))) (fun (u : (Nat → Int32) × (Nat → Int32) × (Nat → Int32) × (Nat → Int32) × (Nat → Int32) × (Nat → Int64) × (Nat → Int64) × (Nat → Int64) × (Nat → Int64) × Nat × Nat × Nat) t => va_P D vwCl (cW cI cL h0 (swA ad) n B nb u.2.2.2.2.2.2.2.2.2.1 u.2.2.2.2.2.2.2.2.2.2.1 (co + 1) u.2.2.2.2.2.2.2.2.2.2.2 u.1 u.2.1 u.2.2.1 u.2.2.2.1 u.2.2.2.2.1 u.2.2.2.2.2.1 u.2.2.2.2.2.2.1 u.2.2.2.2.2.2.2.1 u.2.2.2.2.2.2.2.2.1) t.heap ∧ va_D (va_A (cW cI cL h0 ad n B nb tp ob co rd rts offs fnd mem frs btw snw stw fsw) sz) (cW cI cL h0 (swA ad) n B nb u.2.2.2.2.2.2.2.2.2.1 u.2.2.2.2.2.2.2.2.2.2.1 (co + 1) u.2.2.2.2.2.2.2.2.2.2.2 u.1 u.2.1 u.2.2.1 u.2.2.2.1 u.2.2.2.2.1 u.2.2.2.2.2.1 u.2.2.2.2.2.2.1 u.2.2.2.2.2.2.2.1 u.2.2.2.2.2.2.2.2.1)) (va_A (cW cI cL h0 ad n B nb tp ob co rd rts offs fnd mem frs btw snw stw fsw) sz)) 0 0 (va_A (cW cI cL h0 ad n B nb tp ob co rd rts offs fnd mem frs btw snw stw fsw) sz) := by
  refine Met.ofW (cc := cX1_collect) (maxL := 2) (ret := (some .int)) (by decide) rfl ?_
  intro p e s m args below meth c s₁ B9 hml hv
  obtain ⟨rfl, hsz, hP, hK, hD0⟩ := hv
  have hx := B9.exec
  have hb := B9.bytes
  have hr := B9.returns
  have hts := atoms_spec (ws := wsX1_collect) B9.pre
  have hown : s.vm.findClass RX1 = some m.cls := findClass_of_methodNamed B9.named
  have hlocks := B9.notSynchronized
  subst hsz
  have hD := hD0.self (sz := s.heap.size)
  generalize hAe : va_A (cW cI cL h0 ad n B nb tp ob co rd rts offs fnd mem frs btw snw stw fsw) s.heap.size = A at hD ⊢
  have hA : ∀ q : Nat, s.heap.size ≤ q → A q := fun q h => by rw [← hAe]; exact Or.inr h
  have hS : va_S A s.heap s.heap [] := va_S.rf
  have hl := lv_entry ([.ref h0]) (n := 2) (Nat.le_of_ble_eq_true rfl)
  rw [lg_entry_eq]
  generalize (lg_sl ([.ref h0]) ++ List.replicate (2 - (lg_sl ([.ref h0])).length) Slot.unset).toArray = ls at hl ⊢
  have hl : lv_has ls 2 [(0, .ref h0)] := hl
  refine lv_aload_n hx hb dX1_collect_0 rfl (lv_at hl 0 rfl) ?_
  refine xk_aftv (wr := []) (ws' := fun u => cW cI cL h0 ad n B nb tp ob co rd rts offs u.2.1 mem frs u.2.2 u.1 stw fsw) (va_runV (As := []) (rest := []) ⟨hx, hb, hml, hown, hts⟩ (c_markLiving l D cI cL h0 ad n B nb tp ob co rd rts offs fnd mem frs btw snw stw fsw s.heap.size hn hok) (cwV 0 hts gX1_collect_X1_markLiving rfl rfl rfl (by decide +kernel) ⟨Nat.le_of_ble_eq_true rfl, Nat.le_of_ble_eq_true rfl⟩) (xk_preV (va_recv hK hP (ci := 1) (q0 := 0) rfl rfl) rfl hP hK (hD.weaken (fun _ _ _ _ => trivial))) rfl rfl hl.1 rfl (lv_room (Nat.le_of_ble_eq_true rfl)) dX1_collect_1 ⟨Nat.zero_le _, Nat.zero_le _⟩) hP hD hS hA [0, 1, 2, 3, 4, 5, 6, 7, 8, 9, 10, 11, 12, 13] [] [0, 1, 2, 3, 4, 5, 6, 7, 8, 9, 10, 11, 12, 13] rfl rfl (by decide) (by decide) (fun _ => rfl) (by decide) (fun u H locs hpost hP hD hS => ?_)
  obtain ⟨snw1, fnd1, btw1⟩ := u
  have hL : okL n mem rts (bo btw1) := hpost
  have hP : va_P D vwCl (cW cI cL h0 ad n B nb tp ob co rd rts offs fnd1 mem frs btw1 snw1 stw fsw) H := hP
  have hD : va_D A (cW cI cL h0 ad n B nb tp ob co rd rts offs fnd1 mem frs btw1 snw1 stw fsw) := hD
  refine lv_aload_n hx hb dX1_collect_4 rfl (lv_at hl 0 rfl) ?_
  refine xk_afti (wr := []) (ws' := fun u => cW cI cL h0 ad n B nb tp ob co rd rts u fnd1 mem frs btw1 snw1 stw fsw) (va_runV (As := []) (rest := []) ⟨hx, hb, hml, hown, hts⟩ (c_fillOffsets l D cI cL h0 ad n B nb tp ob co rd rts offs fnd1 mem frs btw1 snw1 stw fsw H.size hn hB hnb) (cwV 0 hts gX1_collect_X1_fillOffsets rfl rfl rfl (by decide +kernel) ⟨Nat.le_of_ble_eq_true rfl, Nat.le_of_ble_eq_true rfl⟩) (xk_preV (va_recv hK hP (ci := 1) (q0 := 0) rfl rfl) rfl hP hK (hD.weaken (fun _ _ _ _ => trivial))) rfl rfl hl.1 rfl (lv_room (Nat.le_of_ble_eq_true rfl)) dX1_collect_5 ⟨Nat.zero_le _, Nat.zero_le _⟩) hP hD hS hA [0, 1, 2, 3, 4, 5, 6, 7, 8, 9, 10, 11, 12, 13] [] [0, 1, 2, 3, 4, 5, 6, 7, 8, 9, 10, 11, 12, 13] rfl rfl (by decide) (by decide) (fun _ => rfl) (by decide) (fun r9 u H locs hpost hP hD hS => ?_)
  obtain ⟨offs1, eo⟩ : ∃ z, z = u := ⟨_, rfl⟩
  rw [← eo] at hP hD hpost
  obtain ⟨rfl, hof⟩ := hpost
  have hP : va_P D vwCl (cW cI cL h0 ad n B nb tp ob co rd rts offs1 fnd1 mem frs btw1 snw1 stw fsw) H := hP
  have hD : va_D A (cW cI cL h0 ad n B nb tp ob co rd rts offs1 fnd1 mem frs btw1 snw1 stw fsw) := hD
  refine xk_top (y := nI (cn (bo btw1) (n + 1))) rfl ?_
  refine lv_istore_n (lv' := [(1, .int (nI (cn (bo btw1) (n + 1)))), (0, .ref h0)]) hx hb dX1_collect_8 rfl hl (by decide) rfl (fun ls hl => ?_)
  refine lv_aload_n hx hb dX1_collect_9 rfl (lv_at hl 1 rfl) ?_
  refine xk_aftv (wr := []) (ws' := fun u => cW cI cL h0 ad n B nb tp u.2.2.2 co u.2.2.1 rts offs1 fnd1 mem u.1 btw1 snw1 stw u.2.1) (va_runV (As := []) (rest := []) ⟨hx, hb, hml, hown, hts⟩ (c_copyLiving l D cI cL h0 ad n B nb tp ob co rd rts offs1 fnd1 mem frs btw1 snw1 stw fsw H.size hn hok hB hnb hof hL) (cwV 0 hts gX1_collect_X1_copyLiving rfl rfl rfl (by decide +kernel) ⟨Nat.le_of_ble_eq_true rfl, Nat.le_of_ble_eq_true rfl⟩) (xk_preV (va_recv hK hP (ci := 1) (q0 := 0) rfl rfl) rfl hP hK (hD.weaken (fun _ _ _ _ => trivial))) rfl rfl hl.1 rfl (lv_room (Nat.le_of_ble_eq_true rfl)) dX1_collect_10 ⟨Nat.zero_le _, Nat.zero_le _⟩) hP hD hS hA [0, 1, 2, 3, 4, 5, 6, 7, 8, 9, 10, 11, 12, 13] [] [0, 1, 2, 3, 4, 5, 6, 7, 8, 9, 10, 11, 12, 13] rfl rfl (by decide) (by decide) (fun _ => rfl) (by decide) (fun u H locs hpost hP hD hS => ?_)
  obtain ⟨frs1, fsw1, rd1, ob1⟩ := u
  have hC : CP n tp mem (bo stw) (bo btw1) frs1 (bo fsw1) rd1 ob1 tp := hpost
  have hP : va_P D vwCl (cW cI cL h0 ad n B nb tp ob1 co rd1 rts offs1 fnd1 mem frs1 btw1 snw1 stw fsw1) H := hP
  have hD : va_D A (cW cI cL h0 ad n B nb tp ob1 co rd1 rts offs1 fnd1 mem frs1 btw1 snw1 stw fsw1) := hD
  refine lv_aload_n hx hb dX1_collect_13 rfl (lv_at hl 1 rfl) ?_
  refine xk_aftv (wr := []) (ws' := fun u => cW cI cL h0 ad n B nb tp ob1 co rd1 u offs1 fnd1 mem frs1 btw1 snw1 stw fsw1) (va_runV (As := []) (rest := []) ⟨hx, hb, hml, hown, hts⟩ (c_leadRootsAnew l D cI cL h0 ad n B nb tp ob1 co rd1 rts offs1 fnd1 mem frs1 btw1 snw1 stw fsw1 H.size hn (fun j hj => by have q := hok.rootN hj; have q2 := q.2; have q3 := hok.1.2.1; exact ⟨q.1, by omega⟩) hB hnb hof) (cwV 0 hts gX1_collect_X1_leadRootsAnew rfl rfl rfl (by decide +kernel) ⟨Nat.le_of_ble_eq_true rfl, Nat.le_of_ble_eq_true rfl⟩) (xk_preV (va_recv hK hP (ci := 1) (q0 := 0) rfl rfl) rfl hP hK (hD.weaken (fun _ _ _ _ => trivial))) rfl rfl hl.1 rfl (lv_room (Nat.le_of_ble_eq_true rfl)) dX1_collect_14 ⟨Nat.zero_le _, Nat.zero_le _⟩) hP hD hS hA [0, 1, 2, 3, 4, 5, 6, 7, 8, 9, 10, 11, 12, 13] [] [0, 1, 2, 3, 4, 5, 6, 7, 8, 9, 10, 11, 12, 13] rfl rfl (by decide) (by decide) (fun _ => rfl) (by decide) (fun u H locs hpost hP hD hS => ?_)
  obtain ⟨rt1, er⟩ : ∃ z, z = u := ⟨_, rfl⟩
  rw [← er] at hP hD hpost
  have hRt := hpost
  have hP : va_P D vwCl (cW cI cL h0 ad n B nb tp ob1 co rd1 rt1 offs1 fnd1 mem frs1 btw1 snw1 stw fsw1) H := hP
  have hD : va_D A (cW cI cL h0 ad n B nb tp ob1 co rd1 rt1 offs1 fnd1 mem frs1 btw1 snw1 stw fsw1) := hD
  refine lv_aload_n hx hb dX1_collect_17 rfl (lv_at hl 1 rfl) ?_
  refine xk_aftv (wr := []) (ws' := fun u => cW cI cL h0 (swA ad) n B nb tp ob1 co rd1 rt1 offs1 fnd1 frs1 mem btw1 snw1 fsw1 stw) (va_runV (As := []) (rest := []) ⟨hx, hb, hml, hown, hts⟩ (c_swapSpaces l D cI cL h0 ad n B nb tp ob1 co rd1 rt1 offs1 fnd1 mem frs1 btw1 snw1 stw fsw1 H.size) (cwV 0 hts gX1_collect_X1_swapSpaces rfl rfl rfl (by decide +kernel) ⟨Nat.le_of_ble_eq_true rfl, Nat.le_of_ble_eq_true rfl⟩) (xk_preV (va_recv hK hP (ci := 1) (q0 := 0) rfl rfl) rfl hP hK (hD.weaken (fun _ _ _ _ => trivial))) rfl rfl hl.1 rfl (lv_room (Nat.le_of_ble_eq_true rfl)) dX1_collect_18 ⟨Nat.zero_le _, Nat.zero_le _⟩) hP hD hS hA [0, 1, 2, 3, 4, 5, 6, 7, 8, 9, 10, 11, 12, 13] [] [0, 1, 2, 3, 4, 5, 6, 7, 8, 9, 10, 11, 12, 13] rfl rfl (by decide) (by decide) (fun _ => rfl) (by decide) (fun u H locs hpost hP hD hS => ?_)
  have hP : va_P D vwCl (cW cI cL h0 (swA ad) n B nb tp ob1 co rd1 rt1 offs1 fnd1 frs1 mem btw1 snw1 fsw1 stw) H := hP
  have hD : va_D A (cW cI cL h0 (swA ad) n B nb tp ob1 co rd1 rt1 offs1 fnd1 frs1 mem btw1 snw1 fsw1 stw) := hD
  refine lv_aload_n hx hb dX1_collect_21 rfl (lv_at hl 1 rfl) ?_
  refine lv_iconst (v := nI 1) hx hb dX1_collect_22 (by decide +kernel) ?_
  refine lv_iload_n hx hb dX1_collect_23 rfl (lv_at hl 0 rfl) ?_
  refine lv_iadd hx hb dX1_collect_24 ?_
  refine xk_top (nI_add _ _) ?_
  refine va_put (D := D) (ci := 1) (v := .int (nI (1 + (cn (bo btw1) (n + 1))))) (ty := .int) (C := RX1) (T := TX1) (N := 16) hx hb hts in_X1_collect_X1 tyX1 tyX1_ok nmX1 hown hK hP hD hS 0 rfl rfl 12 (by decide) (hts (.fieldLink RX1 66 "OffsetHeap" "top" "I") (by decide +kernel)) (fun _ h9 => h9) rfl (by decide +kernel) rfl rfl (Nat.le_of_ble_eq_true rfl) dX1_collect_25 (fun H locs hP hD hS => ?_)
  have hP : va_P D vwCl (cW cI cL h0 (swA ad) n B nb (1 + (cn (bo btw1) (n + 1))) ob1 co rd1 rt1 offs1 fnd1 frs1 mem btw1 snw1 fsw1 stw) H := hP
  have hD : va_D A (cW cI cL h0 (swA ad) n B nb (1 + (cn (bo btw1) (n + 1))) ob1 co rd1 rt1 offs1 fnd1 frs1 mem btw1 snw1 fsw1 stw) := hD
  refine lv_aload_n hx hb dX1_collect_28 rfl (lv_at hl 1 rfl) ?_
  refine lv_dup hx hb dX1_collect_29 rfl ?_
  refine va_get (D := D) (ci := 1) (v := .int (nI co)) (C := RX1) (T := TX1) (N := 16) hx hb hts in_X1_collect_X1 hown hK hP 0 rfl rfl 14 (by decide) (hts (.fieldLink RX1 113 "OffsetHeap" "collectings" "I") (by decide +kernel)) (fun _ h9 => h9) rfl dX1_collect_30 ?_
  refine lv_iconst (v := nI 1) hx hb dX1_collect_33 (by decide +kernel) ?_
  refine lv_iadd hx hb dX1_collect_34 ?_
  refine xk_top (nI_add _ _) ?_
  refine va_put (D := D) (ci := 1) (v := .int (nI (co + 1))) (ty := .int) (C := RX1) (T := TX1) (N := 16) hx hb hts in_X1_collect_X1 tyX1 tyX1_ok nmX1 hown hK hP hD hS 0 rfl rfl 14 (by decide) (hts (.fieldLink RX1 113 "OffsetHeap" "collectings" "I") (by decide +kernel)) (fun _ h9 => h9) rfl (by decide +kernel) rfl rfl (Nat.le_of_ble_eq_true rfl) dX1_collect_35 (fun H locs hP hD hS => ?_)
  have hP : va_P D vwCl (cW cI cL h0 (swA ad) n B nb (1 + (cn (bo btw1) (n + 1))) ob1 (co + 1) rd1 rt1 offs1 fnd1 frs1 mem btw1 snw1 fsw1 stw) H := hP
  have hD : va_D A (cW cI cL h0 (swA ad) n B nb (1 + (cn (bo btw1) (n + 1))) ob1 (co + 1) rd1 rt1 offs1 fnd1 frs1 mem btw1 snw1 fsw1 stw) := hD
  refine lv_iload_n hx hb dX1_collect_38 rfl (lv_at hl 0 rfl) ?_
  exact W.iret hx hb hr (fun t ht hW => ⟨⟨_, (rt1, offs1, fnd1, frs1, mem, btw1, snw1, fsw1, stw, 1 + cn (bo btw1) (n + 1), ob1, rd1), rfl, ⟨⟨rfl, rfl, hof⟩, hL, hC, hRt⟩, by rw [ht]; exact hP, hD⟩, hS.F ht⟩) hS.2.2 dX1_collect_39
end
section
/-! the class: its making -/
def clp (x : Int32) : Nat := match nn x with
  | none => 16
  | some a => if a < 16 then 16 else if 4000 < a then 4000 else a
def blk (y : Int32) : Nat := if y = nI 8 then 8 else if y = nI 16 then 16 else if y = nI 64 then 64 else 32
theorem clp_neg {x : Int32} (h : x < 0) : clp x = 16 := by unfold clp; rw [nn_neg h]
theorem clp_nat {a : Nat} (h : a < 2 ^ 31) : clp (nI a) = if a < 16 then 16 else if 4000 < a then 4000 else a := by unfold clp; rw [nn_nat h]
theorem clp_in (x : Int32) : 16 ≤ clp x ∧ clp x ≤ 4000 := by
  rcases xk_sgn x with h | ⟨a, ha, rfl⟩
  · rw [clp_neg h]; omega
  · rw [clp_nat ha]; split <;> (try split) <;> omega
theorem clp_mm (x : Int32) : (if nI 16 < (if x < nI 4000 then x else nI 4000) then (if x < nI 4000 then x else nI 4000) else nI 16) = nI (clp x) := by
  rcases xk_sgn x with h | ⟨a, ha, rfl⟩
  · rw [clp_neg h, if_pos (neg_lt h (by decide)), if_neg (fun q => Int32.lt_asymm q (neg_lt h (by decide)))]
  · rw [clp_nat ha]
    by_cases h1 : a < 4000
    · rw [if_pos (nI_lt h1 (by decide))]
      by_cases h2 : 16 < a
      · rw [if_pos (nI_lt h2 (by omega)), if_neg (by omega), if_neg (by omega)]
      · rw [if_neg (nI_nlt (by omega) (by decide))]
        by_cases h3 : a < 16
        · rw [if_pos h3]
        · rw [if_neg h3, if_neg (by omega), show a = 16 by omega]
    · rw [if_neg (nI_nlt (by omega) (by omega)), if_pos (nI_lt (by decide) (by decide)), if_neg (by omega)]
      by_cases h3 : 4000 < a
      · rw [if_pos h3]
      · rw [if_neg h3, show a = 4000 by omega]
theorem clp_lo {x : Int32} (h : ¬ nI 16 ≤ x) : clp x = 16 := by
  rcases xk_sgn x with q | ⟨a, ha, rfl⟩
  · exact clp_neg q
  · rw [clp_nat ha]
    have : ¬ 16 ≤ a := fun q => h (nI_le q ha)
    rw [if_pos (by omega)]
theorem clp_hi {x : Int32} (h : ¬ x ≤ nI 4000) : clp x = 4000 := by
  rcases xk_sgn x with q | ⟨a, ha, rfl⟩
  · exact absurd (Int32.le_of_lt (neg_lt q (by decide))) h
  · rw [clp_nat ha]
    have : ¬ a ≤ 4000 := fun q => h (nI_le q (by decide))
    rw [if_neg (by omega), if_pos (by omega)]
theorem clp_mid {x : Int32} (h1 : nI 16 ≤ x) (h2 : x ≤ nI 4000) : x = nI (clp x) := by
  rcases xk_sgn x with q | ⟨a, ha, rfl⟩
  · exact absurd h1 (neg_le q (by decide))
  · rw [clp_nat ha]
    have g1 := (nI_leI (by decide) ha).mp h1
    have g2 := (nI_leI ha (by decide)).mp h2
    rw [if_neg (by omega), if_neg (by omega)]
theorem blk_ok (y : Int32) : okB (blk y) := by
  unfold blk okB
  split
  · exact Or.inl rfl
  · split
    · exact Or.inr (Or.inl rfl)
    · split
      · exact Or.inr (Or.inr (Or.inr rfl))
      · exact Or.inr (Or.inr (Or.inl rfl))
theorem blk_yes {y : Int32} (h : decide (y = nI 8 ∨ y = nI 16 ∨ y = nI 32 ∨ y = nI 64) = true) : y = nI (blk y) := by
  simp at h
  rcases h with h | h | h | h <;> subst h <;> rfl
theorem blk_no {y : Int32} (h : decide (y = nI 8 ∨ y = nI 16 ∨ y = nI 32 ∨ y = nI 64) = false) : nI 32 = nI (blk y) := by
  simp at h
  unfold blk
  rw [if_neg h.1, if_neg h.2.1, if_neg h.2.2.2]
theorem okB_nb {B n : Nat} (h : okB B) (hn : n ≤ 4000) : n / B + 1 ≤ 501 ∧ 0 < B ∧ B ≤ 64 := by
  rcases h with h | h | h | h <;> subst h <;> omega
def adL (l : List Nat) : Nat → Nat := fun k => l.getD k 0
theorem in_X1_init_X1 : ∀ w ∈ wsX10, w ∈ wsX1_init := by decide +kernel
theorem in_X1_init_X0 : ∀ w ∈ wsX00, w ∈ wsX1_init := by decide +kernel
set_option maxHeartbeats 4000000 in
set_option maxRecDepth 100000 in
/-- BitRow(n) -/
theorem c_BitRow (l : Launch) (D : va_G) (cL : ClassId) (b n sz : Nat) (hn : n ≤ 4000) : Met l yX0_init wsX0_init ({ frames := 1, cells := 1, slots := 63, locals := 30 }) (va_Pc [.ref b, .int (nI n)] (fun U => U.heap.size = sz ∧ va_P D vwCl [(b, .inr (0, [.null]))] U.heap ∧ va_K D vwCl [(cL, .long)] U ∧ va_D (fun _ => True) [(b, .inr (0, [.null]))])) (va_Qv (fun _ : Nat => True) (fun u t => va_P D vwCl [(b, .inr (0, [.ref u])), (u, .inl (cL, n / 64 + 1, .inr (.inl (fun _ => 0))))] t.heap ∧ va_D (va_A [(b, .inr (0, [.null]))] sz) [(b, .inr (0, [.ref u])), (u, .inl (cL, n / 64 + 1, .inr (.inl (fun _ => 0))))]) (va_A [(b, .inr (0, [.null]))] sz)) 1 63 (va_A [(b, .inr (0, [.null]))] sz) := by
  refine Met.ofW (cc := cX0_init) (maxL := 2) (ret := none) (by decide) rfl ?_
  intro p e s m args below meth c s₁ B9 hml hv
  obtain ⟨rfl, hsz, hP, hK, hD0⟩ := hv
  have hx := B9.exec
  have hb := B9.bytes
  have hr := B9.returns
  have hts := atoms_spec (ws := wsX0_init) B9.pre
  have hown : s.vm.findClass RX0 = some m.cls := findClass_of_methodNamed B9.named
  have hlocks := B9.notSynchronized
  subst hsz
  have hD := hD0.self (sz := s.heap.size)
  generalize hAe : va_A [(b, .inr (0, [.null]))] s.heap.size = A at hD ⊢
  have hA : ∀ q : Nat, s.heap.size ≤ q → A q := fun q h => by rw [← hAe]; exact Or.inr h
  have hS : va_S A s.heap s.heap [] := va_S.rf
  have hl := lv_entry ([.ref b, .int (nI n)]) (n := 2) (Nat.le_of_ble_eq_true rfl)
  rw [lg_entry_eq]
  generalize (lg_sl ([.ref b, .int (nI n)]) ++ List.replicate (2 - (lg_sl ([.ref b, .int (nI n)])).length) Slot.unset).toArray = ls at hl ⊢
  have hl : lv_has ls 2 [(0, .ref b), (1, .int (nI n))] := hl
  have hin : meth.name = "<init>" := (name_of_methodNamed B9.named B9.method).1
  refine lv_aload_n hx hb dX0_init_0 rfl (lv_at hl 0 rfl) ?_
  refine W.objInit hx hb hown (hts (.methodLink RX0 1 objectInit) (by decide +kernel)) (hts (.instanceMethod objectInit) (by decide +kernel)) (hts (.code objectInit ⟨#[0xb1]⟩ 1 none) (by decide +kernel)) rfl (by rw [hml]; exact hl.1) rfl dX0_init_1 (Nat.le_of_ble_eq_true rfl) (Nat.le_of_ble_eq_true rfl) ?_
  refine W.eq (g2 := F0 m 4 ls []) rfl ?_
  refine lv_aload_n hx hb dX0_init_4 rfl (lv_at hl 0 rfl) ?_
  refine lv_iload_n hx hb dX0_init_5 rfl (lv_at hl 1 rfl) ?_
  refine lv_bipush (v := nI 64) hx hb dX0_init_6 (by decide +kernel) ?_
  refine lv_idiv hx hb dX0_init_8 (nI_ne0 (by omega) (by omega)) ?_
  refine xk_top (pk_div (by omega) (by omega) (by omega)) ?_
  refine lv_iconst (v := nI 1) hx hb dX0_init_9 (by decide +kernel) ?_
  refine lv_iadd hx hb dX0_init_10 ?_
  refine xk_top (nI_add _ _) ?_
  refine va_newa (atype := .long) (ty := .long) (N' := (n / 64) + 1) (a0 := ((n / 64) + 1, .inr (.inl (fun _ => 0)))) hx hb (hts (.arrayClass .long) (by decide +kernel)) rfl hK hP hD hS hA (fun _ => rfl) (nI_pos (by omega)) (nI_clamp (by omega)) (by show ((n / 64) + 1) * 8 ≤ 536870912; omega) (Nat.le_of_ble_eq_true rfl) (by show 0 + ((n / 64) + 1) ≤ 63; omega) dX0_init_11 (fun q1 cA9 H hK9 hP hD hS => ?_)
  have eC : cA9 = cL := Option.some.inj ((hK9.2 1 _ rfl).2.symm.trans (hK9.2 0 _ rfl).2)
  rw [eC] at hP hD
  refine W.widen (k := 1) (n := 63) (by omega) (by omega) ?_
  have hP : va_P D vwCl [(b, .inr (0, [.null])), (q1, .inl (cL, ((n / 64) + 1), .inr (.inl (fun _ => 0))))] H := hP
  have hD : va_D A [(b, .inr (0, [.null])), (q1, .inl (cL, ((n / 64) + 1), .inr (.inl (fun _ => 0))))] := hD
  refine va_putF (D := D) (ci := 0) (v := .ref q1) (ty := .array .long) (C := RX0) (T := TX0) (N := 1) hx hb hts in_X0_init_X0 tyX0 tyX0_ok nmX0 hown hK hP hD hS 0 rfl rfl 0 (by decide) (hts (.fieldLink RX0 7 "OffsetHeap$BitRow" "row" "[J") (by decide +kernel)) (fun _ h9 => h9) rfl hin rfl (by decide +kernel) rfl rfl (Nat.le_of_ble_eq_true rfl) dX0_init_13 (fun H locs hP hD hS => ?_)
  have hP : va_P D vwCl [(b, .inr (0, [.ref q1])), (q1, .inl (cL, ((n / 64) + 1), .inr (.inl (fun _ => 0))))] H := hP
  have hD : va_D A [(b, .inr (0, [.ref q1])), (q1, .inl (cL, ((n / 64) + 1), .inr (.inl (fun _ => 0))))] := hD
  exact W.vret hx hb hr (fun t ht hW => ⟨⟨q1, rfl, trivial, by rw [ht]; exact hP, hD⟩, hS.F ht⟩) hS.2.2 dX0_init_16
set_option maxHeartbeats 4000000 in
set_option maxRecDepth 100000 in
/-- OffsetHeap(words, block) -/
theorem c_OffsetHeap (l : Launch) (D : va_G) (cI cL : ClassId) (h0 sz : Nat) (x y : Int32) (n B : Nat) (hnx : n = clp x) (hBy : B = blk y) : Met l yX1_init wsX1_init ({ frames := 2, cells := 13, slots := 12767, locals := 60 }) (va_Pc [.ref h0, .int x, .int y] (fun U => U.heap.size = sz ∧ va_P D vwCl [(h0, .inr (1, [.int 0, .int 0, .int 0, .null, .null, .null, .null, .null, .null, .null, .null, .null, .int 0, .int 0, .int 0, .int 0]))] U.heap ∧ va_K D vwCl [(cI, .int), (cL, .long)] U ∧ va_D (fun _ => True) [(h0, .inr (1, [.int 0, .int 0, .int 0, .null, .null, .null, .null, .null, .null, .null, .null, .null, .int 0, .int 0, .int 0, .int 0]))])) (va_Qv (fun _ : Nat → Nat => True) (fun u t => va_P D vwCl (cW cI cL h0 u n B (n / B + 1) 1 0 0 0 (fun _ => 0) (fun _ => 0) (fun _ => 0) (fun _ => 0) (fun _ => 0) (fun _ => 0) (fun _ => 0) (fun _ => 0) (fun _ => 0)) t.heap ∧ va_D (va_A [(h0, .inr (1, [.int 0, .int 0, .int 0, .null, .null, .null, .null, .null, .null, .null, .null, .null, .int 0, .int 0, .int 0, .int 0]))] sz) (cW cI cL h0 u n B (n / B + 1) 1 0 0 0 (fun _ => 0) (fun _ => 0) (fun _ => 0) (fun _ => 0) (fun _ => 0) (fun _ => 0) (fun _ => 0) (fun _ => 0) (fun _ => 0))) (va_A [(h0, .inr (1, [.int 0, .int 0, .int 0, .null, .null, .null, .null, .null, .null, .null, .null, .null, .int 0, .int 0, .int 0, .int 0]))] sz)) 13 12767 (va_A [(h0, .inr (1, [.int 0, .int 0, .int 0, .null, .null, .null, .null, .null, .null, .null, .null, .null, .int 0, .int 0, .int 0, .int 0]))] sz) := by
  refine Met.ofW (cc := cX1_init) (maxL := 3) (ret := none) (by decide) rfl ?_
  intro p e s m args below meth c s₁ B9 hml hv
  obtain ⟨rfl, hsz, hP, hK, hD0⟩ := hv
  have hx := B9.exec
  have hb := B9.bytes
  have hr := B9.returns
  have hts := atoms_spec (ws := wsX1_init) B9.pre
  have hown : s.vm.findClass RX1 = some m.cls := findClass_of_methodNamed B9.named
  have hlocks := B9.notSynchronized
  subst hsz
  have hD := hD0.self (sz := s.heap.size)
  generalize hAe : va_A [(h0, .inr (1, [.int 0, .int 0, .int 0, .null, .null, .null, .null, .null, .null, .null, .null, .null, .int 0, .int 0, .int 0, .int 0]))] s.heap.size = A at hD ⊢
  have hA : ∀ q : Nat, s.heap.size ≤ q → A q := fun q h => by rw [← hAe]; exact Or.inr h
  have hS : va_S A s.heap s.heap [] := va_S.rf
  have hl := lv_entry ([.ref h0, .int x, .int y]) (n := 3) (Nat.le_of_ble_eq_true rfl)
  rw [lg_entry_eq]
  generalize (lg_sl ([.ref h0, .int x, .int y]) ++ List.replicate (3 - (lg_sl ([.ref h0, .int x, .int y])).length) Slot.unset).toArray = ls at hl ⊢
  have hl : lv_has ls 3 [(0, .ref h0), (1, .int x), (2, .int y)] := hl
  have hin : meth.name = "<init>" := (name_of_methodNamed B9.named B9.method).1
  obtain ⟨hn1, hn⟩ := clp_in x
  rw [← hnx] at hn1 hn
  have hB := blk_ok y
  rw [← hBy] at hB
  obtain ⟨hb1, hb2, hb3⟩ := okB_nb hB hn
  have hb4 : n / B ≤ n := Nat.div_le_self _ _
  refine lv_aload_n hx hb dX1_init_0 rfl (lv_at hl 0 rfl) ?_
  refine W.objInit hx hb hown (hts (.methodLink RX1 1 objectInit) (by decide +kernel)) (hts (.instanceMethod objectInit) (by decide +kernel)) (hts (.code objectInit ⟨#[0xb1]⟩ 1 none) (by decide +kernel)) rfl (by rw [hml]; exact hl.1) rfl dX1_init_1 (Nat.le_of_ble_eq_true rfl) (Nat.le_of_ble_eq_true rfl) ?_
  refine W.eq (g2 := F0 m 4 ls []) rfl ?_
  refine lv_aload_n hx hb dX1_init_4 rfl (lv_at hl 0 rfl) ?_
  refine lv_bipush (v := nI 16) hx hb dX1_init_5 (by decide +kernel) ?_
  refine lv_sipush (v := nI 4000) hx hb dX1_init_7 (by decide +kernel) ?_
  refine lv_iload_n hx hb dX1_init_10 rfl (lv_at hl 1 rfl) ?_
  refine va_mmin hx hb (hml.trans hl.1.symm) hown (hts (.methodLink RX1 9 Lib.Math.min.name) (by decide +kernel)) (hts (.static Lib.Math.min.name) (by decide +kernel)) (hts (.initialized "java/lang/Math") (by decide +kernel)) (hts (.code Lib.Math.min.name Lib.Math.min.code 2 (some .int)) (by decide +kernel)) (Nat.le_of_ble_eq_true rfl) (Nat.le_of_ble_eq_true rfl) (Nat.zero_le _) (Nat.zero_le _) dX1_init_11 ?_
  refine va_mmax hx hb (hml.trans hl.1.symm) hown (hts (.methodLink RX1 15 Lib.Math.max.name) (by decide +kernel)) (hts (.static Lib.Math.max.name) (by decide +kernel)) (hts (.initialized "java/lang/Math") (by decide +kernel)) (hts (.code Lib.Math.max.name Lib.Math.max.code 2 (some .int)) (by decide +kernel)) (Nat.le_of_ble_eq_true rfl) (Nat.le_of_ble_eq_true rfl) (Nat.zero_le _) (Nat.zero_le _) dX1_init_14 ?_
  refine xk_top (y := nI n) (by rw [hnx]; exact clp_mm x) ?_
  refine va_putF (D := D) (ci := 1) (v := .int (nI n)) (ty := .int) (C := RX1) (T := TX1) (N := 16) hx hb hts in_X1_init_X1 tyX1 tyX1_ok nmX1 hown hK hP hD hS 0 rfl rfl 0 (by decide) (hts (.fieldLink RX1 18 "OffsetHeap" "last" "I") (by decide +kernel)) (fun _ h9 => h9) rfl hin rfl (by decide +kernel) rfl rfl (Nat.le_of_ble_eq_true rfl) dX1_init_17 (fun H locs hP hD hS => ?_)
  have hP : va_P D vwCl [(h0, .inr (1, [.int (nI n), .int 0, .int 0, .null, .null, .null, .null, .null, .null, .null, .null, .null, .int 0, .int 0, .int 0, .int 0]))] H := hP
  have hD : va_D A [(h0, .inr (1, [.int (nI n), .int 0, .int 0, .null, .null, .null, .null, .null, .null, .null, .null, .null, .int 0, .int 0, .int 0, .int 0]))] := hD
  refine lv_aload_n hx hb dX1_init_20 rfl (lv_at hl 0 rfl) ?_
  refine lv_iload_n hx hb dX1_init_21 rfl (lv_at hl 2 rfl) ?_
  refine xk_roS (As := [.int y]) (rest := [.ref h0]) ⟨hx, hb, hml, hown, hts⟩ (c_isBlockSize l y) (va_cwS 1 hts gX1_init_X1_isBlockSize rfl rfl rfl (by decide +kernel) ⟨Nat.le_of_ble_eq_true rfl, Nat.le_of_ble_eq_true rfl⟩) rfl hl.1 rfl (Nat.le_of_ble_eq_true rfl) dX1_init_22 ⟨Nat.zero_le _, Nat.zero_le _⟩ ?_
  refine xk_if_eqB (tgt := 32) hx hb dX1_init_25 (by decide) (fun c25 => ?_) (fun c25 => ?_)
  · refine lv_bipush (v := nI 32) hx hb dX1_init_32 (by decide +kernel) ?_
    refine xk_top (y := nI B) (by rw [hBy]; exact blk_no c25) ?_
    refine va_putF (D := D) (ci := 1) (v := .int (nI B)) (ty := .int) (C := RX1) (T := TX1) (N := 16) hx hb hts in_X1_init_X1 tyX1 tyX1_ok nmX1 hown hK hP hD hS 0 rfl rfl 1 (by decide) (hts (.fieldLink RX1 26 "OffsetHeap" "blockWords" "I") (by decide +kernel)) (fun _ h9 => h9) rfl hin rfl (by decide +kernel) rfl rfl (Nat.le_of_ble_eq_true rfl) dX1_init_34 (fun H locs hP hD hS => ?_)
    have hP : va_P D vwCl [(h0, .inr (1, [.int (nI n), .int (nI B), .int 0, .null, .null, .null, .null, .null, .null, .null, .null, .null, .int 0, .int 0, .int 0, .int 0]))] H := hP
    have hD : va_D A [(h0, .inr (1, [.int (nI n), .int (nI B), .int 0, .null, .null, .null, .null, .null, .null, .null, .null, .null, .int 0, .int 0, .int 0, .int 0]))] := hD
    refine lv_aload_n hx hb dX1_init_37 rfl (lv_at hl 0 rfl) ?_
    refine lv_aload_n hx hb dX1_init_38 rfl (lv_at hl 0 rfl) ?_
    refine va_get (D := D) (ci := 1) (v := .int (nI n)) (C := RX1) (T := TX1) (N := 16) hx hb hts in_X1_init_X1 hown hK hP 0 rfl rfl 0 (by decide) (hts (.fieldLink RX1 18 "OffsetHeap" "last" "I") (by decide +kernel)) (fun _ h9 => h9) rfl dX1_init_39 ?_
    refine lv_aload_n hx hb dX1_init_42 rfl (lv_at hl 0 rfl) ?_
    refine va_get (D := D) (ci := 1) (v := .int (nI B)) (C := RX1) (T := TX1) (N := 16) hx hb hts in_X1_init_X1 hown hK hP 0 rfl rfl 1 (by decide) (hts (.fieldLink RX1 26 "OffsetHeap" "blockWords" "I") (by decide +kernel)) (fun _ h9 => h9) rfl dX1_init_43 ?_
    refine lv_idiv hx hb dX1_init_46 (nI_ne0 (by omega) (by omega)) ?_
    refine xk_top (pk_div (by omega) (by omega) (by omega)) ?_
    refine lv_iconst (v := nI 1) hx hb dX1_init_47 (by decide +kernel) ?_
    refine lv_iadd hx hb dX1_init_48 ?_
    refine xk_top (nI_add _ _) ?_
    refine va_putF (D := D) (ci := 1) (v := .int (nI ((n / B) + 1))) (ty := .int) (C := RX1) (T := TX1) (N := 16) hx hb hts in_X1_init_X1 tyX1 tyX1_ok nmX1 hown hK hP hD hS 0 rfl rfl 2 (by decide) (hts (.fieldLink RX1 29 "OffsetHeap" "blocks" "I") (by decide +kernel)) (fun _ h9 => h9) rfl hin rfl (by decide +kernel) rfl rfl (Nat.le_of_ble_eq_true rfl) dX1_init_49 (fun H locs hP hD hS => ?_)
    have hP : va_P D vwCl [(h0, .inr (1, [.int (nI n), .int (nI B), .int (nI ((n / B) + 1)), .null, .null, .null, .null, .null, .null, .null, .null, .null, .int 0, .int 0, .int 0, .int 0]))] H := hP
    have hD : va_D A [(h0, .inr (1, [.int (nI n), .int (nI B), .int (nI ((n / B) + 1)), .null, .null, .null, .null, .null, .null, .null, .null, .null, .int 0, .int 0, .int 0, .int 0]))] := hD
    refine lv_aload_n hx hb dX1_init_52 rfl (lv_at hl 0 rfl) ?_
    refine lv_bipush (v := nI 8) hx hb dX1_init_53 (by decide +kernel) ?_
    refine va_newa (atype := .int) (ty := .int) (N' := 8) (a0 := (8, .inl (fun _ => 0))) hx hb (hts (.arrayClass .int) (by decide +kernel)) rfl hK hP hD hS hA (fun _ => rfl) (nI_pos (by omega)) (nI_clamp (by omega)) (by show 8 * 4 ≤ 536870912; omega) (Nat.le_of_ble_eq_true rfl) (by show 0 + 8 ≤ 12767; omega) dX1_init_55 (fun q1 cA9 H hK9 hP hD hS => ?_)
    have eC : cA9 = cI := Option.some.inj ((hK9.2 2 _ rfl).2.symm.trans (hK9.2 0 _ rfl).2)
    rw [eC] at hP hD
    refine W.widen (k := 1) (n := 8) (by omega) (by omega) ?_
    have hP : va_P D vwCl [(h0, .inr (1, [.int (nI n), .int (nI B), .int (nI ((n / B) + 1)), .null, .null, .null, .null, .null, .null, .null, .null, .null, .int 0, .int 0, .int 0, .int 0])), (q1, .inl (cI, 8, .inl (fun _ => 0)))] H := hP
    have hD : va_D A [(h0, .inr (1, [.int (nI n), .int (nI B), .int (nI ((n / B) + 1)), .null, .null, .null, .null, .null, .null, .null, .null, .null, .int 0, .int 0, .int 0, .int 0])), (q1, .inl (cI, 8, .inl (fun _ => 0)))] := hD
    refine va_putF (D := D) (ci := 1) (v := .ref q1) (ty := .array .int) (C := RX1) (T := TX1) (N := 16) hx hb hts in_X1_init_X1 tyX1 tyX1_ok nmX1 hown hK hP hD hS 0 rfl rfl 3 (by decide) (hts (.fieldLink RX1 32 "OffsetHeap" "roots" "[I") (by decide +kernel)) (fun _ h9 => h9) rfl hin rfl (by decide +kernel) rfl rfl (Nat.le_of_ble_eq_true rfl) dX1_init_57 (fun H locs hP hD hS => ?_)
    have hP : va_P D vwCl [(h0, .inr (1, [.int (nI n), .int (nI B), .int (nI ((n / B) + 1)), .ref q1, .null, .null, .null, .null, .null, .null, .null, .null, .int 0, .int 0, .int 0, .int 0])), (q1, .inl (cI, 8, .inl (fun _ => 0)))] H := hP
    have hD : va_D A [(h0, .inr (1, [.int (nI n), .int (nI B), .int (nI ((n / B) + 1)), .ref q1, .null, .null, .null, .null, .null, .null, .null, .null, .int 0, .int 0, .int 0, .int 0])), (q1, .inl (cI, 8, .inl (fun _ => 0)))] := hD
    refine lv_aload_n hx hb dX1_init_60 rfl (lv_at hl 0 rfl) ?_
    refine va_new (ci := 0) (fs := [.null]) (C := RX0) (T := TX0) (N := 1) hx hb hts in_X1_init_X0 tyX0 tyX0_ok hown (hts (.classLink RX1 36 RX0) (by decide +kernel)) (hts (.instantiable RX0 1) (by decide +kernel)) (hts (.initialized RX0) (by decide +kernel)) hK hP hD hS hA rfl (fun j hj => by rcases (show j = 0 by omega) with rfl; rfl) (Nat.le_of_ble_eq_true rfl) (Nat.le_of_ble_eq_true rfl) dX1_init_61 (fun q2 H hP hD hS => ?_)
    refine W.widen (k := 2) (n := 9) (by omega) (by omega) ?_
    have hP : va_P D vwCl [(h0, .inr (1, [.int (nI n), .int (nI B), .int (nI ((n / B) + 1)), .ref q1, .null, .null, .null, .null, .null, .null, .null, .null, .int 0, .int 0, .int 0, .int 0])), (q1, .inl (cI, 8, .inl (fun _ => 0))), (q2, .inr (0, [.null]))] H := hP
    have hD : va_D A [(h0, .inr (1, [.int (nI n), .int (nI B), .int (nI ((n / B) + 1)), .ref q1, .null, .null, .null, .null, .null, .null, .null, .null, .int 0, .int 0, .int 0, .int 0])), (q1, .inl (cI, 8, .inl (fun _ => 0))), (q2, .inr (0, [.null]))] := hD
    refine lv_dup hx hb dX1_init_64 rfl ?_
    refine lv_aload_n hx hb dX1_init_65 rfl (lv_at hl 0 rfl) ?_
    refine va_get (D := D) (ci := 1) (v := .int (nI n)) (C := RX1) (T := TX1) (N := 16) hx hb hts in_X1_init_X1 hown hK hP 0 rfl rfl 0 (by decide) (hts (.fieldLink RX1 18 "OffsetHeap" "last" "I") (by decide +kernel)) (fun _ h9 => h9) rfl dX1_init_66 ?_
    refine xk_aftv (wr := [(h0, .inr (1, [.int (nI n), .int (nI B), .int (nI ((n / B) + 1)), .ref q1, .null, .null, .null, .null, .null, .null, .null, .null, .int 0, .int 0, .int 0, .int 0])), (q1, .inl (cI, 8, .inl (fun _ => 0)))]) (ws' := fun u => [(h0, .inr (1, [.int (nI n), .int (nI B), .int (nI ((n / B) + 1)), .ref q1, .null, .null, .null, .null, .null, .null, .null, .null, .int 0, .int 0, .int 0, .int 0])), (q1, .inl (cI, 8, .inl (fun _ => 0))), (q2, .inr (0, [.ref u])), (u, .inl (cL, (n / 64 + 1), .inr (.inl (fun _ => 0))))]) (va_runI (As := [.int (nI n)]) (rest := [.ref q2, .ref h0]) ⟨hx, hb, hml, hown, hts⟩ (c_BitRow l D cL q2 n H.size hn) (cwI 1 hts gX1_init_X0_init rfl rfl rfl (hts (.initialized RX0) (by decide +kernel)) (hts (.methodLink RX1 38 yX0_init) (by decide +kernel)) (hts (.instanceMethod yX0_init) (by decide +kernel)) rfl (by decide +kernel) ⟨Nat.le_of_ble_eq_true rfl, Nat.le_of_ble_eq_true rfl⟩) (xk_preS rfl (hP.sub [2] rfl) (hK.sub [1] rfl) ((hD.sub [2] (by decide) rfl).weaken (fun _ _ _ _ => trivial))) rfl rfl hl.1 rfl (lv_room (Nat.le_of_ble_eq_true rfl)) dX1_init_69 ⟨Nat.le_of_ble_eq_true rfl, Nat.le_of_ble_eq_true rfl⟩) hP hD hS hA [2] [0, 1] [0, 1, 2, 3] rfl rfl (by decide) (by decide) (fun _ => rfl) (by decide) (fun q3 H locs _ hP hD hS => ?_)
    refine W.widen (k := 3) (n := 72) (by decide) (by decide) ?_
    have hP : va_P D vwCl [(h0, .inr (1, [.int (nI n), .int (nI B), .int (nI ((n / B) + 1)), .ref q1, .null, .null, .null, .null, .null, .null, .null, .null, .int 0, .int 0, .int 0, .int 0])), (q1, .inl (cI, 8, .inl (fun _ => 0))), (q2, .inr (0, [.ref q3])), (q3, .inl (cL, (n / 64 + 1), .inr (.inl (fun _ => 0))))] H := hP
    have hD : va_D A [(h0, .inr (1, [.int (nI n), .int (nI B), .int (nI ((n / B) + 1)), .ref q1, .null, .null, .null, .null, .null, .null, .null, .null, .int 0, .int 0, .int 0, .int 0])), (q1, .inl (cI, 8, .inl (fun _ => 0))), (q2, .inr (0, [.ref q3])), (q3, .inl (cL, (n / 64 + 1), .inr (.inl (fun _ => 0))))] := hD
    refine va_putF (D := D) (ci := 1) (v := .ref q2) (ty := .object "OffsetHeap$BitRow") (C := RX1) (T := TX1) (N := 16) hx hb hts in_X1_init_X1 tyX1 tyX1_ok nmX1 hown hK hP hD hS 0 rfl rfl 4 (by decide) (hts (.fieldLink RX1 41 "OffsetHeap" "bits" "LOffsetHeap$BitRow;") (by decide +kernel)) (fun _ h9 => h9) rfl hin rfl (by decide +kernel) rfl rfl (Nat.le_of_ble_eq_true rfl) dX1_init_72 (fun H locs hP hD hS => ?_)
    have hP : va_P D vwCl [(h0, .inr (1, [.int (nI n), .int (nI B), .int (nI ((n / B) + 1)), .ref q1, .ref q2, .null, .null, .null, .null, .null, .null, .null, .int 0, .int 0, .int 0, .int 0])), (q1, .inl (cI, 8, .inl (fun _ => 0))), (q2, .inr (0, [.ref q3])), (q3, .inl (cL, (n / 64 + 1), .inr (.inl (fun _ => 0))))] H := hP
    have hD : va_D A [(h0, .inr (1, [.int (nI n), .int (nI B), .int (nI ((n / B) + 1)), .ref q1, .ref q2, .null, .null, .null, .null, .null, .null, .null, .int 0, .int 0, .int 0, .int 0])), (q1, .inl (cI, 8, .inl (fun _ => 0))), (q2, .inr (0, [.ref q3])), (q3, .inl (cL, (n / 64 + 1), .inr (.inl (fun _ => 0))))] := hD
    refine lv_aload_n hx hb dX1_init_75 rfl (lv_at hl 0 rfl) ?_
    refine lv_aload_n hx hb dX1_init_76 rfl (lv_at hl 0 rfl) ?_
    refine va_get (D := D) (ci := 1) (v := .int (nI ((n / B) + 1))) (C := RX1) (T := TX1) (N := 16) hx hb hts in_X1_init_X1 hown hK hP 0 rfl rfl 2 (by decide) (hts (.fieldLink RX1 29 "OffsetHeap" "blocks" "I") (by decide +kernel)) (fun _ h9 => h9) rfl dX1_init_77 ?_
    refine va_newa (atype := .int) (ty := .int) (N' := (n / B) + 1) (a0 := ((n / B) + 1, .inl (fun _ => 0))) hx hb (hts (.arrayClass .int) (by decide +kernel)) rfl hK hP hD hS hA (fun _ => rfl) (nI_pos (by omega)) (nI_clamp (by omega)) (by show ((n / B) + 1) * 4 ≤ 536870912; omega) (Nat.le_of_ble_eq_true rfl) (by show 72 + ((n / B) + 1) ≤ 12767; omega) dX1_init_80 (fun q4 cA9 H hK9 hP hD hS => ?_)
    have eC : cA9 = cI := Option.some.inj ((hK9.2 2 _ rfl).2.symm.trans (hK9.2 0 _ rfl).2)
    rw [eC] at hP hD
    refine W.widen (k := 4) (n := 573) (by omega) (by omega) ?_
    have hP : va_P D vwCl [(h0, .inr (1, [.int (nI n), .int (nI B), .int (nI ((n / B) + 1)), .ref q1, .ref q2, .null, .null, .null, .null, .null, .null, .null, .int 0, .int 0, .int 0, .int 0])), (q1, .inl (cI, 8, .inl (fun _ => 0))), (q2, .inr (0, [.ref q3])), (q3, .inl (cL, (n / 64 + 1), .inr (.inl (fun _ => 0)))), (q4, .inl (cI, ((n / B) + 1), .inl (fun _ => 0)))] H := hP
    have hD : va_D A [(h0, .inr (1, [.int (nI n), .int (nI B), .int (nI ((n / B) + 1)), .ref q1, .ref q2, .null, .null, .null, .null, .null, .null, .null, .int 0, .int 0, .int 0, .int 0])), (q1, .inl (cI, 8, .inl (fun _ => 0))), (q2, .inr (0, [.ref q3])), (q3, .inl (cL, (n / 64 + 1), .inr (.inl (fun _ => 0)))), (q4, .inl (cI, ((n / B) + 1), .inl (fun _ => 0)))] := hD
    refine va_putF (D := D) (ci := 1) (v := .ref q4) (ty := .array .int) (C := RX1) (T := TX1) (N := 16) hx hb hts in_X1_init_X1 tyX1 tyX1_ok nmX1 hown hK hP hD hS 0 rfl rfl 5 (by decide) (hts (.fieldLink RX1 45 "OffsetHeap" "offsets" "[I") (by decide +kernel)) (fun _ h9 => h9) rfl hin rfl (by decide +kernel) rfl rfl (Nat.le_of_ble_eq_true rfl) dX1_init_82 (fun H locs hP hD hS => ?_)
    have hP : va_P D vwCl [(h0, .inr (1, [.int (nI n), .int (nI B), .int (nI ((n / B) + 1)), .ref q1, .ref q2, .ref q4, .null, .null, .null, .null, .null, .null, .int 0, .int 0, .int 0, .int 0])), (q1, .inl (cI, 8, .inl (fun _ => 0))), (q2, .inr (0, [.ref q3])), (q3, .inl (cL, (n / 64 + 1), .inr (.inl (fun _ => 0)))), (q4, .inl (cI, ((n / B) + 1), .inl (fun _ => 0)))] H := hP
    have hD : va_D A [(h0, .inr (1, [.int (nI n), .int (nI B), .int (nI ((n / B) + 1)), .ref q1, .ref q2, .ref q4, .null, .null, .null, .null, .null, .null, .int 0, .int 0, .int 0, .int 0])), (q1, .inl (cI, 8, .inl (fun _ => 0))), (q2, .inr (0, [.ref q3])), (q3, .inl (cL, (n / 64 + 1), .inr (.inl (fun _ => 0)))), (q4, .inl (cI, ((n / B) + 1), .inl (fun _ => 0)))] := hD
    refine lv_aload_n hx hb dX1_init_85 rfl (lv_at hl 0 rfl) ?_
    refine lv_aload_n hx hb dX1_init_86 rfl (lv_at hl 0 rfl) ?_
    refine va_get (D := D) (ci := 1) (v := .int (nI n)) (C := RX1) (T := TX1) (N := 16) hx hb hts in_X1_init_X1 hown hK hP 0 rfl rfl 0 (by decide) (hts (.fieldLink RX1 18 "OffsetHeap" "last" "I") (by decide +kernel)) (fun _ h9 => h9) rfl dX1_init_87 ?_
    refine va_newa (atype := .int) (ty := .int) (N' := n) (a0 := (n, .inl (fun _ => 0))) hx hb (hts (.arrayClass .int) (by decide +kernel)) rfl hK hP hD hS hA (fun _ => rfl) (nI_pos (by omega)) (nI_clamp (by omega)) (by show n * 4 ≤ 536870912; omega) (Nat.le_of_ble_eq_true rfl) (by show 573 + n ≤ 12767; omega) dX1_init_90 (fun q5 cA9 H hK9 hP hD hS => ?_)
    have eC : cA9 = cI := Option.some.inj ((hK9.2 2 _ rfl).2.symm.trans (hK9.2 0 _ rfl).2)
    rw [eC] at hP hD
    refine W.widen (k := 5) (n := 4573) (by omega) (by omega) ?_
    have hP : va_P D vwCl [(h0, .inr (1, [.int (nI n), .int (nI B), .int (nI ((n / B) + 1)), .ref q1, .ref q2, .ref q4, .null, .null, .null, .null, .null, .null, .int 0, .int 0, .int 0, .int 0])), (q1, .inl (cI, 8, .inl (fun _ => 0))), (q2, .inr (0, [.ref q3])), (q3, .inl (cL, (n / 64 + 1), .inr (.inl (fun _ => 0)))), (q4, .inl (cI, ((n / B) + 1), .inl (fun _ => 0))), (q5, .inl (cI, n, .inl (fun _ => 0)))] H := hP
    have hD : va_D A [(h0, .inr (1, [.int (nI n), .int (nI B), .int (nI ((n / B) + 1)), .ref q1, .ref q2, .ref q4, .null, .null, .null, .null, .null, .null, .int 0, .int 0, .int 0, .int 0])), (q1, .inl (cI, 8, .inl (fun _ => 0))), (q2, .inr (0, [.ref q3])), (q3, .inl (cL, (n / 64 + 1), .inr (.inl (fun _ => 0)))), (q4, .inl (cI, ((n / B) + 1), .inl (fun _ => 0))), (q5, .inl (cI, n, .inl (fun _ => 0)))] := hD
    refine va_putF (D := D) (ci := 1) (v := .ref q5) (ty := .array .int) (C := RX1) (T := TX1) (N := 16) hx hb hts in_X1_init_X1 tyX1 tyX1_ok nmX1 hown hK hP hD hS 0 rfl rfl 6 (by decide) (hts (.fieldLink RX1 48 "OffsetHeap" "found" "[I") (by decide +kernel)) (fun _ h9 => h9) rfl hin rfl (by decide +kernel) rfl rfl (Nat.le_of_ble_eq_true rfl) dX1_init_92 (fun H locs hP hD hS => ?_)
    have hP : va_P D vwCl [(h0, .inr (1, [.int (nI n), .int (nI B), .int (nI ((n / B) + 1)), .ref q1, .ref q2, .ref q4, .ref q5, .null, .null, .null, .null, .null, .int 0, .int 0, .int 0, .int 0])), (q1, .inl (cI, 8, .inl (fun _ => 0))), (q2, .inr (0, [.ref q3])), (q3, .inl (cL, (n / 64 + 1), .inr (.inl (fun _ => 0)))), (q4, .inl (cI, ((n / B) + 1), .inl (fun _ => 0))), (q5, .inl (cI, n, .inl (fun _ => 0)))] H := hP
    have hD : va_D A [(h0, .inr (1, [.int (nI n), .int (nI B), .int (nI ((n / B) + 1)), .ref q1, .ref q2, .ref q4, .ref q5, .null, .null, .null, .null, .null, .int 0, .int 0, .int 0, .int 0])), (q1, .inl (cI, 8, .inl (fun _ => 0))), (q2, .inr (0, [.ref q3])), (q3, .inl (cL, (n / 64 + 1), .inr (.inl (fun _ => 0)))), (q4, .inl (cI, ((n / B) + 1), .inl (fun _ => 0))), (q5, .inl (cI, n, .inl (fun _ => 0)))] := hD
    refine lv_aload_n hx hb dX1_init_95 rfl (lv_at hl 0 rfl) ?_
    refine va_new (ci := 0) (fs := [.null]) (C := RX0) (T := TX0) (N := 1) hx hb hts in_X1_init_X0 tyX0 tyX0_ok hown (hts (.classLink RX1 36 RX0) (by decide +kernel)) (hts (.instantiable RX0 1) (by decide +kernel)) (hts (.initialized RX0) (by decide +kernel)) hK hP hD hS hA rfl (fun j hj => by rcases (show j = 0 by omega) with rfl; rfl) (Nat.le_of_ble_eq_true rfl) (Nat.le_of_ble_eq_true rfl) dX1_init_96 (fun q6 H hP hD hS => ?_)
    refine W.widen (k := 6) (n := 4574) (by omega) (by omega) ?_
    have hP : va_P D vwCl [(h0, .inr (1, [.int (nI n), .int (nI B), .int (nI ((n / B) + 1)), .ref q1, .ref q2, .ref q4, .ref q5, .null, .null, .null, .null, .null, .int 0, .int 0, .int 0, .int 0])), (q1, .inl (cI, 8, .inl (fun _ => 0))), (q2, .inr (0, [.ref q3])), (q3, .inl (cL, (n / 64 + 1), .inr (.inl (fun _ => 0)))), (q4, .inl (cI, ((n / B) + 1), .inl (fun _ => 0))), (q5, .inl (cI, n, .inl (fun _ => 0))), (q6, .inr (0, [.null]))] H := hP
    have hD : va_D A [(h0, .inr (1, [.int (nI n), .int (nI B), .int (nI ((n / B) + 1)), .ref q1, .ref q2, .ref q4, .ref q5, .null, .null, .null, .null, .null, .int 0, .int 0, .int 0, .int 0])), (q1, .inl (cI, 8, .inl (fun _ => 0))), (q2, .inr (0, [.ref q3])), (q3, .inl (cL, (n / 64 + 1), .inr (.inl (fun _ => 0)))), (q4, .inl (cI, ((n / B) + 1), .inl (fun _ => 0))), (q5, .inl (cI, n, .inl (fun _ => 0))), (q6, .inr (0, [.null]))] := hD
    refine lv_dup hx hb dX1_init_99 rfl ?_
    refine lv_aload_n hx hb dX1_init_100 rfl (lv_at hl 0 rfl) ?_
    refine va_get (D := D) (ci := 1) (v := .int (nI n)) (C := RX1) (T := TX1) (N := 16) hx hb hts in_X1_init_X1 hown hK hP 0 rfl rfl 0 (by decide) (hts (.fieldLink RX1 18 "OffsetHeap" "last" "I") (by decide +kernel)) (fun _ h9 => h9) rfl dX1_init_101 ?_
    refine xk_aftv (wr := [(h0, .inr (1, [.int (nI n), .int (nI B), .int (nI ((n / B) + 1)), .ref q1, .ref q2, .ref q4, .ref q5, .null, .null, .null, .null, .null, .int 0, .int 0, .int 0, .int 0])), (q1, .inl (cI, 8, .inl (fun _ => 0))), (q2, .inr (0, [.ref q3])), (q3, .inl (cL, (n / 64 + 1), .inr (.inl (fun _ => 0)))), (q4, .inl (cI, ((n / B) + 1), .inl (fun _ => 0))), (q5, .inl (cI, n, .inl (fun _ => 0)))]) (ws' := fun u => [(h0, .inr (1, [.int (nI n), .int (nI B), .int (nI ((n / B) + 1)), .ref q1, .ref q2, .ref q4, .ref q5, .null, .null, .null, .null, .null, .int 0, .int 0, .int 0, .int 0])), (q1, .inl (cI, 8, .inl (fun _ => 0))), (q2, .inr (0, [.ref q3])), (q3, .inl (cL, (n / 64 + 1), .inr (.inl (fun _ => 0)))), (q4, .inl (cI, ((n / B) + 1), .inl (fun _ => 0))), (q5, .inl (cI, n, .inl (fun _ => 0))), (q6, .inr (0, [.ref u])), (u, .inl (cL, (n / 64 + 1), .inr (.inl (fun _ => 0))))]) (va_runI (As := [.int (nI n)]) (rest := [.ref q6, .ref h0]) ⟨hx, hb, hml, hown, hts⟩ (c_BitRow l D cL q6 n H.size hn) (cwI 1 hts gX1_init_X0_init rfl rfl rfl (hts (.initialized RX0) (by decide +kernel)) (hts (.methodLink RX1 38 yX0_init) (by decide +kernel)) (hts (.instanceMethod yX0_init) (by decide +kernel)) rfl (by decide +kernel) ⟨Nat.le_of_ble_eq_true rfl, Nat.le_of_ble_eq_true rfl⟩) (xk_preS rfl (hP.sub [6] rfl) (hK.sub [1] rfl) ((hD.sub [6] (by decide) rfl).weaken (fun _ _ _ _ => trivial))) rfl rfl hl.1 rfl (lv_room (Nat.le_of_ble_eq_true rfl)) dX1_init_104 ⟨Nat.le_of_ble_eq_true rfl, Nat.le_of_ble_eq_true rfl⟩) hP hD hS hA [6] [0, 1, 2, 3, 4, 5] [0, 1, 2, 3, 4, 5, 6, 7] rfl rfl (by decide) (by decide) (fun _ => rfl) (by decide) (fun q7 H locs _ hP hD hS => ?_)
    refine W.widen (k := 7) (n := 4637) (by decide) (by decide) ?_
    have hP : va_P D vwCl [(h0, .inr (1, [.int (nI n), .int (nI B), .int (nI ((n / B) + 1)), .ref q1, .ref q2, .ref q4, .ref q5, .null, .null, .null, .null, .null, .int 0, .int 0, .int 0, .int 0])), (q1, .inl (cI, 8, .inl (fun _ => 0))), (q2, .inr (0, [.ref q3])), (q3, .inl (cL, (n / 64 + 1), .inr (.inl (fun _ => 0)))), (q4, .inl (cI, ((n / B) + 1), .inl (fun _ => 0))), (q5, .inl (cI, n, .inl (fun _ => 0))), (q6, .inr (0, [.ref q7])), (q7, .inl (cL, (n / 64 + 1), .inr (.inl (fun _ => 0))))] H := hP
    have hD : va_D A [(h0, .inr (1, [.int (nI n), .int (nI B), .int (nI ((n / B) + 1)), .ref q1, .ref q2, .ref q4, .ref q5, .null, .null, .null, .null, .null, .int 0, .int 0, .int 0, .int 0])), (q1, .inl (cI, 8, .inl (fun _ => 0))), (q2, .inr (0, [.ref q3])), (q3, .inl (cL, (n / 64 + 1), .inr (.inl (fun _ => 0)))), (q4, .inl (cI, ((n / B) + 1), .inl (fun _ => 0))), (q5, .inl (cI, n, .inl (fun _ => 0))), (q6, .inr (0, [.ref q7])), (q7, .inl (cL, (n / 64 + 1), .inr (.inl (fun _ => 0))))] := hD
    refine va_putF (D := D) (ci := 1) (v := .ref q6) (ty := .object "OffsetHeap$BitRow") (C := RX1) (T := TX1) (N := 16) hx hb hts in_X1_init_X1 tyX1 tyX1_ok nmX1 hown hK hP hD hS 0 rfl rfl 7 (by decide) (hts (.fieldLink RX1 51 "OffsetHeap" "seen" "LOffsetHeap$BitRow;") (by decide +kernel)) (fun _ h9 => h9) rfl hin rfl (by decide +kernel) rfl rfl (Nat.le_of_ble_eq_true rfl) dX1_init_107 (fun H locs hP hD hS => ?_)
    have hP : va_P D vwCl [(h0, .inr (1, [.int (nI n), .int (nI B), .int (nI ((n / B) + 1)), .ref q1, .ref q2, .ref q4, .ref q5, .ref q6, .null, .null, .null, .null, .int 0, .int 0, .int 0, .int 0])), (q1, .inl (cI, 8, .inl (fun _ => 0))), (q2, .inr (0, [.ref q3])), (q3, .inl (cL, (n / 64 + 1), .inr (.inl (fun _ => 0)))), (q4, .inl (cI, ((n / B) + 1), .inl (fun _ => 0))), (q5, .inl (cI, n, .inl (fun _ => 0))), (q6, .inr (0, [.ref q7])), (q7, .inl (cL, (n / 64 + 1), .inr (.inl (fun _ => 0))))] H := hP
    have hD : va_D A [(h0, .inr (1, [.int (nI n), .int (nI B), .int (nI ((n / B) + 1)), .ref q1, .ref q2, .ref q4, .ref q5, .ref q6, .null, .null, .null, .null, .int 0, .int 0, .int 0, .int 0])), (q1, .inl (cI, 8, .inl (fun _ => 0))), (q2, .inr (0, [.ref q3])), (q3, .inl (cL, (n / 64 + 1), .inr (.inl (fun _ => 0)))), (q4, .inl (cI, ((n / B) + 1), .inl (fun _ => 0))), (q5, .inl (cI, n, .inl (fun _ => 0))), (q6, .inr (0, [.ref q7])), (q7, .inl (cL, (n / 64 + 1), .inr (.inl (fun _ => 0))))] := hD
    refine lv_aload_n hx hb dX1_init_110 rfl (lv_at hl 0 rfl) ?_
    refine lv_aload_n hx hb dX1_init_111 rfl (lv_at hl 0 rfl) ?_
    refine va_get (D := D) (ci := 1) (v := .int (nI n)) (C := RX1) (T := TX1) (N := 16) hx hb hts in_X1_init_X1 hown hK hP 0 rfl rfl 0 (by decide) (hts (.fieldLink RX1 18 "OffsetHeap" "last" "I") (by decide +kernel)) (fun _ h9 => h9) rfl dX1_init_112 ?_
    refine lv_iconst (v := nI 1) hx hb dX1_init_115 (by decide +kernel) ?_
    refine lv_iadd hx hb dX1_init_116 ?_
    refine xk_top (nI_add _ _) ?_
    refine va_newa (atype := .int) (ty := .int) (N' := n + 1) (a0 := (n + 1, .inl (fun _ => 0))) hx hb (hts (.arrayClass .int) (by decide +kernel)) rfl hK hP hD hS hA (fun _ => rfl) (nI_pos (by omega)) (nI_clamp (by omega)) (by show (n + 1) * 4 ≤ 536870912; omega) (Nat.le_of_ble_eq_true rfl) (by show 4637 + (n + 1) ≤ 12767; omega) dX1_init_117 (fun q8 cA9 H hK9 hP hD hS => ?_)
    have eC : cA9 = cI := Option.some.inj ((hK9.2 2 _ rfl).2.symm.trans (hK9.2 0 _ rfl).2)
    rw [eC] at hP hD
    refine W.widen (k := 8) (n := 8638) (by omega) (by omega) ?_
    have hP : va_P D vwCl [(h0, .inr (1, [.int (nI n), .int (nI B), .int (nI ((n / B) + 1)), .ref q1, .ref q2, .ref q4, .ref q5, .ref q6, .null, .null, .null, .null, .int 0, .int 0, .int 0, .int 0])), (q1, .inl (cI, 8, .inl (fun _ => 0))), (q2, .inr (0, [.ref q3])), (q3, .inl (cL, (n / 64 + 1), .inr (.inl (fun _ => 0)))), (q4, .inl (cI, ((n / B) + 1), .inl (fun _ => 0))), (q5, .inl (cI, n, .inl (fun _ => 0))), (q6, .inr (0, [.ref q7])), (q7, .inl (cL, (n / 64 + 1), .inr (.inl (fun _ => 0)))), (q8, .inl (cI, (n + 1), .inl (fun _ => 0)))] H := hP
    have hD : va_D A [(h0, .inr (1, [.int (nI n), .int (nI B), .int (nI ((n / B) + 1)), .ref q1, .ref q2, .ref q4, .ref q5, .ref q6, .null, .null, .null, .null, .int 0, .int 0, .int 0, .int 0])), (q1, .inl (cI, 8, .inl (fun _ => 0))), (q2, .inr (0, [.ref q3])), (q3, .inl (cL, (n / 64 + 1), .inr (.inl (fun _ => 0)))), (q4, .inl (cI, ((n / B) + 1), .inl (fun _ => 0))), (q5, .inl (cI, n, .inl (fun _ => 0))), (q6, .inr (0, [.ref q7])), (q7, .inl (cL, (n / 64 + 1), .inr (.inl (fun _ => 0)))), (q8, .inl (cI, (n + 1), .inl (fun _ => 0)))] := hD
    refine va_put (D := D) (ci := 1) (v := .ref q8) (ty := .array .int) (C := RX1) (T := TX1) (N := 16) hx hb hts in_X1_init_X1 tyX1 tyX1_ok nmX1 hown hK hP hD hS 0 rfl rfl 8 (by decide) (hts (.fieldLink RX1 54 "OffsetHeap" "space" "[I") (by decide +kernel)) (fun _ h9 => h9) rfl (by decide +kernel) rfl rfl (Nat.le_of_ble_eq_true rfl) dX1_init_119 (fun H locs hP hD hS => ?_)
    have hP : va_P D vwCl [(h0, .inr (1, [.int (nI n), .int (nI B), .int (nI ((n / B) + 1)), .ref q1, .ref q2, .ref q4, .ref q5, .ref q6, .ref q8, .null, .null, .null, .int 0, .int 0, .int 0, .int 0])), (q1, .inl (cI, 8, .inl (fun _ => 0))), (q2, .inr (0, [.ref q3])), (q3, .inl (cL, (n / 64 + 1), .inr (.inl (fun _ => 0)))), (q4, .inl (cI, ((n / B) + 1), .inl (fun _ => 0))), (q5, .inl (cI, n, .inl (fun _ => 0))), (q6, .inr (0, [.ref q7])), (q7, .inl (cL, (n / 64 + 1), .inr (.inl (fun _ => 0)))), (q8, .inl (cI, (n + 1), .inl (fun _ => 0)))] H := hP
    have hD : va_D A [(h0, .inr (1, [.int (nI n), .int (nI B), .int (nI ((n / B) + 1)), .ref q1, .ref q2, .ref q4, .ref q5, .ref q6, .ref q8, .null, .null, .null, .int 0, .int 0, .int 0, .int 0])), (q1, .inl (cI, 8, .inl (fun _ => 0))), (q2, .inr (0, [.ref q3])), (q3, .inl (cL, (n / 64 + 1), .inr (.inl (fun _ => 0)))), (q4, .inl (cI, ((n / B) + 1), .inl (fun _ => 0))), (q5, .inl (cI, n, .inl (fun _ => 0))), (q6, .inr (0, [.ref q7])), (q7, .inl (cL, (n / 64 + 1), .inr (.inl (fun _ => 0)))), (q8, .inl (cI, (n + 1), .inl (fun _ => 0)))] := hD
    refine lv_aload_n hx hb dX1_init_122 rfl (lv_at hl 0 rfl) ?_
    refine lv_aload_n hx hb dX1_init_123 rfl (lv_at hl 0 rfl) ?_
    refine va_get (D := D) (ci := 1) (v := .int (nI n)) (C := RX1) (T := TX1) (N := 16) hx hb hts in_X1_init_X1 hown hK hP 0 rfl rfl 0 (by decide) (hts (.fieldLink RX1 18 "OffsetHeap" "last" "I") (by decide +kernel)) (fun _ h9 => h9) rfl dX1_init_124 ?_
    refine lv_iconst (v := nI 1) hx hb dX1_init_127 (by decide +kernel) ?_
    refine lv_iadd hx hb dX1_init_128 ?_
    refine xk_top (nI_add _ _) ?_
    refine va_newa (atype := .int) (ty := .int) (N' := n + 1) (a0 := (n + 1, .inl (fun _ => 0))) hx hb (hts (.arrayClass .int) (by decide +kernel)) rfl hK hP hD hS hA (fun _ => rfl) (nI_pos (by omega)) (nI_clamp (by omega)) (by show (n + 1) * 4 ≤ 536870912; omega) (Nat.le_of_ble_eq_true rfl) (by show 8638 + (n + 1) ≤ 12767; omega) dX1_init_129 (fun q9 cA9 H hK9 hP hD hS => ?_)
    have eC : cA9 = cI := Option.some.inj ((hK9.2 2 _ rfl).2.symm.trans (hK9.2 0 _ rfl).2)
    rw [eC] at hP hD
    refine W.widen (k := 9) (n := 12639) (by omega) (by omega) ?_
    have hP : va_P D vwCl [(h0, .inr (1, [.int (nI n), .int (nI B), .int (nI ((n / B) + 1)), .ref q1, .ref q2, .ref q4, .ref q5, .ref q6, .ref q8, .null, .null, .null, .int 0, .int 0, .int 0, .int 0])), (q1, .inl (cI, 8, .inl (fun _ => 0))), (q2, .inr (0, [.ref q3])), (q3, .inl (cL, (n / 64 + 1), .inr (.inl (fun _ => 0)))), (q4, .inl (cI, ((n / B) + 1), .inl (fun _ => 0))), (q5, .inl (cI, n, .inl (fun _ => 0))), (q6, .inr (0, [.ref q7])), (q7, .inl (cL, (n / 64 + 1), .inr (.inl (fun _ => 0)))), (q8, .inl (cI, (n + 1), .inl (fun _ => 0))), (q9, .inl (cI, (n + 1), .inl (fun _ => 0)))] H := hP
    have hD : va_D A [(h0, .inr (1, [.int (nI n), .int (nI B), .int (nI ((n / B) + 1)), .ref q1, .ref q2, .ref q4, .ref q5, .ref q6, .ref q8, .null, .null, .null, .int 0, .int 0, .int 0, .int 0])), (q1, .inl (cI, 8, .inl (fun _ => 0))), (q2, .inr (0, [.ref q3])), (q3, .inl (cL, (n / 64 + 1), .inr (.inl (fun _ => 0)))), (q4, .inl (cI, ((n / B) + 1), .inl (fun _ => 0))), (q5, .inl (cI, n, .inl (fun _ => 0))), (q6, .inr (0, [.ref q7])), (q7, .inl (cL, (n / 64 + 1), .inr (.inl (fun _ => 0)))), (q8, .inl (cI, (n + 1), .inl (fun _ => 0))), (q9, .inl (cI, (n + 1), .inl (fun _ => 0)))] := hD
    refine va_put (D := D) (ci := 1) (v := .ref q9) (ty := .array .int) (C := RX1) (T := TX1) (N := 16) hx hb hts in_X1_init_X1 tyX1 tyX1_ok nmX1 hown hK hP hD hS 0 rfl rfl 9 (by decide) (hts (.fieldLink RX1 57 "OffsetHeap" "fresh" "[I") (by decide +kernel)) (fun _ h9 => h9) rfl (by decide +kernel) rfl rfl (Nat.le_of_ble_eq_true rfl) dX1_init_131 (fun H locs hP hD hS => ?_)
    have hP : va_P D vwCl [(h0, .inr (1, [.int (nI n), .int (nI B), .int (nI ((n / B) + 1)), .ref q1, .ref q2, .ref q4, .ref q5, .ref q6, .ref q8, .ref q9, .null, .null, .int 0, .int 0, .int 0, .int 0])), (q1, .inl (cI, 8, .inl (fun _ => 0))), (q2, .inr (0, [.ref q3])), (q3, .inl (cL, (n / 64 + 1), .inr (.inl (fun _ => 0)))), (q4, .inl (cI, ((n / B) + 1), .inl (fun _ => 0))), (q5, .inl (cI, n, .inl (fun _ => 0))), (q6, .inr (0, [.ref q7])), (q7, .inl (cL, (n / 64 + 1), .inr (.inl (fun _ => 0)))), (q8, .inl (cI, (n + 1), .inl (fun _ => 0))), (q9, .inl (cI, (n + 1), .inl (fun _ => 0)))] H := hP
    have hD : va_D A [(h0, .inr (1, [.int (nI n), .int (nI B), .int (nI ((n / B) + 1)), .ref q1, .ref q2, .ref q4, .ref q5, .ref q6, .ref q8, .ref q9, .null, .null, .int 0, .int 0, .int 0, .int 0])), (q1, .inl (cI, 8, .inl (fun _ => 0))), (q2, .inr (0, [.ref q3])), (q3, .inl (cL, (n / 64 + 1), .inr (.inl (fun _ => 0)))), (q4, .inl (cI, ((n / B) + 1), .inl (fun _ => 0))), (q5, .inl (cI, n, .inl (fun _ => 0))), (q6, .inr (0, [.ref q7])), (q7, .inl (cL, (n / 64 + 1), .inr (.inl (fun _ => 0)))), (q8, .inl (cI, (n + 1), .inl (fun _ => 0))), (q9, .inl (cI, (n + 1), .inl (fun _ => 0)))] := hD
    refine lv_aload_n hx hb dX1_init_134 rfl (lv_at hl 0 rfl) ?_
    refine va_new (ci := 0) (fs := [.null]) (C := RX0) (T := TX0) (N := 1) hx hb hts in_X1_init_X0 tyX0 tyX0_ok hown (hts (.classLink RX1 36 RX0) (by decide +kernel)) (hts (.instantiable RX0 1) (by decide +kernel)) (hts (.initialized RX0) (by decide +kernel)) hK hP hD hS hA rfl (fun j hj => by rcases (show j = 0 by omega) with rfl; rfl) (Nat.le_of_ble_eq_true rfl) (Nat.le_of_ble_eq_true rfl) dX1_init_135 (fun q10 H hP hD hS => ?_)
    refine W.widen (k := 10) (n := 12640) (by omega) (by omega) ?_
    have hP : va_P D vwCl [(h0, .inr (1, [.int (nI n), .int (nI B), .int (nI ((n / B) + 1)), .ref q1, .ref q2, .ref q4, .ref q5, .ref q6, .ref q8, .ref q9, .null, .null, .int 0, .int 0, .int 0, .int 0])), (q1, .inl (cI, 8, .inl (fun _ => 0))), (q2, .inr (0, [.ref q3])), (q3, .inl (cL, (n / 64 + 1), .inr (.inl (fun _ => 0)))), (q4, .inl (cI, ((n / B) + 1), .inl (fun _ => 0))), (q5, .inl (cI, n, .inl (fun _ => 0))), (q6, .inr (0, [.ref q7])), (q7, .inl (cL, (n / 64 + 1), .inr (.inl (fun _ => 0)))), (q8, .inl (cI, (n + 1), .inl (fun _ => 0))), (q9, .inl (cI, (n + 1), .inl (fun _ => 0))), (q10, .inr (0, [.null]))] H := hP
    have hD : va_D A [(h0, .inr (1, [.int (nI n), .int (nI B), .int (nI ((n / B) + 1)), .ref q1, .ref q2, .ref q4, .ref q5, .ref q6, .ref q8, .ref q9, .null, .null, .int 0, .int 0, .int 0, .int 0])), (q1, .inl (cI, 8, .inl (fun _ => 0))), (q2, .inr (0, [.ref q3])), (q3, .inl (cL, (n / 64 + 1), .inr (.inl (fun _ => 0)))), (q4, .inl (cI, ((n / B) + 1), .inl (fun _ => 0))), (q5, .inl (cI, n, .inl (fun _ => 0))), (q6, .inr (0, [.ref q7])), (q7, .inl (cL, (n / 64 + 1), .inr (.inl (fun _ => 0)))), (q8, .inl (cI, (n + 1), .inl (fun _ => 0))), (q9, .inl (cI, (n + 1), .inl (fun _ => 0))), (q10, .inr (0, [.null]))] := hD
    refine lv_dup hx hb dX1_init_138 rfl ?_
    refine lv_aload_n hx hb dX1_init_139 rfl (lv_at hl 0 rfl) ?_
    refine va_get (D := D) (ci := 1) (v := .int (nI n)) (C := RX1) (T := TX1) (N := 16) hx hb hts in_X1_init_X1 hown hK hP 0 rfl rfl 0 (by decide) (hts (.fieldLink RX1 18 "OffsetHeap" "last" "I") (by decide +kernel)) (fun _ h9 => h9) rfl dX1_init_140 ?_
    refine xk_aftv (wr := [(h0, .inr (1, [.int (nI n), .int (nI B), .int (nI ((n / B) + 1)), .ref q1, .ref q2, .ref q4, .ref q5, .ref q6, .ref q8, .ref q9, .null, .null, .int 0, .int 0, .int 0, .int 0])), (q1, .inl (cI, 8, .inl (fun _ => 0))), (q2, .inr (0, [.ref q3])), (q3, .inl (cL, (n / 64 + 1), .inr (.inl (fun _ => 0)))), (q4, .inl (cI, ((n / B) + 1), .inl (fun _ => 0))), (q5, .inl (cI, n, .inl (fun _ => 0))), (q6, .inr (0, [.ref q7])), (q7, .inl (cL, (n / 64 + 1), .inr (.inl (fun _ => 0)))), (q8, .inl (cI, (n + 1), .inl (fun _ => 0))), (q9, .inl (cI, (n + 1), .inl (fun _ => 0)))]) (ws' := fun u => [(h0, .inr (1, [.int (nI n), .int (nI B), .int (nI ((n / B) + 1)), .ref q1, .ref q2, .ref q4, .ref q5, .ref q6, .ref q8, .ref q9, .null, .null, .int 0, .int 0, .int 0, .int 0])), (q1, .inl (cI, 8, .inl (fun _ => 0))), (q2, .inr (0, [.ref q3])), (q3, .inl (cL, (n / 64 + 1), .inr (.inl (fun _ => 0)))), (q4, .inl (cI, ((n / B) + 1), .inl (fun _ => 0))), (q5, .inl (cI, n, .inl (fun _ => 0))), (q6, .inr (0, [.ref q7])), (q7, .inl (cL, (n / 64 + 1), .inr (.inl (fun _ => 0)))), (q8, .inl (cI, (n + 1), .inl (fun _ => 0))), (q9, .inl (cI, (n + 1), .inl (fun _ => 0))), (q10, .inr (0, [.ref u])), (u, .inl (cL, (n / 64 + 1), .inr (.inl (fun _ => 0))))]) (va_runI (As := [.int (nI n)]) (rest := [.ref q10, .ref h0]) ⟨hx, hb, hml, hown, hts⟩ (c_BitRow l D cL q10 n H.size hn) (cwI 1 hts gX1_init_X0_init rfl rfl rfl (hts (.initialized RX0) (by decide +kernel)) (hts (.methodLink RX1 38 yX0_init) (by decide +kernel)) (hts (.instanceMethod yX0_init) (by decide +kernel)) rfl (by decide +kernel) ⟨Nat.le_of_ble_eq_true rfl, Nat.le_of_ble_eq_true rfl⟩) (xk_preS rfl (hP.sub [10] rfl) (hK.sub [1] rfl) ((hD.sub [10] (by decide) rfl).weaken (fun _ _ _ _ => trivial))) rfl rfl hl.1 rfl (lv_room (Nat.le_of_ble_eq_true rfl)) dX1_init_143 ⟨Nat.le_of_ble_eq_true rfl, Nat.le_of_ble_eq_true rfl⟩) hP hD hS hA [10] [0, 1, 2, 3, 4, 5, 6, 7, 8, 9] [0, 1, 2, 3, 4, 5, 6, 7, 8, 9, 10, 11] rfl rfl (by decide) (by decide) (fun _ => rfl) (by decide) (fun q11 H locs _ hP hD hS => ?_)
    refine W.widen (k := 11) (n := 12703) (by decide) (by decide) ?_
    have hP : va_P D vwCl [(h0, .inr (1, [.int (nI n), .int (nI B), .int (nI ((n / B) + 1)), .ref q1, .ref q2, .ref q4, .ref q5, .ref q6, .ref q8, .ref q9, .null, .null, .int 0, .int 0, .int 0, .int 0])), (q1, .inl (cI, 8, .inl (fun _ => 0))), (q2, .inr (0, [.ref q3])), (q3, .inl (cL, (n / 64 + 1), .inr (.inl (fun _ => 0)))), (q4, .inl (cI, ((n / B) + 1), .inl (fun _ => 0))), (q5, .inl (cI, n, .inl (fun _ => 0))), (q6, .inr (0, [.ref q7])), (q7, .inl (cL, (n / 64 + 1), .inr (.inl (fun _ => 0)))), (q8, .inl (cI, (n + 1), .inl (fun _ => 0))), (q9, .inl (cI, (n + 1), .inl (fun _ => 0))), (q10, .inr (0, [.ref q11])), (q11, .inl (cL, (n / 64 + 1), .inr (.inl (fun _ => 0))))] H := hP
    have hD : va_D A [(h0, .inr (1, [.int (nI n), .int (nI B), .int (nI ((n / B) + 1)), .ref q1, .ref q2, .ref q4, .ref q5, .ref q6, .ref q8, .ref q9, .null, .null, .int 0, .int 0, .int 0, .int 0])), (q1, .inl (cI, 8, .inl (fun _ => 0))), (q2, .inr (0, [.ref q3])), (q3, .inl (cL, (n / 64 + 1), .inr (.inl (fun _ => 0)))), (q4, .inl (cI, ((n / B) + 1), .inl (fun _ => 0))), (q5, .inl (cI, n, .inl (fun _ => 0))), (q6, .inr (0, [.ref q7])), (q7, .inl (cL, (n / 64 + 1), .inr (.inl (fun _ => 0)))), (q8, .inl (cI, (n + 1), .inl (fun _ => 0))), (q9, .inl (cI, (n + 1), .inl (fun _ => 0))), (q10, .inr (0, [.ref q11])), (q11, .inl (cL, (n / 64 + 1), .inr (.inl (fun _ => 0))))] := hD
    refine va_put (D := D) (ci := 1) (v := .ref q10) (ty := .object "OffsetHeap$BitRow") (C := RX1) (T := TX1) (N := 16) hx hb hts in_X1_init_X1 tyX1 tyX1_ok nmX1 hown hK hP hD hS 0 rfl rfl 10 (by decide) (hts (.fieldLink RX1 60 "OffsetHeap" "starts" "LOffsetHeap$BitRow;") (by decide +kernel)) (fun _ h9 => h9) rfl (by decide +kernel) rfl rfl (Nat.le_of_ble_eq_true rfl) dX1_init_146 (fun H locs hP hD hS => ?_)
    have hP : va_P D vwCl [(h0, .inr (1, [.int (nI n), .int (nI B), .int (nI ((n / B) + 1)), .ref q1, .ref q2, .ref q4, .ref q5, .ref q6, .ref q8, .ref q9, .ref q10, .null, .int 0, .int 0, .int 0, .int 0])), (q1, .inl (cI, 8, .inl (fun _ => 0))), (q2, .inr (0, [.ref q3])), (q3, .inl (cL, (n / 64 + 1), .inr (.inl (fun _ => 0)))), (q4, .inl (cI, ((n / B) + 1), .inl (fun _ => 0))), (q5, .inl (cI, n, .inl (fun _ => 0))), (q6, .inr (0, [.ref q7])), (q7, .inl (cL, (n / 64 + 1), .inr (.inl (fun _ => 0)))), (q8, .inl (cI, (n + 1), .inl (fun _ => 0))), (q9, .inl (cI, (n + 1), .inl (fun _ => 0))), (q10, .inr (0, [.ref q11])), (q11, .inl (cL, (n / 64 + 1), .inr (.inl (fun _ => 0))))] H := hP
    have hD : va_D A [(h0, .inr (1, [.int (nI n), .int (nI B), .int (nI ((n / B) + 1)), .ref q1, .ref q2, .ref q4, .ref q5, .ref q6, .ref q8, .ref q9, .ref q10, .null, .int 0, .int 0, .int 0, .int 0])), (q1, .inl (cI, 8, .inl (fun _ => 0))), (q2, .inr (0, [.ref q3])), (q3, .inl (cL, (n / 64 + 1), .inr (.inl (fun _ => 0)))), (q4, .inl (cI, ((n / B) + 1), .inl (fun _ => 0))), (q5, .inl (cI, n, .inl (fun _ => 0))), (q6, .inr (0, [.ref q7])), (q7, .inl (cL, (n / 64 + 1), .inr (.inl (fun _ => 0)))), (q8, .inl (cI, (n + 1), .inl (fun _ => 0))), (q9, .inl (cI, (n + 1), .inl (fun _ => 0))), (q10, .inr (0, [.ref q11])), (q11, .inl (cL, (n / 64 + 1), .inr (.inl (fun _ => 0))))] := hD
    refine lv_aload_n hx hb dX1_init_149 rfl (lv_at hl 0 rfl) ?_
    refine va_new (ci := 0) (fs := [.null]) (C := RX0) (T := TX0) (N := 1) hx hb hts in_X1_init_X0 tyX0 tyX0_ok hown (hts (.classLink RX1 36 RX0) (by decide +kernel)) (hts (.instantiable RX0 1) (by decide +kernel)) (hts (.initialized RX0) (by decide +kernel)) hK hP hD hS hA rfl (fun j hj => by rcases (show j = 0 by omega) with rfl; rfl) (Nat.le_of_ble_eq_true rfl) (Nat.le_of_ble_eq_true rfl) dX1_init_150 (fun q12 H hP hD hS => ?_)
    refine W.widen (k := 12) (n := 12704) (by omega) (by omega) ?_
    have hP : va_P D vwCl [(h0, .inr (1, [.int (nI n), .int (nI B), .int (nI ((n / B) + 1)), .ref q1, .ref q2, .ref q4, .ref q5, .ref q6, .ref q8, .ref q9, .ref q10, .null, .int 0, .int 0, .int 0, .int 0])), (q1, .inl (cI, 8, .inl (fun _ => 0))), (q2, .inr (0, [.ref q3])), (q3, .inl (cL, (n / 64 + 1), .inr (.inl (fun _ => 0)))), (q4, .inl (cI, ((n / B) + 1), .inl (fun _ => 0))), (q5, .inl (cI, n, .inl (fun _ => 0))), (q6, .inr (0, [.ref q7])), (q7, .inl (cL, (n / 64 + 1), .inr (.inl (fun _ => 0)))), (q8, .inl (cI, (n + 1), .inl (fun _ => 0))), (q9, .inl (cI, (n + 1), .inl (fun _ => 0))), (q10, .inr (0, [.ref q11])), (q11, .inl (cL, (n / 64 + 1), .inr (.inl (fun _ => 0)))), (q12, .inr (0, [.null]))] H := hP
    have hD : va_D A [(h0, .inr (1, [.int (nI n), .int (nI B), .int (nI ((n / B) + 1)), .ref q1, .ref q2, .ref q4, .ref q5, .ref q6, .ref q8, .ref q9, .ref q10, .null, .int 0, .int 0, .int 0, .int 0])), (q1, .inl (cI, 8, .inl (fun _ => 0))), (q2, .inr (0, [.ref q3])), (q3, .inl (cL, (n / 64 + 1), .inr (.inl (fun _ => 0)))), (q4, .inl (cI, ((n / B) + 1), .inl (fun _ => 0))), (q5, .inl (cI, n, .inl (fun _ => 0))), (q6, .inr (0, [.ref q7])), (q7, .inl (cL, (n / 64 + 1), .inr (.inl (fun _ => 0)))), (q8, .inl (cI, (n + 1), .inl (fun _ => 0))), (q9, .inl (cI, (n + 1), .inl (fun _ => 0))), (q10, .inr (0, [.ref q11])), (q11, .inl (cL, (n / 64 + 1), .inr (.inl (fun _ => 0)))), (q12, .inr (0, [.null]))] := hD
    refine lv_dup hx hb dX1_init_153 rfl ?_
    refine lv_aload_n hx hb dX1_init_154 rfl (lv_at hl 0 rfl) ?_
    refine va_get (D := D) (ci := 1) (v := .int (nI n)) (C := RX1) (T := TX1) (N := 16) hx hb hts in_X1_init_X1 hown hK hP 0 rfl rfl 0 (by decide) (hts (.fieldLink RX1 18 "OffsetHeap" "last" "I") (by decide +kernel)) (fun _ h9 => h9) rfl dX1_init_155 ?_
    refine xk_aftv (wr := [(h0, .inr (1, [.int (nI n), .int (nI B), .int (nI ((n / B) + 1)), .ref q1, .ref q2, .ref q4, .ref q5, .ref q6, .ref q8, .ref q9, .ref q10, .null, .int 0, .int 0, .int 0, .int 0])), (q1, .inl (cI, 8, .inl (fun _ => 0))), (q2, .inr (0, [.ref q3])), (q3, .inl (cL, (n / 64 + 1), .inr (.inl (fun _ => 0)))), (q4, .inl (cI, ((n / B) + 1), .inl (fun _ => 0))), (q5, .inl (cI, n, .inl (fun _ => 0))), (q6, .inr (0, [.ref q7])), (q7, .inl (cL, (n / 64 + 1), .inr (.inl (fun _ => 0)))), (q8, .inl (cI, (n + 1), .inl (fun _ => 0))), (q9, .inl (cI, (n + 1), .inl (fun _ => 0))), (q10, .inr (0, [.ref q11])), (q11, .inl (cL, (n / 64 + 1), .inr (.inl (fun _ => 0))))]) (ws' := fun u => [(h0, .inr (1, [.int (nI n), .int (nI B), .int (nI ((n / B) + 1)), .ref q1, .ref q2, .ref q4, .ref q5, .ref q6, .ref q8, .ref q9, .ref q10, .null, .int 0, .int 0, .int 0, .int 0])), (q1, .inl (cI, 8, .inl (fun _ => 0))), (q2, .inr (0, [.ref q3])), (q3, .inl (cL, (n / 64 + 1), .inr (.inl (fun _ => 0)))), (q4, .inl (cI, ((n / B) + 1), .inl (fun _ => 0))), (q5, .inl (cI, n, .inl (fun _ => 0))), (q6, .inr (0, [.ref q7])), (q7, .inl (cL, (n / 64 + 1), .inr (.inl (fun _ => 0)))), (q8, .inl (cI, (n + 1), .inl (fun _ => 0))), (q9, .inl (cI, (n + 1), .inl (fun _ => 0))), (q10, .inr (0, [.ref q11])), (q11, .inl (cL, (n / 64 + 1), .inr (.inl (fun _ => 0)))), (q12, .inr (0, [.ref u])), (u, .inl (cL, (n / 64 + 1), .inr (.inl (fun _ => 0))))]) (va_runI (As := [.int (nI n)]) (rest := [.ref q12, .ref h0]) ⟨hx, hb, hml, hown, hts⟩ (c_BitRow l D cL q12 n H.size hn) (cwI 1 hts gX1_init_X0_init rfl rfl rfl (hts (.initialized RX0) (by decide +kernel)) (hts (.methodLink RX1 38 yX0_init) (by decide +kernel)) (hts (.instanceMethod yX0_init) (by decide +kernel)) rfl (by decide +kernel) ⟨Nat.le_of_ble_eq_true rfl, Nat.le_of_ble_eq_true rfl⟩) (xk_preS rfl (hP.sub [12] rfl) (hK.sub [1] rfl) ((hD.sub [12] (by decide) rfl).weaken (fun _ _ _ _ => trivial))) rfl rfl hl.1 rfl (lv_room (Nat.le_of_ble_eq_true rfl)) dX1_init_158 ⟨Nat.le_of_ble_eq_true rfl, Nat.le_of_ble_eq_true rfl⟩) hP hD hS hA [12] [0, 1, 2, 3, 4, 5, 6, 7, 8, 9, 10, 11] [0, 1, 2, 3, 4, 5, 6, 7, 8, 9, 10, 11, 12, 13] rfl rfl (by decide) (by decide) (fun _ => rfl) (by decide) (fun q13 H locs _ hP hD hS => ?_)
    refine W.widen (k := 13) (n := 12767) (by decide) (by decide) ?_
    have hP : va_P D vwCl [(h0, .inr (1, [.int (nI n), .int (nI B), .int (nI ((n / B) + 1)), .ref q1, .ref q2, .ref q4, .ref q5, .ref q6, .ref q8, .ref q9, .ref q10, .null, .int 0, .int 0, .int 0, .int 0])), (q1, .inl (cI, 8, .inl (fun _ => 0))), (q2, .inr (0, [.ref q3])), (q3, .inl (cL, (n / 64 + 1), .inr (.inl (fun _ => 0)))), (q4, .inl (cI, ((n / B) + 1), .inl (fun _ => 0))), (q5, .inl (cI, n, .inl (fun _ => 0))), (q6, .inr (0, [.ref q7])), (q7, .inl (cL, (n / 64 + 1), .inr (.inl (fun _ => 0)))), (q8, .inl (cI, (n + 1), .inl (fun _ => 0))), (q9, .inl (cI, (n + 1), .inl (fun _ => 0))), (q10, .inr (0, [.ref q11])), (q11, .inl (cL, (n / 64 + 1), .inr (.inl (fun _ => 0)))), (q12, .inr (0, [.ref q13])), (q13, .inl (cL, (n / 64 + 1), .inr (.inl (fun _ => 0))))] H := hP
    have hD : va_D A [(h0, .inr (1, [.int (nI n), .int (nI B), .int (nI ((n / B) + 1)), .ref q1, .ref q2, .ref q4, .ref q5, .ref q6, .ref q8, .ref q9, .ref q10, .null, .int 0, .int 0, .int 0, .int 0])), (q1, .inl (cI, 8, .inl (fun _ => 0))), (q2, .inr (0, [.ref q3])), (q3, .inl (cL, (n / 64 + 1), .inr (.inl (fun _ => 0)))), (q4, .inl (cI, ((n / B) + 1), .inl (fun _ => 0))), (q5, .inl (cI, n, .inl (fun _ => 0))), (q6, .inr (0, [.ref q7])), (q7, .inl (cL, (n / 64 + 1), .inr (.inl (fun _ => 0)))), (q8, .inl (cI, (n + 1), .inl (fun _ => 0))), (q9, .inl (cI, (n + 1), .inl (fun _ => 0))), (q10, .inr (0, [.ref q11])), (q11, .inl (cL, (n / 64 + 1), .inr (.inl (fun _ => 0)))), (q12, .inr (0, [.ref q13])), (q13, .inl (cL, (n / 64 + 1), .inr (.inl (fun _ => 0))))] := hD
    refine va_put (D := D) (ci := 1) (v := .ref q12) (ty := .object "OffsetHeap$BitRow") (C := RX1) (T := TX1) (N := 16) hx hb hts in_X1_init_X1 tyX1 tyX1_ok nmX1 hown hK hP hD hS 0 rfl rfl 11 (by decide) (hts (.fieldLink RX1 63 "OffsetHeap" "freshStarts" "LOffsetHeap$BitRow;") (by decide +kernel)) (fun _ h9 => h9) rfl (by decide +kernel) rfl rfl (Nat.le_of_ble_eq_true rfl) dX1_init_161 (fun H locs hP hD hS => ?_)
    have hP : va_P D vwCl [(h0, .inr (1, [.int (nI n), .int (nI B), .int (nI ((n / B) + 1)), .ref q1, .ref q2, .ref q4, .ref q5, .ref q6, .ref q8, .ref q9, .ref q10, .ref q12, .int 0, .int 0, .int 0, .int 0])), (q1, .inl (cI, 8, .inl (fun _ => 0))), (q2, .inr (0, [.ref q3])), (q3, .inl (cL, (n / 64 + 1), .inr (.inl (fun _ => 0)))), (q4, .inl (cI, ((n / B) + 1), .inl (fun _ => 0))), (q5, .inl (cI, n, .inl (fun _ => 0))), (q6, .inr (0, [.ref q7])), (q7, .inl (cL, (n / 64 + 1), .inr (.inl (fun _ => 0)))), (q8, .inl (cI, (n + 1), .inl (fun _ => 0))), (q9, .inl (cI, (n + 1), .inl (fun _ => 0))), (q10, .inr (0, [.ref q11])), (q11, .inl (cL, (n / 64 + 1), .inr (.inl (fun _ => 0)))), (q12, .inr (0, [.ref q13])), (q13, .inl (cL, (n / 64 + 1), .inr (.inl (fun _ => 0))))] H := hP
    have hD : va_D A [(h0, .inr (1, [.int (nI n), .int (nI B), .int (nI ((n / B) + 1)), .ref q1, .ref q2, .ref q4, .ref q5, .ref q6, .ref q8, .ref q9, .ref q10, .ref q12, .int 0, .int 0, .int 0, .int 0])), (q1, .inl (cI, 8, .inl (fun _ => 0))), (q2, .inr (0, [.ref q3])), (q3, .inl (cL, (n / 64 + 1), .inr (.inl (fun _ => 0)))), (q4, .inl (cI, ((n / B) + 1), .inl (fun _ => 0))), (q5, .inl (cI, n, .inl (fun _ => 0))), (q6, .inr (0, [.ref q7])), (q7, .inl (cL, (n / 64 + 1), .inr (.inl (fun _ => 0)))), (q8, .inl (cI, (n + 1), .inl (fun _ => 0))), (q9, .inl (cI, (n + 1), .inl (fun _ => 0))), (q10, .inr (0, [.ref q11])), (q11, .inl (cL, (n / 64 + 1), .inr (.inl (fun _ => 0)))), (q12, .inr (0, [.ref q13])), (q13, .inl (cL, (n / 64 + 1), .inr (.inl (fun _ => 0))))] := hD
    refine lv_aload_n hx hb dX1_init_164 rfl (lv_at hl 0 rfl) ?_
    refine lv_iconst (v := nI 1) hx hb dX1_init_165 (by decide +kernel) ?_
    refine va_put (D := D) (ci := 1) (v := .int (nI 1)) (ty := .int) (C := RX1) (T := TX1) (N := 16) hx hb hts in_X1_init_X1 tyX1 tyX1_ok nmX1 hown hK hP hD hS 0 rfl rfl 12 (by decide) (hts (.fieldLink RX1 66 "OffsetHeap" "top" "I") (by decide +kernel)) (fun _ h9 => h9) rfl (by decide +kernel) rfl rfl (Nat.le_of_ble_eq_true rfl) dX1_init_166 (fun H locs hP hD hS => ?_)
    have hP : va_P D vwCl [(h0, .inr (1, [.int (nI n), .int (nI B), .int (nI ((n / B) + 1)), .ref q1, .ref q2, .ref q4, .ref q5, .ref q6, .ref q8, .ref q9, .ref q10, .ref q12, .int (nI 1), .int 0, .int 0, .int 0])), (q1, .inl (cI, 8, .inl (fun _ => 0))), (q2, .inr (0, [.ref q3])), (q3, .inl (cL, (n / 64 + 1), .inr (.inl (fun _ => 0)))), (q4, .inl (cI, ((n / B) + 1), .inl (fun _ => 0))), (q5, .inl (cI, n, .inl (fun _ => 0))), (q6, .inr (0, [.ref q7])), (q7, .inl (cL, (n / 64 + 1), .inr (.inl (fun _ => 0)))), (q8, .inl (cI, (n + 1), .inl (fun _ => 0))), (q9, .inl (cI, (n + 1), .inl (fun _ => 0))), (q10, .inr (0, [.ref q11])), (q11, .inl (cL, (n / 64 + 1), .inr (.inl (fun _ => 0)))), (q12, .inr (0, [.ref q13])), (q13, .inl (cL, (n / 64 + 1), .inr (.inl (fun _ => 0))))] H := hP
    have hD : va_D A [(h0, .inr (1, [.int (nI n), .int (nI B), .int (nI ((n / B) + 1)), .ref q1, .ref q2, .ref q4, .ref q5, .ref q6, .ref q8, .ref q9, .ref q10, .ref q12, .int (nI 1), .int 0, .int 0, .int 0])), (q1, .inl (cI, 8, .inl (fun _ => 0))), (q2, .inr (0, [.ref q3])), (q3, .inl (cL, (n / 64 + 1), .inr (.inl (fun _ => 0)))), (q4, .inl (cI, ((n / B) + 1), .inl (fun _ => 0))), (q5, .inl (cI, n, .inl (fun _ => 0))), (q6, .inr (0, [.ref q7])), (q7, .inl (cL, (n / 64 + 1), .inr (.inl (fun _ => 0)))), (q8, .inl (cI, (n + 1), .inl (fun _ => 0))), (q9, .inl (cI, (n + 1), .inl (fun _ => 0))), (q10, .inr (0, [.ref q11])), (q11, .inl (cL, (n / 64 + 1), .inr (.inl (fun _ => 0)))), (q12, .inr (0, [.ref q13])), (q13, .inl (cL, (n / 64 + 1), .inr (.inl (fun _ => 0))))] := hD
    exact W.vret hx hb hr (fun t ht hW => ⟨⟨adL [0, q1, q2, q3, q4, q5, q6, q7, q8, q9, q10, q11, q12, q13], rfl, trivial, by rw [ht]; exact hP.sub [0, 1, 2, 3, 4, 5, 6, 7, 8, 9, 10, 11, 12, 13] rfl, hD.sub [0, 1, 2, 3, 4, 5, 6, 7, 8, 9, 10, 11, 12, 13] (by decide) rfl⟩, hS.F ht⟩) hS.2.2 dX1_init_169
  · have ey : y = nI B := by rw [hBy]; exact blk_yes c25
    refine lv_iload_n hx hb dX1_init_28 rfl (lv_at hl 2 rfl) ?_
    refine xk_top ey ?_
    refine lv_goto (tgt := 34) hx hb dX1_init_29 (by decide) ?_
    refine va_putF (D := D) (ci := 1) (v := .int (nI B)) (ty := .int) (C := RX1) (T := TX1) (N := 16) hx hb hts in_X1_init_X1 tyX1 tyX1_ok nmX1 hown hK hP hD hS 0 rfl rfl 1 (by decide) (hts (.fieldLink RX1 26 "OffsetHeap" "blockWords" "I") (by decide +kernel)) (fun _ h9 => h9) rfl hin rfl (by decide +kernel) rfl rfl (Nat.le_of_ble_eq_true rfl) dX1_init_34 (fun H locs hP hD hS => ?_)
    have hP : va_P D vwCl [(h0, .inr (1, [.int (nI n), .int (nI B), .int 0, .null, .null, .null, .null, .null, .null, .null, .null, .null, .int 0, .int 0, .int 0, .int 0]))] H := hP
    have hD : va_D A [(h0, .inr (1, [.int (nI n), .int (nI B), .int 0, .null, .null, .null, .null, .null, .null, .null, .null, .null, .int 0, .int 0, .int 0, .int 0]))] := hD
    refine lv_aload_n hx hb dX1_init_37 rfl (lv_at hl 0 rfl) ?_
    refine lv_aload_n hx hb dX1_init_38 rfl (lv_at hl 0 rfl) ?_
    refine va_get (D := D) (ci := 1) (v := .int (nI n)) (C := RX1) (T := TX1) (N := 16) hx hb hts in_X1_init_X1 hown hK hP 0 rfl rfl 0 (by decide) (hts (.fieldLink RX1 18 "OffsetHeap" "last" "I") (by decide +kernel)) (fun _ h9 => h9) rfl dX1_init_39 ?_
    refine lv_aload_n hx hb dX1_init_42 rfl (lv_at hl 0 rfl) ?_
    refine va_get (D := D) (ci := 1) (v := .int (nI B)) (C := RX1) (T := TX1) (N := 16) hx hb hts in_X1_init_X1 hown hK hP 0 rfl rfl 1 (by decide) (hts (.fieldLink RX1 26 "OffsetHeap" "blockWords" "I") (by decide +kernel)) (fun _ h9 => h9) rfl dX1_init_43 ?_
    refine lv_idiv hx hb dX1_init_46 (nI_ne0 (by omega) (by omega)) ?_
    refine xk_top (pk_div (by omega) (by omega) (by omega)) ?_
    refine lv_iconst (v := nI 1) hx hb dX1_init_47 (by decide +kernel) ?_
    refine lv_iadd hx hb dX1_init_48 ?_
    refine xk_top (nI_add _ _) ?_
    refine va_putF (D := D) (ci := 1) (v := .int (nI ((n / B) + 1))) (ty := .int) (C := RX1) (T := TX1) (N := 16) hx hb hts in_X1_init_X1 tyX1 tyX1_ok nmX1 hown hK hP hD hS 0 rfl rfl 2 (by decide) (hts (.fieldLink RX1 29 "OffsetHeap" "blocks" "I") (by decide +kernel)) (fun _ h9 => h9) rfl hin rfl (by decide +kernel) rfl rfl (Nat.le_of_ble_eq_true rfl) dX1_init_49 (fun H locs hP hD hS => ?_)
    have hP : va_P D vwCl [(h0, .inr (1, [.int (nI n), .int (nI B), .int (nI ((n / B) + 1)), .null, .null, .null, .null, .null, .null, .null, .null, .null, .int 0, .int 0, .int 0, .int 0]))] H := hP
    have hD : va_D A [(h0, .inr (1, [.int (nI n), .int (nI B), .int (nI ((n / B) + 1)), .null, .null, .null, .null, .null, .null, .null, .null, .null, .int 0, .int 0, .int 0, .int 0]))] := hD
    refine lv_aload_n hx hb dX1_init_52 rfl (lv_at hl 0 rfl) ?_
    refine lv_bipush (v := nI 8) hx hb dX1_init_53 (by decide +kernel) ?_
    refine va_newa (atype := .int) (ty := .int) (N' := 8) (a0 := (8, .inl (fun _ => 0))) hx hb (hts (.arrayClass .int) (by decide +kernel)) rfl hK hP hD hS hA (fun _ => rfl) (nI_pos (by omega)) (nI_clamp (by omega)) (by show 8 * 4 ≤ 536870912; omega) (Nat.le_of_ble_eq_true rfl) (by show 0 + 8 ≤ 12767; omega) dX1_init_55 (fun q1 cA9 H hK9 hP hD hS => ?_)
    have eC : cA9 = cI := Option.some.inj ((hK9.2 2 _ rfl).2.symm.trans (hK9.2 0 _ rfl).2)
    rw [eC] at hP hD
    refine W.widen (k := 1) (n := 8) (by omega) (by omega) ?_
    have hP : va_P D vwCl [(h0, .inr (1, [.int (nI n), .int (nI B), .int (nI ((n / B) + 1)), .null, .null, .null, .null, .null, .null, .null, .null, .null, .int 0, .int 0, .int 0, .int 0])), (q1, .inl (cI, 8, .inl (fun _ => 0)))] H := hP
    have hD : va_D A [(h0, .inr (1, [.int (nI n), .int (nI B), .int (nI ((n / B) + 1)), .null, .null, .null, .null, .null, .null, .null, .null, .null, .int 0, .int 0, .int 0, .int 0])), (q1, .inl (cI, 8, .inl (fun _ => 0)))] := hD
    refine va_putF (D := D) (ci := 1) (v := .ref q1) (ty := .array .int) (C := RX1) (T := TX1) (N := 16) hx hb hts in_X1_init_X1 tyX1 tyX1_ok nmX1 hown hK hP hD hS 0 rfl rfl 3 (by decide) (hts (.fieldLink RX1 32 "OffsetHeap" "roots" "[I") (by decide +kernel)) (fun _ h9 => h9) rfl hin rfl (by decide +kernel) rfl rfl (Nat.le_of_ble_eq_true rfl) dX1_init_57 (fun H locs hP hD hS => ?_)
    have hP : va_P D vwCl [(h0, .inr (1, [.int (nI n), .int (nI B), .int (nI ((n / B) + 1)), .ref q1, .null, .null, .null, .null, .null, .null, .null, .null, .int 0, .int 0, .int 0, .int 0])), (q1, .inl (cI, 8, .inl (fun _ => 0)))] H := hP
    have hD : va_D A [(h0, .inr (1, [.int (nI n), .int (nI B), .int (nI ((n / B) + 1)), .ref q1, .null, .null, .null, .null, .null, .null, .null, .null, .int 0, .int 0, .int 0, .int 0])), (q1, .inl (cI, 8, .inl (fun _ => 0)))] := hD
    refine lv_aload_n hx hb dX1_init_60 rfl (lv_at hl 0 rfl) ?_
    refine va_new (ci := 0) (fs := [.null]) (C := RX0) (T := TX0) (N := 1) hx hb hts in_X1_init_X0 tyX0 tyX0_ok hown (hts (.classLink RX1 36 RX0) (by decide +kernel)) (hts (.instantiable RX0 1) (by decide +kernel)) (hts (.initialized RX0) (by decide +kernel)) hK hP hD hS hA rfl (fun j hj => by rcases (show j = 0 by omega) with rfl; rfl) (Nat.le_of_ble_eq_true rfl) (Nat.le_of_ble_eq_true rfl) dX1_init_61 (fun q2 H hP hD hS => ?_)
    refine W.widen (k := 2) (n := 9) (by omega) (by omega) ?_
    have hP : va_P D vwCl [(h0, .inr (1, [.int (nI n), .int (nI B), .int (nI ((n / B) + 1)), .ref q1, .null, .null, .null, .null, .null, .null, .null, .null, .int 0, .int 0, .int 0, .int 0])), (q1, .inl (cI, 8, .inl (fun _ => 0))), (q2, .inr (0, [.null]))] H := hP
    have hD : va_D A [(h0, .inr (1, [.int (nI n), .int (nI B), .int (nI ((n / B) + 1)), .ref q1, .null, .null, .null, .null, .null, .null, .null, .null, .int 0, .int 0, .int 0, .int 0])), (q1, .inl (cI, 8, .inl (fun _ => 0))), (q2, .inr (0, [.null]))] := hD
    refine lv_dup hx hb dX1_init_64 rfl ?_
    refine lv_aload_n hx hb dX1_init_65 rfl (lv_at hl 0 rfl) ?_
    refine va_get (D := D) (ci := 1) (v := .int (nI n)) (C := RX1) (T := TX1) (N := 16) hx hb hts in_X1_init_X1 hown hK hP 0 rfl rfl 0 (by decide) (hts (.fieldLink RX1 18 "OffsetHeap" "last" "I") (by decide +kernel)) (fun _ h9 => h9) rfl dX1_init_66 ?_
    refine xk_aftv (wr := [(h0, .inr (1, [.int (nI n), .int (nI B), .int (nI ((n / B) + 1)), .ref q1, .null, .null, .null, .null, .null, .null, .null, .null, .int 0, .int 0, .int 0, .int 0])), (q1, .inl (cI, 8, .inl (fun _ => 0)))]) (ws' := fun u => [(h0, .inr (1, [.int (nI n), .int (nI B), .int (nI ((n / B) + 1)), .ref q1, .null, .null, .null, .null, .null, .null, .null, .null, .int 0, .int 0, .int 0, .int 0])), (q1, .inl (cI, 8, .inl (fun _ => 0))), (q2, .inr (0, [.ref u])), (u, .inl (cL, (n / 64 + 1), .inr (.inl (fun _ => 0))))]) (va_runI (As := [.int (nI n)]) (rest := [.ref q2, .ref h0]) ⟨hx, hb, hml, hown, hts⟩ (c_BitRow l D cL q2 n H.size hn) (cwI 1 hts gX1_init_X0_init rfl rfl rfl (hts (.initialized RX0) (by decide +kernel)) (hts (.methodLink RX1 38 yX0_init) (by decide +kernel)) (hts (.instanceMethod yX0_init) (by decide +kernel)) rfl (by decide +kernel) ⟨Nat.le_of_ble_eq_true rfl, Nat.le_of_ble_eq_true rfl⟩) (xk_preS rfl (hP.sub [2] rfl) (hK.sub [1] rfl) ((hD.sub [2] (by decide) rfl).weaken (fun _ _ _ _ => trivial))) rfl rfl hl.1 rfl (lv_room (Nat.le_of_ble_eq_true rfl)) dX1_init_69 ⟨Nat.le_of_ble_eq_true rfl, Nat.le_of_ble_eq_true rfl⟩) hP hD hS hA [2] [0, 1] [0, 1, 2, 3] rfl rfl (by decide) (by decide) (fun _ => rfl) (by decide) (fun q3 H locs _ hP hD hS => ?_)
    refine W.widen (k := 3) (n := 72) (by decide) (by decide) ?_
    have hP : va_P D vwCl [(h0, .inr (1, [.int (nI n), .int (nI B), .int (nI ((n / B) + 1)), .ref q1, .null, .null, .null, .null, .null, .null, .null, .null, .int 0, .int 0, .int 0, .int 0])), (q1, .inl (cI, 8, .inl (fun _ => 0))), (q2, .inr (0, [.ref q3])), (q3, .inl (cL, (n / 64 + 1), .inr (.inl (fun _ => 0))))] H := hP
    have hD : va_D A [(h0, .inr (1, [.int (nI n), .int (nI B), .int (nI ((n / B) + 1)), .ref q1, .null, .null, .null, .null, .null, .null, .null, .null, .int 0, .int 0, .int 0, .int 0])), (q1, .inl (cI, 8, .inl (fun _ => 0))), (q2, .inr (0, [.ref q3])), (q3, .inl (cL, (n / 64 + 1), .inr (.inl (fun _ => 0))))] := hD
    refine va_putF (D := D) (ci := 1) (v := .ref q2) (ty := .object "OffsetHeap$BitRow") (C := RX1) (T := TX1) (N := 16) hx hb hts in_X1_init_X1 tyX1 tyX1_ok nmX1 hown hK hP hD hS 0 rfl rfl 4 (by decide) (hts (.fieldLink RX1 41 "OffsetHeap" "bits" "LOffsetHeap$BitRow;") (by decide +kernel)) (fun _ h9 => h9) rfl hin rfl (by decide +kernel) rfl rfl (Nat.le_of_ble_eq_true rfl) dX1_init_72 (fun H locs hP hD hS => ?_)
    have hP : va_P D vwCl [(h0, .inr (1, [.int (nI n), .int (nI B), .int (nI ((n / B) + 1)), .ref q1, .ref q2, .null, .null, .null, .null, .null, .null, .null, .int 0, .int 0, .int 0, .int 0])), (q1, .inl (cI, 8, .inl (fun _ => 0))), (q2, .inr (0, [.ref q3])), (q3, .inl (cL, (n / 64 + 1), .inr (.inl (fun _ => 0))))] H := hP
    have hD : va_D A [(h0, .inr (1, [.int (nI n), .int (nI B), .int (nI ((n / B) + 1)), .ref q1, .ref q2, .null, .null, .null, .null, .null, .null, .null, .int 0, .int 0, .int 0, .int 0])), (q1, .inl (cI, 8, .inl (fun _ => 0))), (q2, .inr (0, [.ref q3])), (q3, .inl (cL, (n / 64 + 1), .inr (.inl (fun _ => 0))))] := hD
    refine lv_aload_n hx hb dX1_init_75 rfl (lv_at hl 0 rfl) ?_
    refine lv_aload_n hx hb dX1_init_76 rfl (lv_at hl 0 rfl) ?_
    refine va_get (D := D) (ci := 1) (v := .int (nI ((n / B) + 1))) (C := RX1) (T := TX1) (N := 16) hx hb hts in_X1_init_X1 hown hK hP 0 rfl rfl 2 (by decide) (hts (.fieldLink RX1 29 "OffsetHeap" "blocks" "I") (by decide +kernel)) (fun _ h9 => h9) rfl dX1_init_77 ?_
    refine va_newa (atype := .int) (ty := .int) (N' := (n / B) + 1) (a0 := ((n / B) + 1, .inl (fun _ => 0))) hx hb (hts (.arrayClass .int) (by decide +kernel)) rfl hK hP hD hS hA (fun _ => rfl) (nI_pos (by omega)) (nI_clamp (by omega)) (by show ((n / B) + 1) * 4 ≤ 536870912; omega) (Nat.le_of_ble_eq_true rfl) (by show 72 + ((n / B) + 1) ≤ 12767; omega) dX1_init_80 (fun q4 cA9 H hK9 hP hD hS => ?_)
    have eC : cA9 = cI := Option.some.inj ((hK9.2 2 _ rfl).2.symm.trans (hK9.2 0 _ rfl).2)
    rw [eC] at hP hD
    refine W.widen (k := 4) (n := 573) (by omega) (by omega) ?_
    have hP : va_P D vwCl [(h0, .inr (1, [.int (nI n), .int (nI B), .int (nI ((n / B) + 1)), .ref q1, .ref q2, .null, .null, .null, .null, .null, .null, .null, .int 0, .int 0, .int 0, .int 0])), (q1, .inl (cI, 8, .inl (fun _ => 0))), (q2, .inr (0, [.ref q3])), (q3, .inl (cL, (n / 64 + 1), .inr (.inl (fun _ => 0)))), (q4, .inl (cI, ((n / B) + 1), .inl (fun _ => 0)))] H := hP
    have hD : va_D A [(h0, .inr (1, [.int (nI n), .int (nI B), .int (nI ((n / B) + 1)), .ref q1, .ref q2, .null, .null, .null, .null, .null, .null, .null, .int 0, .int 0, .int 0, .int 0])), (q1, .inl (cI, 8, .inl (fun _ => 0))), (q2, .inr (0, [.ref q3])), (q3, .inl (cL, (n / 64 + 1), .inr (.inl (fun _ => 0)))), (q4, .inl (cI, ((n / B) + 1), .inl (fun _ => 0)))] := hD
    refine va_putF (D := D) (ci := 1) (v := .ref q4) (ty := .array .int) (C := RX1) (T := TX1) (N := 16) hx hb hts in_X1_init_X1 tyX1 tyX1_ok nmX1 hown hK hP hD hS 0 rfl rfl 5 (by decide) (hts (.fieldLink RX1 45 "OffsetHeap" "offsets" "[I") (by decide +kernel)) (fun _ h9 => h9) rfl hin rfl (by decide +kernel) rfl rfl (Nat.le_of_ble_eq_true rfl) dX1_init_82 (fun H locs hP hD hS => ?_)
    have hP : va_P D vwCl [(h0, .inr (1, [.int (nI n), .int (nI B), .int (nI ((n / B) + 1)), .ref q1, .ref q2, .ref q4, .null, .null, .null, .null, .null, .null, .int 0, .int 0, .int 0, .int 0])), (q1, .inl (cI, 8, .inl (fun _ => 0))), (q2, .inr (0, [.ref q3])), (q3, .inl (cL, (n / 64 + 1), .inr (.inl (fun _ => 0)))), (q4, .inl (cI, ((n / B) + 1), .inl (fun _ => 0)))] H := hP
    have hD : va_D A [(h0, .inr (1, [.int (nI n), .int (nI B), .int (nI ((n / B) + 1)), .ref q1, .ref q2, .ref q4, .null, .null, .null, .null, .null, .null, .int 0, .int 0, .int 0, .int 0])), (q1, .inl (cI, 8, .inl (fun _ => 0))), (q2, .inr (0, [.ref q3])), (q3, .inl (cL, (n / 64 + 1), .inr (.inl (fun _ => 0)))), (q4, .inl (cI, ((n / B) + 1), .inl (fun _ => 0)))] := hD
    refine lv_aload_n hx hb dX1_init_85 rfl (lv_at hl 0 rfl) ?_
    refine lv_aload_n hx hb dX1_init_86 rfl (lv_at hl 0 rfl) ?_
    refine va_get (D := D) (ci := 1) (v := .int (nI n)) (C := RX1) (T := TX1) (N := 16) hx hb hts in_X1_init_X1 hown hK hP 0 rfl rfl 0 (by decide) (hts (.fieldLink RX1 18 "OffsetHeap" "last" "I") (by decide +kernel)) (fun _ h9 => h9) rfl dX1_init_87 ?_
    refine va_newa (atype := .int) (ty := .int) (N' := n) (a0 := (n, .inl (fun _ => 0))) hx hb (hts (.arrayClass .int) (by decide +kernel)) rfl hK hP hD hS hA (fun _ => rfl) (nI_pos (by omega)) (nI_clamp (by omega)) (by show n * 4 ≤ 536870912; omega) (Nat.le_of_ble_eq_true rfl) (by show 573 + n ≤ 12767; omega) dX1_init_90 (fun q5 cA9 H hK9 hP hD hS => ?_)
    have eC : cA9 = cI := Option.some.inj ((hK9.2 2 _ rfl).2.symm.trans (hK9.2 0 _ rfl).2)
    rw [eC] at hP hD
    refine W.widen (k := 5) (n := 4573) (by omega) (by omega) ?_
    have hP : va_P D vwCl [(h0, .inr (1, [.int (nI n), .int (nI B), .int (nI ((n / B) + 1)), .ref q1, .ref q2, .ref q4, .null, .null, .null, .null, .null, .null, .int 0, .int 0, .int 0, .int 0])), (q1, .inl (cI, 8, .inl (fun _ => 0))), (q2, .inr (0, [.ref q3])), (q3, .inl (cL, (n / 64 + 1), .inr (.inl (fun _ => 0)))), (q4, .inl (cI, ((n / B) + 1), .inl (fun _ => 0))), (q5, .inl (cI, n, .inl (fun _ => 0)))] H := hP
    have hD : va_D A [(h0, .inr (1, [.int (nI n), .int (nI B), .int (nI ((n / B) + 1)), .ref q1, .ref q2, .ref q4, .null, .null, .null, .null, .null, .null, .int 0, .int 0, .int 0, .int 0])), (q1, .inl (cI, 8, .inl (fun _ => 0))), (q2, .inr (0, [.ref q3])), (q3, .inl (cL, (n / 64 + 1), .inr (.inl (fun _ => 0)))), (q4, .inl (cI, ((n / B) + 1), .inl (fun _ => 0))), (q5, .inl (cI, n, .inl (fun _ => 0)))] := hD
    refine va_putF (D := D) (ci := 1) (v := .ref q5) (ty := .array .int) (C := RX1) (T := TX1) (N := 16) hx hb hts in_X1_init_X1 tyX1 tyX1_ok nmX1 hown hK hP hD hS 0 rfl rfl 6 (by decide) (hts (.fieldLink RX1 48 "OffsetHeap" "found" "[I") (by decide +kernel)) (fun _ h9 => h9) rfl hin rfl (by decide +kernel) rfl rfl (Nat.le_of_ble_eq_true rfl) dX1_init_92 (fun H locs hP hD hS => ?_)
    have hP : va_P D vwCl [(h0, .inr (1, [.int (nI n), .int (nI B), .int (nI ((n / B) + 1)), .ref q1, .ref q2, .ref q4, .ref q5, .null, .null, .null, .null, .null, .int 0, .int 0, .int 0, .int 0])), (q1, .inl (cI, 8, .inl (fun _ => 0))), (q2, .inr (0, [.ref q3])), (q3, .inl (cL, (n / 64 + 1), .inr (.inl (fun _ => 0)))), (q4, .inl (cI, ((n / B) + 1), .inl (fun _ => 0))), (q5, .inl (cI, n, .inl (fun _ => 0)))] H := hP
    have hD : va_D A [(h0, .inr (1, [.int (nI n), .int (nI B), .int (nI ((n / B) + 1)), .ref q1, .ref q2, .ref q4, .ref q5, .null, .null, .null, .null, .null, .int 0, .int 0, .int 0, .int 0])), (q1, .inl (cI, 8, .inl (fun _ => 0))), (q2, .inr (0, [.ref q3])), (q3, .inl (cL, (n / 64 + 1), .inr (.inl (fun _ => 0)))), (q4, .inl (cI, ((n / B) + 1), .inl (fun _ => 0))), (q5, .inl (cI, n, .inl (fun _ => 0)))] := hD
    refine lv_aload_n hx hb dX1_init_95 rfl (lv_at hl 0 rfl) ?_
    refine va_new (ci := 0) (fs := [.null]) (C := RX0) (T := TX0) (N := 1) hx hb hts in_X1_init_X0 tyX0 tyX0_ok hown (hts (.classLink RX1 36 RX0) (by decide +kernel)) (hts (.instantiable RX0 1) (by decide +kernel)) (hts (.initialized RX0) (by decide +kernel)) hK hP hD hS hA rfl (fun j hj => by rcases (show j = 0 by omega) with rfl; rfl) (Nat.le_of_ble_eq_true rfl) (Nat.le_of_ble_eq_true rfl) dX1_init_96 (fun q6 H hP hD hS => ?_)
    refine W.widen (k := 6) (n := 4574) (by omega) (by omega) ?_
    have hP : va_P D vwCl [(h0, .inr (1, [.int (nI n), .int (nI B), .int (nI ((n / B) + 1)), .ref q1, .ref q2, .ref q4, .ref q5, .null, .null, .null, .null, .null, .int 0, .int 0, .int 0, .int 0])), (q1, .inl (cI, 8, .inl (fun _ => 0))), (q2, .inr (0, [.ref q3])), (q3, .inl (cL, (n / 64 + 1), .inr (.inl (fun _ => 0)))), (q4, .inl (cI, ((n / B) + 1), .inl (fun _ => 0))), (q5, .inl (cI, n, .inl (fun _ => 0))), (q6, .inr (0, [.null]))] H := hP
    have hD : va_D A [(h0, .inr (1, [.int (nI n), .int (nI B), .int (nI ((n / B) + 1)), .ref q1, .ref q2, .ref q4, .ref q5, .null, .null, .null, .null, .null, .int 0, .int 0, .int 0, .int 0])), (q1, .inl (cI, 8, .inl (fun _ => 0))), (q2, .inr (0, [.ref q3])), (q3, .inl (cL, (n / 64 + 1), .inr (.inl (fun _ => 0)))), (q4, .inl (cI, ((n / B) + 1), .inl (fun _ => 0))), (q5, .inl (cI, n, .inl (fun _ => 0))), (q6, .inr (0, [.null]))] := hD
    refine lv_dup hx hb dX1_init_99 rfl ?_
    refine lv_aload_n hx hb dX1_init_100 rfl (lv_at hl 0 rfl) ?_
    refine va_get (D := D) (ci := 1) (v := .int (nI n)) (C := RX1) (T := TX1) (N := 16) hx hb hts in_X1_init_X1 hown hK hP 0 rfl rfl 0 (by decide) (hts (.fieldLink RX1 18 "OffsetHeap" "last" "I") (by decide +kernel)) (fun _ h9 => h9) rfl dX1_init_101 ?_
    refine xk_aftv (wr := [(h0, .inr (1, [.int (nI n), .int (nI B), .int (nI ((n / B) + 1)), .ref q1, .ref q2, .ref q4, .ref q5, .null, .null, .null, .null, .null, .int 0, .int 0, .int 0, .int 0])), (q1, .inl (cI, 8, .inl (fun _ => 0))), (q2, .inr (0, [.ref q3])), (q3, .inl (cL, (n / 64 + 1), .inr (.inl (fun _ => 0)))), (q4, .inl (cI, ((n / B) + 1), .inl (fun _ => 0))), (q5, .inl (cI, n, .inl (fun _ => 0)))]) (ws' := fun u => [(h0, .inr (1, [.int (nI n), .int (nI B), .int (nI ((n / B) + 1)), .ref q1, .ref q2, .ref q4, .ref q5, .null, .null, .null, .null, .null, .int 0, .int 0, .int 0, .int 0])), (q1, .inl (cI, 8, .inl (fun _ => 0))), (q2, .inr (0, [.ref q3])), (q3, .inl (cL, (n / 64 + 1), .inr (.inl (fun _ => 0)))), (q4, .inl (cI, ((n / B) + 1), .inl (fun _ => 0))), (q5, .inl (cI, n, .inl (fun _ => 0))), (q6, .inr (0, [.ref u])), (u, .inl (cL, (n / 64 + 1), .inr (.inl (fun _ => 0))))]) (va_runI (As := [.int (nI n)]) (rest := [.ref q6, .ref h0]) ⟨hx, hb, hml, hown, hts⟩ (c_BitRow l D cL q6 n H.size hn) (cwI 1 hts gX1_init_X0_init rfl rfl rfl (hts (.initialized RX0) (by decide +kernel)) (hts (.methodLink RX1 38 yX0_init) (by decide +kernel)) (hts (.instanceMethod yX0_init) (by decide +kernel)) rfl (by decide +kernel) ⟨Nat.le_of_ble_eq_true rfl, Nat.le_of_ble_eq_true rfl⟩) (xk_preS rfl (hP.sub [6] rfl) (hK.sub [1] rfl) ((hD.sub [6] (by decide) rfl).weaken (fun _ _ _ _ => trivial))) rfl rfl hl.1 rfl (lv_room (Nat.le_of_ble_eq_true rfl)) dX1_init_104 ⟨Nat.le_of_ble_eq_true rfl, Nat.le_of_ble_eq_true rfl⟩) hP hD hS hA [6] [0, 1, 2, 3, 4, 5] [0, 1, 2, 3, 4, 5, 6, 7] rfl rfl (by decide) (by decide) (fun _ => rfl) (by decide) (fun q7 H locs _ hP hD hS => ?_)
    refine W.widen (k := 7) (n := 4637) (by decide) (by decide) ?_
    have hP : va_P D vwCl [(h0, .inr (1, [.int (nI n), .int (nI B), .int (nI ((n / B) + 1)), .ref q1, .ref q2, .ref q4, .ref q5, .null, .null, .null, .null, .null, .int 0, .int 0, .int 0, .int 0])), (q1, .inl (cI, 8, .inl (fun _ => 0))), (q2, .inr (0, [.ref q3])), (q3, .inl (cL, (n / 64 + 1), .inr (.inl (fun _ => 0)))), (q4, .inl (cI, ((n / B) + 1), .inl (fun _ => 0))), (q5, .inl (cI, n, .inl (fun _ => 0))), (q6, .inr (0, [.ref q7])), (q7, .inl (cL, (n / 64 + 1), .inr (.inl (fun _ => 0))))] H := hP
    have hD : va_D A [(h0, .inr (1, [.int (nI n), .int (nI B), .int (nI ((n / B) + 1)), .ref q1, .ref q2, .ref q4, .ref q5, .null, .null, .null, .null, .null, .int 0, .int 0, .int 0, .int 0])), (q1, .inl (cI, 8, .inl (fun _ => 0))), (q2, .inr (0, [.ref q3])), (q3, .inl (cL, (n / 64 + 1), .inr (.inl (fun _ => 0)))), (q4, .inl (cI, ((n / B) + 1), .inl (fun _ => 0))), (q5, .inl (cI, n, .inl (fun _ => 0))), (q6, .inr (0, [.ref q7])), (q7, .inl (cL, (n / 64 + 1), .inr (.inl (fun _ => 0))))] := hD
    refine va_putF (D := D) (ci := 1) (v := .ref q6) (ty := .object "OffsetHeap$BitRow") (C := RX1) (T := TX1) (N := 16) hx hb hts in_X1_init_X1 tyX1 tyX1_ok nmX1 hown hK hP hD hS 0 rfl rfl 7 (by decide) (hts (.fieldLink RX1 51 "OffsetHeap" "seen" "LOffsetHeap$BitRow;") (by decide +kernel)) (fun _ h9 => h9) rfl hin rfl (by decide +kernel) rfl rfl (Nat.le_of_ble_eq_true rfl) dX1_init_107 (fun H locs hP hD hS => ?_)
    have hP : va_P D vwCl [(h0, .inr (1, [.int (nI n), .int (nI B), .int (nI ((n / B) + 1)), .ref q1, .ref q2, .ref q4, .ref q5, .ref q6, .null, .null, .null, .null, .int 0, .int 0, .int 0, .int 0])), (q1, .inl (cI, 8, .inl (fun _ => 0))), (q2, .inr (0, [.ref q3])), (q3, .inl (cL, (n / 64 + 1), .inr (.inl (fun _ => 0)))), (q4, .inl (cI, ((n / B) + 1), .inl (fun _ => 0))), (q5, .inl (cI, n, .inl (fun _ => 0))), (q6, .inr (0, [.ref q7])), (q7, .inl (cL, (n / 64 + 1), .inr (.inl (fun _ => 0))))] H := hP
    have hD : va_D A [(h0, .inr (1, [.int (nI n), .int (nI B), .int (nI ((n / B) + 1)), .ref q1, .ref q2, .ref q4, .ref q5, .ref q6, .null, .null, .null, .null, .int 0, .int 0, .int 0, .int 0])), (q1, .inl (cI, 8, .inl (fun _ => 0))), (q2, .inr (0, [.ref q3])), (q3, .inl (cL, (n / 64 + 1), .inr (.inl (fun _ => 0)))), (q4, .inl (cI, ((n / B) + 1), .inl (fun _ => 0))), (q5, .inl (cI, n, .inl (fun _ => 0))), (q6, .inr (0, [.ref q7])), (q7, .inl (cL, (n / 64 + 1), .inr (.inl (fun _ => 0))))] := hD
    refine lv_aload_n hx hb dX1_init_110 rfl (lv_at hl 0 rfl) ?_
    refine lv_aload_n hx hb dX1_init_111 rfl (lv_at hl 0 rfl) ?_
    refine va_get (D := D) (ci := 1) (v := .int (nI n)) (C := RX1) (T := TX1) (N := 16) hx hb hts in_X1_init_X1 hown hK hP 0 rfl rfl 0 (by decide) (hts (.fieldLink RX1 18 "OffsetHeap" "last" "I") (by decide +kernel)) (fun _ h9 => h9) rfl dX1_init_112 ?_
    refine lv_iconst (v := nI 1) hx hb dX1_init_115 (by decide +kernel) ?_
    refine lv_iadd hx hb dX1_init_116 ?_
    refine xk_top (nI_add _ _) ?_
    refine va_newa (atype := .int) (ty := .int) (N' := n + 1) (a0 := (n + 1, .inl (fun _ => 0))) hx hb (hts (.arrayClass .int) (by decide +kernel)) rfl hK hP hD hS hA (fun _ => rfl) (nI_pos (by omega)) (nI_clamp (by omega)) (by show (n + 1) * 4 ≤ 536870912; omega) (Nat.le_of_ble_eq_true rfl) (by show 4637 + (n + 1) ≤ 12767; omega) dX1_init_117 (fun q8 cA9 H hK9 hP hD hS => ?_)
    have eC : cA9 = cI := Option.some.inj ((hK9.2 2 _ rfl).2.symm.trans (hK9.2 0 _ rfl).2)
    rw [eC] at hP hD
    refine W.widen (k := 8) (n := 8638) (by omega) (by omega) ?_
    have hP : va_P D vwCl [(h0, .inr (1, [.int (nI n), .int (nI B), .int (nI ((n / B) + 1)), .ref q1, .ref q2, .ref q4, .ref q5, .ref q6, .null, .null, .null, .null, .int 0, .int 0, .int 0, .int 0])), (q1, .inl (cI, 8, .inl (fun _ => 0))), (q2, .inr (0, [.ref q3])), (q3, .inl (cL, (n / 64 + 1), .inr (.inl (fun _ => 0)))), (q4, .inl (cI, ((n / B) + 1), .inl (fun _ => 0))), (q5, .inl (cI, n, .inl (fun _ => 0))), (q6, .inr (0, [.ref q7])), (q7, .inl (cL, (n / 64 + 1), .inr (.inl (fun _ => 0)))), (q8, .inl (cI, (n + 1), .inl (fun _ => 0)))] H := hP
    have hD : va_D A [(h0, .inr (1, [.int (nI n), .int (nI B), .int (nI ((n / B) + 1)), .ref q1, .ref q2, .ref q4, .ref q5, .ref q6, .null, .null, .null, .null, .int 0, .int 0, .int 0, .int 0])), (q1, .inl (cI, 8, .inl (fun _ => 0))), (q2, .inr (0, [.ref q3])), (q3, .inl (cL, (n / 64 + 1), .inr (.inl (fun _ => 0)))), (q4, .inl (cI, ((n / B) + 1), .inl (fun _ => 0))), (q5, .inl (cI, n, .inl (fun _ => 0))), (q6, .inr (0, [.ref q7])), (q7, .inl (cL, (n / 64 + 1), .inr (.inl (fun _ => 0)))), (q8, .inl (cI, (n + 1), .inl (fun _ => 0)))] := hD
    refine va_put (D := D) (ci := 1) (v := .ref q8) (ty := .array .int) (C := RX1) (T := TX1) (N := 16) hx hb hts in_X1_init_X1 tyX1 tyX1_ok nmX1 hown hK hP hD hS 0 rfl rfl 8 (by decide) (hts (.fieldLink RX1 54 "OffsetHeap" "space" "[I") (by decide +kernel)) (fun _ h9 => h9) rfl (by decide +kernel) rfl rfl (Nat.le_of_ble_eq_true rfl) dX1_init_119 (fun H locs hP hD hS => ?_)
    have hP : va_P D vwCl [(h0, .inr (1, [.int (nI n), .int (nI B), .int (nI ((n / B) + 1)), .ref q1, .ref q2, .ref q4, .ref q5, .ref q6, .ref q8, .null, .null, .null, .int 0, .int 0, .int 0, .int 0])), (q1, .inl (cI, 8, .inl (fun _ => 0))), (q2, .inr (0, [.ref q3])), (q3, .inl (cL, (n / 64 + 1), .inr (.inl (fun _ => 0)))), (q4, .inl (cI, ((n / B) + 1), .inl (fun _ => 0))), (q5, .inl (cI, n, .inl (fun _ => 0))), (q6, .inr (0, [.ref q7])), (q7, .inl (cL, (n / 64 + 1), .inr (.inl (fun _ => 0)))), (q8, .inl (cI, (n + 1), .inl (fun _ => 0)))] H := hP
    have hD : va_D A [(h0, .inr (1, [.int (nI n), .int (nI B), .int (nI ((n / B) + 1)), .ref q1, .ref q2, .ref q4, .ref q5, .ref q6, .ref q8, .null, .null, .null, .int 0, .int 0, .int 0, .int 0])), (q1, .inl (cI, 8, .inl (fun _ => 0))), (q2, .inr (0, [.ref q3])), (q3, .inl (cL, (n / 64 + 1), .inr (.inl (fun _ => 0)))), (q4, .inl (cI, ((n / B) + 1), .inl (fun _ => 0))), (q5, .inl (cI, n, .inl (fun _ => 0))), (q6, .inr (0, [.ref q7])), (q7, .inl (cL, (n / 64 + 1), .inr (.inl (fun _ => 0)))), (q8, .inl (cI, (n + 1), .inl (fun _ => 0)))] := hD
    refine lv_aload_n hx hb dX1_init_122 rfl (lv_at hl 0 rfl) ?_
    refine lv_aload_n hx hb dX1_init_123 rfl (lv_at hl 0 rfl) ?_
    refine va_get (D := D) (ci := 1) (v := .int (nI n)) (C := RX1) (T := TX1) (N := 16) hx hb hts in_X1_init_X1 hown hK hP 0 rfl rfl 0 (by decide) (hts (.fieldLink RX1 18 "OffsetHeap" "last" "I") (by decide +kernel)) (fun _ h9 => h9) rfl dX1_init_124 ?_
    refine lv_iconst (v := nI 1) hx hb dX1_init_127 (by decide +kernel) ?_
    refine lv_iadd hx hb dX1_init_128 ?_
    refine xk_top (nI_add _ _) ?_
    refine va_newa (atype := .int) (ty := .int) (N' := n + 1) (a0 := (n + 1, .inl (fun _ => 0))) hx hb (hts (.arrayClass .int) (by decide +kernel)) rfl hK hP hD hS hA (fun _ => rfl) (nI_pos (by omega)) (nI_clamp (by omega)) (by show (n + 1) * 4 ≤ 536870912; omega) (Nat.le_of_ble_eq_true rfl) (by show 8638 + (n + 1) ≤ 12767; omega) dX1_init_129 (fun q9 cA9 H hK9 hP hD hS => ?_)
    have eC : cA9 = cI := Option.some.inj ((hK9.2 2 _ rfl).2.symm.trans (hK9.2 0 _ rfl).2)
    rw [eC] at hP hD
    refine W.widen (k := 9) (n := 12639) (by omega) (by omega) ?_
    have hP : va_P D vwCl [(h0, .inr (1, [.int (nI n), .int (nI B), .int (nI ((n / B) + 1)), .ref q1, .ref q2, .ref q4, .ref q5, .ref q6, .ref q8, .null, .null, .null, .int 0, .int 0, .int 0, .int 0])), (q1, .inl (cI, 8, .inl (fun _ => 0))), (q2, .inr (0, [.ref q3])), (q3, .inl (cL, (n / 64 + 1), .inr (.inl (fun _ => 0)))), (q4, .inl (cI, ((n / B) + 1), .inl (fun _ => 0))), (q5, .inl (cI, n, .inl (fun _ => 0))), (q6, .inr (0, [.ref q7])), (q7, .inl (cL, (n / 64 + 1), .inr (.inl (fun _ => 0)))), (q8, .inl (cI, (n + 1), .inl (fun _ => 0))), (q9, .inl (cI, (n + 1), .inl (fun _ => 0)))] H := hP
    have hD : va_D A [(h0, .inr (1, [.int (nI n), .int (nI B), .int (nI ((n / B) + 1)), .ref q1, .ref q2, .ref q4, .ref q5, .ref q6, .ref q8, .null, .null, .null, .int 0, .int 0, .int 0, .int 0])), (q1, .inl (cI, 8, .inl (fun _ => 0))), (q2, .inr (0, [.ref q3])), (q3, .inl (cL, (n / 64 + 1), .inr (.inl (fun _ => 0)))), (q4, .inl (cI, ((n / B) + 1), .inl (fun _ => 0))), (q5, .inl (cI, n, .inl (fun _ => 0))), (q6, .inr (0, [.ref q7])), (q7, .inl (cL, (n / 64 + 1), .inr (.inl (fun _ => 0)))), (q8, .inl (cI, (n + 1), .inl (fun _ => 0))), (q9, .inl (cI, (n + 1), .inl (fun _ => 0)))] := hD
    refine va_put (D := D) (ci := 1) (v := .ref q9) (ty := .array .int) (C := RX1) (T := TX1) (N := 16) hx hb hts in_X1_init_X1 tyX1 tyX1_ok nmX1 hown hK hP hD hS 0 rfl rfl 9 (by decide) (hts (.fieldLink RX1 57 "OffsetHeap" "fresh" "[I") (by decide +kernel)) (fun _ h9 => h9) rfl (by decide +kernel) rfl rfl (Nat.le_of_ble_eq_true rfl) dX1_init_131 (fun H locs hP hD hS => ?_)
    have hP : va_P D vwCl [(h0, .inr (1, [.int (nI n), .int (nI B), .int (nI ((n / B) + 1)), .ref q1, .ref q2, .ref q4, .ref q5, .ref q6, .ref q8, .ref q9, .null, .null, .int 0, .int 0, .int 0, .int 0])), (q1, .inl (cI, 8, .inl (fun _ => 0))), (q2, .inr (0, [.ref q3])), (q3, .inl (cL, (n / 64 + 1), .inr (.inl (fun _ => 0)))), (q4, .inl (cI, ((n / B) + 1), .inl (fun _ => 0))), (q5, .inl (cI, n, .inl (fun _ => 0))), (q6, .inr (0, [.ref q7])), (q7, .inl (cL, (n / 64 + 1), .inr (.inl (fun _ => 0)))), (q8, .inl (cI, (n + 1), .inl (fun _ => 0))), (q9, .inl (cI, (n + 1), .inl (fun _ => 0)))] H := hP
    have hD : va_D A [(h0, .inr (1, [.int (nI n), .int (nI B), .int (nI ((n / B) + 1)), .ref q1, .ref q2, .ref q4, .ref q5, .ref q6, .ref q8, .ref q9, .null, .null, .int 0, .int 0, .int 0, .int 0])), (q1, .inl (cI, 8, .inl (fun _ => 0))), (q2, .inr (0, [.ref q3])), (q3, .inl (cL, (n / 64 + 1), .inr (.inl (fun _ => 0)))), (q4, .inl (cI, ((n / B) + 1), .inl (fun _ => 0))), (q5, .inl (cI, n, .inl (fun _ => 0))), (q6, .inr (0, [.ref q7])), (q7, .inl (cL, (n / 64 + 1), .inr (.inl (fun _ => 0)))), (q8, .inl (cI, (n + 1), .inl (fun _ => 0))), (q9, .inl (cI, (n + 1), .inl (fun _ => 0)))] := hD
    refine lv_aload_n hx hb dX1_init_134 rfl (lv_at hl 0 rfl) ?_
    refine va_new (ci := 0) (fs := [.null]) (C := RX0) (T := TX0) (N := 1) hx hb hts in_X1_init_X0 tyX0 tyX0_ok hown (hts (.classLink RX1 36 RX0) (by decide +kernel)) (hts (.instantiable RX0 1) (by decide +kernel)) (hts (.initialized RX0) (by decide +kernel)) hK hP hD hS hA rfl (fun j hj => by rcases (show j = 0 by omega) with rfl; rfl) (Nat.le_of_ble_eq_true rfl) (Nat.le_of_ble_eq_true rfl) dX1_init_135 (fun q10 H hP hD hS => ?_)
    refine W.widen (k := 10) (n := 12640) (by omega) (by omega) ?_
    have hP : va_P D vwCl [(h0, .inr (1, [.int (nI n), .int (nI B), .int (nI ((n / B) + 1)), .ref q1, .ref q2, .ref q4, .ref q5, .ref q6, .ref q8, .ref q9, .null, .null, .int 0, .int 0, .int 0, .int 0])), (q1, .inl (cI, 8, .inl (fun _ => 0))), (q2, .inr (0, [.ref q3])), (q3, .inl (cL, (n / 64 + 1), .inr (.inl (fun _ => 0)))), (q4, .inl (cI, ((n / B) + 1), .inl (fun _ => 0))), (q5, .inl (cI, n, .inl (fun _ => 0))), (q6, .inr (0, [.ref q7])), (q7, .inl (cL, (n / 64 + 1), .inr (.inl (fun _ => 0)))), (q8, .inl (cI, (n + 1), .inl (fun _ => 0))), (q9, .inl (cI, (n + 1), .inl (fun _ => 0))), (q10, .inr (0, [.null]))] H := hP
    have hD : va_D A [(h0, .inr (1, [.int (nI n), .int (nI B), .int (nI ((n / B) + 1)), .ref q1, .ref q2, .ref q4, .ref q5, .ref q6, .ref q8, .ref q9, .null, .null, .int 0, .int 0, .int 0, .int 0])), (q1, .inl (cI, 8, .inl (fun _ => 0))), (q2, .inr (0, [.ref q3])), (q3, .inl (cL, (n / 64 + 1), .inr (.inl (fun _ => 0)))), (q4, .inl (cI, ((n / B) + 1), .inl (fun _ => 0))), (q5, .inl (cI, n, .inl (fun _ => 0))), (q6, .inr (0, [.ref q7])), (q7, .inl (cL, (n / 64 + 1), .inr (.inl (fun _ => 0)))), (q8, .inl (cI, (n + 1), .inl (fun _ => 0))), (q9, .inl (cI, (n + 1), .inl (fun _ => 0))), (q10, .inr (0, [.null]))] := hD
    refine lv_dup hx hb dX1_init_138 rfl ?_
    refine lv_aload_n hx hb dX1_init_139 rfl (lv_at hl 0 rfl) ?_
    refine va_get (D := D) (ci := 1) (v := .int (nI n)) (C := RX1) (T := TX1) (N := 16) hx hb hts in_X1_init_X1 hown hK hP 0 rfl rfl 0 (by decide) (hts (.fieldLink RX1 18 "OffsetHeap" "last" "I") (by decide +kernel)) (fun _ h9 => h9) rfl dX1_init_140 ?_
    refine xk_aftv (wr := [(h0, .inr (1, [.int (nI n), .int (nI B), .int (nI ((n / B) + 1)), .ref q1, .ref q2, .ref q4, .ref q5, .ref q6, .ref q8, .ref q9, .null, .null, .int 0, .int 0, .int 0, .int 0])), (q1, .inl (cI, 8, .inl (fun _ => 0))), (q2, .inr (0, [.ref q3])), (q3, .inl (cL, (n / 64 + 1), .inr (.inl (fun _ => 0)))), (q4, .inl (cI, ((n / B) + 1), .inl (fun _ => 0))), (q5, .inl (cI, n, .inl (fun _ => 0))), (q6, .inr (0, [.ref q7])), (q7, .inl (cL, (n / 64 + 1), .inr (.inl (fun _ => 0)))), (q8, .inl (cI, (n + 1), .inl (fun _ => 0))), (q9, .inl (cI, (n + 1), .inl (fun _ => 0)))]) (ws' := fun u => [(h0, .inr (1, [.int (nI n), .int (nI B), .int (nI ((n / B) + 1)), .ref q1, .ref q2, .ref q4, .ref q5, .ref q6, .ref q8, .ref q9, .null, .null, .int 0, .int 0, .int 0, .int 0])), (q1, .inl (cI, 8, .inl (fun _ => 0))), (q2, .inr (0, [.ref q3])), (q3, .inl (cL, (n / 64 + 1), .inr (.inl (fun _ => 0)))), (q4, .inl (cI, ((n / B) + 1), .inl (fun _ => 0))), (q5, .inl (cI, n, .inl (fun _ => 0))), (q6, .inr (0, [.ref q7])), (q7, .inl (cL, (n / 64 + 1), .inr (.inl (fun _ => 0)))), (q8, .inl (cI, (n + 1), .inl (fun _ => 0))), (q9, .inl (cI, (n + 1), .inl (fun _ => 0))), (q10, .inr (0, [.ref u])), (u, .inl (cL, (n / 64 + 1), .inr (.inl (fun _ => 0))))]) (va_runI (As := [.int (nI n)]) (rest := [.ref q10, .ref h0]) ⟨hx, hb, hml, hown, hts⟩ (c_BitRow l D cL q10 n H.size hn) (cwI 1 hts gX1_init_X0_init rfl rfl rfl (hts (.initialized RX0) (by decide +kernel)) (hts (.methodLink RX1 38 yX0_init) (by decide +kernel)) (hts (.instanceMethod yX0_init) (by decide +kernel)) rfl (by decide +kernel) ⟨Nat.le_of_ble_eq_true rfl, Nat.le_of_ble_eq_true rfl⟩) (xk_preS rfl (hP.sub [10] rfl) (hK.sub [1] rfl) ((hD.sub [10] (by decide) rfl).weaken (fun _ _ _ _ => trivial))) rfl rfl hl.1 rfl (lv_room (Nat.le_of_ble_eq_true rfl)) dX1_init_143 ⟨Nat.le_of_ble_eq_true rfl, Nat.le_of_ble_eq_true rfl⟩) hP hD hS hA [10] [0, 1, 2, 3, 4, 5, 6, 7, 8, 9] [0, 1, 2, 3, 4, 5, 6, 7, 8, 9, 10, 11] rfl rfl (by decide) (by decide) (fun _ => rfl) (by decide) (fun q11 H locs _ hP hD hS => ?_)
    refine W.widen (k := 11) (n := 12703) (by decide) (by decide) ?_
    have hP : va_P D vwCl [(h0, .inr (1, [.int (nI n), .int (nI B), .int (nI ((n / B) + 1)), .ref q1, .ref q2, .ref q4, .ref q5, .ref q6, .ref q8, .ref q9, .null, .null, .int 0, .int 0, .int 0, .int 0])), (q1, .inl (cI, 8, .inl (fun _ => 0))), (q2, .inr (0, [.ref q3])), (q3, .inl (cL, (n / 64 + 1), .inr (.inl (fun _ => 0)))), (q4, .inl (cI, ((n / B) + 1), .inl (fun _ => 0))), (q5, .inl (cI, n, .inl (fun _ => 0))), (q6, .inr (0, [.ref q7])), (q7, .inl (cL, (n / 64 + 1), .inr (.inl (fun _ => 0)))), (q8, .inl (cI, (n + 1), .inl (fun _ => 0))), (q9, .inl (cI, (n + 1), .inl (fun _ => 0))), (q10, .inr (0, [.ref q11])), (q11, .inl (cL, (n / 64 + 1), .inr (.inl (fun _ => 0))))] H := hP
    have hD : va_D A [(h0, .inr (1, [.int (nI n), .int (nI B), .int (nI ((n / B) + 1)), .ref q1, .ref q2, .ref q4, .ref q5, .ref q6, .ref q8, .ref q9, .null, .null, .int 0, .int 0, .int 0, .int 0])), (q1, .inl (cI, 8, .inl (fun _ => 0))), (q2, .inr (0, [.ref q3])), (q3, .inl (cL, (n / 64 + 1), .inr (.inl (fun _ => 0)))), (q4, .inl (cI, ((n / B) + 1), .inl (fun _ => 0))), (q5, .inl (cI, n, .inl (fun _ => 0))), (q6, .inr (0, [.ref q7])), (q7, .inl (cL, (n / 64 + 1), .inr (.inl (fun _ => 0)))), (q8, .inl (cI, (n + 1), .inl (fun _ => 0))), (q9, .inl (cI, (n + 1), .inl (fun _ => 0))), (q10, .inr (0, [.ref q11])), (q11, .inl (cL, (n / 64 + 1), .inr (.inl (fun _ => 0))))] := hD
    refine va_put (D := D) (ci := 1) (v := .ref q10) (ty := .object "OffsetHeap$BitRow") (C := RX1) (T := TX1) (N := 16) hx hb hts in_X1_init_X1 tyX1 tyX1_ok nmX1 hown hK hP hD hS 0 rfl rfl 10 (by decide) (hts (.fieldLink RX1 60 "OffsetHeap" "starts" "LOffsetHeap$BitRow;") (by decide +kernel)) (fun _ h9 => h9) rfl (by decide +kernel) rfl rfl (Nat.le_of_ble_eq_true rfl) dX1_init_146 (fun H locs hP hD hS => ?_)
    have hP : va_P D vwCl [(h0, .inr (1, [.int (nI n), .int (nI B), .int (nI ((n / B) + 1)), .ref q1, .ref q2, .ref q4, .ref q5, .ref q6, .ref q8, .ref q9, .ref q10, .null, .int 0, .int 0, .int 0, .int 0])), (q1, .inl (cI, 8, .inl (fun _ => 0))), (q2, .inr (0, [.ref q3])), (q3, .inl (cL, (n / 64 + 1), .inr (.inl (fun _ => 0)))), (q4, .inl (cI, ((n / B) + 1), .inl (fun _ => 0))), (q5, .inl (cI, n, .inl (fun _ => 0))), (q6, .inr (0, [.ref q7])), (q7, .inl (cL, (n / 64 + 1), .inr (.inl (fun _ => 0)))), (q8, .inl (cI, (n + 1), .inl (fun _ => 0))), (q9, .inl (cI, (n + 1), .inl (fun _ => 0))), (q10, .inr (0, [.ref q11])), (q11, .inl (cL, (n / 64 + 1), .inr (.inl (fun _ => 0))))] H := hP
    have hD : va_D A [(h0, .inr (1, [.int (nI n), .int (nI B), .int (nI ((n / B) + 1)), .ref q1, .ref q2, .ref q4, .ref q5, .ref q6, .ref q8, .ref q9, .ref q10, .null, .int 0, .int 0, .int 0, .int 0])), (q1, .inl (cI, 8, .inl (fun _ => 0))), (q2, .inr (0, [.ref q3])), (q3, .inl (cL, (n / 64 + 1), .inr (.inl (fun _ => 0)))), (q4, .inl (cI, ((n / B) + 1), .inl (fun _ => 0))), (q5, .inl (cI, n, .inl (fun _ => 0))), (q6, .inr (0, [.ref q7])), (q7, .inl (cL, (n / 64 + 1), .inr (.inl (fun _ => 0)))), (q8, .inl (cI, (n + 1), .inl (fun _ => 0))), (q9, .inl (cI, (n + 1), .inl (fun _ => 0))), (q10, .inr (0, [.ref q11])), (q11, .inl (cL, (n / 64 + 1), .inr (.inl (fun _ => 0))))] := hD
    refine lv_aload_n hx hb dX1_init_149 rfl (lv_at hl 0 rfl) ?_
    refine va_new (ci := 0) (fs := [.null]) (C := RX0) (T := TX0) (N := 1) hx hb hts in_X1_init_X0 tyX0 tyX0_ok hown (hts (.classLink RX1 36 RX0) (by decide +kernel)) (hts (.instantiable RX0 1) (by decide +kernel)) (hts (.initialized RX0) (by decide +kernel)) hK hP hD hS hA rfl (fun j hj => by rcases (show j = 0 by omega) with rfl; rfl) (Nat.le_of_ble_eq_true rfl) (Nat.le_of_ble_eq_true rfl) dX1_init_150 (fun q12 H hP hD hS => ?_)
    refine W.widen (k := 12) (n := 12704) (by omega) (by omega) ?_
    have hP : va_P D vwCl [(h0, .inr (1, [.int (nI n), .int (nI B), .int (nI ((n / B) + 1)), .ref q1, .ref q2, .ref q4, .ref q5, .ref q6, .ref q8, .ref q9, .ref q10, .null, .int 0, .int 0, .int 0, .int 0])), (q1, .inl (cI, 8, .inl (fun _ => 0))), (q2, .inr (0, [.ref q3])), (q3, .inl (cL, (n / 64 + 1), .inr (.inl (fun _ => 0)))), (q4, .inl (cI, ((n / B) + 1), .inl (fun _ => 0))), (q5, .inl (cI, n, .inl (fun _ => 0))), (q6, .inr (0, [.ref q7])), (q7, .inl (cL, (n / 64 + 1), .inr (.inl (fun _ => 0)))), (q8, .inl (cI, (n + 1), .inl (fun _ => 0))), (q9, .inl (cI, (n + 1), .inl (fun _ => 0))), (q10, .inr (0, [.ref q11])), (q11, .inl (cL, (n / 64 + 1), .inr (.inl (fun _ => 0)))), (q12, .inr (0, [.null]))] H := hP
    have hD : va_D A [(h0, .inr (1, [.int (nI n), .int (nI B), .int (nI ((n / B) + 1)), .ref q1, .ref q2, .ref q4, .ref q5, .ref q6, .ref q8, .ref q9, .ref q10, .null, .int 0, .int 0, .int 0, .int 0])), (q1, .inl (cI, 8, .inl (fun _ => 0))), (q2, .inr (0, [.ref q3])), (q3, .inl (cL, (n / 64 + 1), .inr (.inl (fun _ => 0)))), (q4, .inl (cI, ((n / B) + 1), .inl (fun _ => 0))), (q5, .inl (cI, n, .inl (fun _ => 0))), (q6, .inr (0, [.ref q7])), (q7, .inl (cL, (n / 64 + 1), .inr (.inl (fun _ => 0)))), (q8, .inl (cI, (n + 1), .inl (fun _ => 0))), (q9, .inl (cI, (n + 1), .inl (fun _ => 0))), (q10, .inr (0, [.ref q11])), (q11, .inl (cL, (n / 64 + 1), .inr (.inl (fun _ => 0)))), (q12, .inr (0, [.null]))] := hD
    refine lv_dup hx hb dX1_init_153 rfl ?_
    refine lv_aload_n hx hb dX1_init_154 rfl (lv_at hl 0 rfl) ?_
    refine va_get (D := D) (ci := 1) (v := .int (nI n)) (C := RX1) (T := TX1) (N := 16) hx hb hts in_X1_init_X1 hown hK hP 0 rfl rfl 0 (by decide) (hts (.fieldLink RX1 18 "OffsetHeap" "last" "I") (by decide +kernel)) (fun _ h9 => h9) rfl dX1_init_155 ?_
    refine xk_aftv (wr := [(h0, .inr (1, [.int (nI n), .int (nI B), .int (nI ((n / B) + 1)), .ref q1, .ref q2, .ref q4, .ref q5, .ref q6, .ref q8, .ref q9, .ref q10, .null, .int 0, .int 0, .int 0, .int 0])), (q1, .inl (cI, 8, .inl (fun _ => 0))), (q2, .inr (0, [.ref q3])), (q3, .inl (cL, (n / 64 + 1), .inr (.inl (fun _ => 0)))), (q4, .inl (cI, ((n / B) + 1), .inl (fun _ => 0))), (q5, .inl (cI, n, .inl (fun _ => 0))), (q6, .inr (0, [.ref q7])), (q7, .inl (cL, (n / 64 + 1), .inr (.inl (fun _ => 0)))), (q8, .inl (cI, (n + 1), .inl (fun _ => 0))), (q9, .inl (cI, (n + 1), .inl (fun _ => 0))), (q10, .inr (0, [.ref q11])), (q11, .inl (cL, (n / 64 + 1), .inr (.inl (fun _ => 0))))]) (ws' := fun u => [(h0, .inr (1, [.int (nI n), .int (nI B), .int (nI ((n / B) + 1)), .ref q1, .ref q2, .ref q4, .ref q5, .ref q6, .ref q8, .ref q9, .ref q10, .null, .int 0, .int 0, .int 0, .int 0])), (q1, .inl (cI, 8, .inl (fun _ => 0))), (q2, .inr (0, [.ref q3])), (q3, .inl (cL, (n / 64 + 1), .inr (.inl (fun _ => 0)))), (q4, .inl (cI, ((n / B) + 1), .inl (fun _ => 0))), (q5, .inl (cI, n, .inl (fun _ => 0))), (q6, .inr (0, [.ref q7])), (q7, .inl (cL, (n / 64 + 1), .inr (.inl (fun _ => 0)))), (q8, .inl (cI, (n + 1), .inl (fun _ => 0))), (q9, .inl (cI, (n + 1), .inl (fun _ => 0))), (q10, .inr (0, [.ref q11])), (q11, .inl (cL, (n / 64 + 1), .inr (.inl (fun _ => 0)))), (q12, .inr (0, [.ref u])), (u, .inl (cL, (n / 64 + 1), .inr (.inl (fun _ => 0))))]) (va_runI (As := [.int (nI n)]) (rest := [.ref q12, .ref h0]) ⟨hx, hb, hml, hown, hts⟩ (c_BitRow l D cL q12 n H.size hn) (cwI 1 hts gX1_init_X0_init rfl rfl rfl (hts (.initialized RX0) (by decide +kernel)) (hts (.methodLink RX1 38 yX0_init) (by decide +kernel)) (hts (.instanceMethod yX0_init) (by decide +kernel)) rfl (by decide +kernel) ⟨Nat.le_of_ble_eq_true rfl, Nat.le_of_ble_eq_true rfl⟩) (xk_preS rfl (hP.sub [12] rfl) (hK.sub [1] rfl) ((hD.sub [12] (by decide) rfl).weaken (fun _ _ _ _ => trivial))) rfl rfl hl.1 rfl (lv_room (Nat.le_of_ble_eq_true rfl)) dX1_init_158 ⟨Nat.le_of_ble_eq_true rfl, Nat.le_of_ble_eq_true rfl⟩) hP hD hS hA [12] [0, 1, 2, 3, 4, 5, 6, 7, 8, 9, 10, 11] [0, 1, 2, 3, 4, 5, 6, 7, 8, 9, 10, 11, 12, 13] rfl rfl (by decide) (by decide) (fun _ => rfl) (by decide) (fun q13 H locs _ hP hD hS => ?_)
    refine W.widen (k := 13) (n := 12767) (by decide) (by decide) ?_
    have hP : va_P D vwCl [(h0, .inr (1, [.int (nI n), .int (nI B), .int (nI ((n / B) + 1)), .ref q1, .ref q2, .ref q4, .ref q5, .ref q6, .ref q8, .ref q9, .ref q10, .null, .int 0, .int 0, .int 0, .int 0])), (q1, .inl (cI, 8, .inl (fun _ => 0))), (q2, .inr (0, [.ref q3])), (q3, .inl (cL, (n / 64 + 1), .inr (.inl (fun _ => 0)))), (q4, .inl (cI, ((n / B) + 1), .inl (fun _ => 0))), (q5, .inl (cI, n, .inl (fun _ => 0))), (q6, .inr (0, [.ref q7])), (q7, .inl (cL, (n / 64 + 1), .inr (.inl (fun _ => 0)))), (q8, .inl (cI, (n + 1), .inl (fun _ => 0))), (q9, .inl (cI, (n + 1), .inl (fun _ => 0))), (q10, .inr (0, [.ref q11])), (q11, .inl (cL, (n / 64 + 1), .inr (.inl (fun _ => 0)))), (q12, .inr (0, [.ref q13])), (q13, .inl (cL, (n / 64 + 1), .inr (.inl (fun _ => 0))))] H := hP
    have hD : va_D A [(h0, .inr (1, [.int (nI n), .int (nI B), .int (nI ((n / B) + 1)), .ref q1, .ref q2, .ref q4, .ref q5, .ref q6, .ref q8, .ref q9, .ref q10, .null, .int 0, .int 0, .int 0, .int 0])), (q1, .inl (cI, 8, .inl (fun _ => 0))), (q2, .inr (0, [.ref q3])), (q3, .inl (cL, (n / 64 + 1), .inr (.inl (fun _ => 0)))), (q4, .inl (cI, ((n / B) + 1), .inl (fun _ => 0))), (q5, .inl (cI, n, .inl (fun _ => 0))), (q6, .inr (0, [.ref q7])), (q7, .inl (cL, (n / 64 + 1), .inr (.inl (fun _ => 0)))), (q8, .inl (cI, (n + 1), .inl (fun _ => 0))), (q9, .inl (cI, (n + 1), .inl (fun _ => 0))), (q10, .inr (0, [.ref q11])), (q11, .inl (cL, (n / 64 + 1), .inr (.inl (fun _ => 0)))), (q12, .inr (0, [.ref q13])), (q13, .inl (cL, (n / 64 + 1), .inr (.inl (fun _ => 0))))] := hD
    refine va_put (D := D) (ci := 1) (v := .ref q12) (ty := .object "OffsetHeap$BitRow") (C := RX1) (T := TX1) (N := 16) hx hb hts in_X1_init_X1 tyX1 tyX1_ok nmX1 hown hK hP hD hS 0 rfl rfl 11 (by decide) (hts (.fieldLink RX1 63 "OffsetHeap" "freshStarts" "LOffsetHeap$BitRow;") (by decide +kernel)) (fun _ h9 => h9) rfl (by decide +kernel) rfl rfl (Nat.le_of_ble_eq_true rfl) dX1_init_161 (fun H locs hP hD hS => ?_)
    have hP : va_P D vwCl [(h0, .inr (1, [.int (nI n), .int (nI B), .int (nI ((n / B) + 1)), .ref q1, .ref q2, .ref q4, .ref q5, .ref q6, .ref q8, .ref q9, .ref q10, .ref q12, .int 0, .int 0, .int 0, .int 0])), (q1, .inl (cI, 8, .inl (fun _ => 0))), (q2, .inr (0, [.ref q3])), (q3, .inl (cL, (n / 64 + 1), .inr (.inl (fun _ => 0)))), (q4, .inl (cI, ((n / B) + 1), .inl (fun _ => 0))), (q5, .inl (cI, n, .inl (fun _ => 0))), (q6, .inr (0, [.ref q7])), (q7, .inl (cL, (n / 64 + 1), .inr (.inl (fun _ => 0)))), (q8, .inl (cI, (n + 1), .inl (fun _ => 0))), (q9, .inl (cI, (n + 1), .inl (fun _ => 0))), (q10, .inr (0, [.ref q11])), (q11, .inl (cL, (n / 64 + 1), .inr (.inl (fun _ => 0)))), (q12, .inr (0, [.ref q13])), (q13, .inl (cL, (n / 64 + 1), .inr (.inl (fun _ => 0))))] H := hP
    have hD : va_D A [(h0, .inr (1, [.int (nI n), .int (nI B), .int (nI ((n / B) + 1)), .ref q1, .ref q2, .ref q4, .ref q5, .ref q6, .ref q8, .ref q9, .ref q10, .ref q12, .int 0, .int 0, .int 0, .int 0])), (q1, .inl (cI, 8, .inl (fun _ => 0))), (q2, .inr (0, [.ref q3])), (q3, .inl (cL, (n / 64 + 1), .inr (.inl (fun _ => 0)))), (q4, .inl (cI, ((n / B) + 1), .inl (fun _ => 0))), (q5, .inl (cI, n, .inl (fun _ => 0))), (q6, .inr (0, [.ref q7])), (q7, .inl (cL, (n / 64 + 1), .inr (.inl (fun _ => 0)))), (q8, .inl (cI, (n + 1), .inl (fun _ => 0))), (q9, .inl (cI, (n + 1), .inl (fun _ => 0))), (q10, .inr (0, [.ref q11])), (q11, .inl (cL, (n / 64 + 1), .inr (.inl (fun _ => 0)))), (q12, .inr (0, [.ref q13])), (q13, .inl (cL, (n / 64 + 1), .inr (.inl (fun _ => 0))))] := hD
    refine lv_aload_n hx hb dX1_init_164 rfl (lv_at hl 0 rfl) ?_
    refine lv_iconst (v := nI 1) hx hb dX1_init_165 (by decide +kernel) ?_
    refine va_put (D := D) (ci := 1) (v := .int (nI 1)) (ty := .int) (C := RX1) (T := TX1) (N := 16) hx hb hts in_X1_init_X1 tyX1 tyX1_ok nmX1 hown hK hP hD hS 0 rfl rfl 12 (by decide) (hts (.fieldLink RX1 66 "OffsetHeap" "top" "I") (by decide +kernel)) (fun _ h9 => h9) rfl (by decide +kernel) rfl rfl (Nat.le_of_ble_eq_true rfl) dX1_init_166 (fun H locs hP hD hS => ?_)
    have hP : va_P D vwCl [(h0, .inr (1, [.int (nI n), .int (nI B), .int (nI ((n / B) + 1)), .ref q1, .ref q2, .ref q4, .ref q5, .ref q6, .ref q8, .ref q9, .ref q10, .ref q12, .int (nI 1), .int 0, .int 0, .int 0])), (q1, .inl (cI, 8, .inl (fun _ => 0))), (q2, .inr (0, [.ref q3])), (q3, .inl (cL, (n / 64 + 1), .inr (.inl (fun _ => 0)))), (q4, .inl (cI, ((n / B) + 1), .inl (fun _ => 0))), (q5, .inl (cI, n, .inl (fun _ => 0))), (q6, .inr (0, [.ref q7])), (q7, .inl (cL, (n / 64 + 1), .inr (.inl (fun _ => 0)))), (q8, .inl (cI, (n + 1), .inl (fun _ => 0))), (q9, .inl (cI, (n + 1), .inl (fun _ => 0))), (q10, .inr (0, [.ref q11])), (q11, .inl (cL, (n / 64 + 1), .inr (.inl (fun _ => 0)))), (q12, .inr (0, [.ref q13])), (q13, .inl (cL, (n / 64 + 1), .inr (.inl (fun _ => 0))))] H := hP
    have hD : va_D A [(h0, .inr (1, [.int (nI n), .int (nI B), .int (nI ((n / B) + 1)), .ref q1, .ref q2, .ref q4, .ref q5, .ref q6, .ref q8, .ref q9, .ref q10, .ref q12, .int (nI 1), .int 0, .int 0, .int 0])), (q1, .inl (cI, 8, .inl (fun _ => 0))), (q2, .inr (0, [.ref q3])), (q3, .inl (cL, (n / 64 + 1), .inr (.inl (fun _ => 0)))), (q4, .inl (cI, ((n / B) + 1), .inl (fun _ => 0))), (q5, .inl (cI, n, .inl (fun _ => 0))), (q6, .inr (0, [.ref q7])), (q7, .inl (cL, (n / 64 + 1), .inr (.inl (fun _ => 0)))), (q8, .inl (cI, (n + 1), .inl (fun _ => 0))), (q9, .inl (cI, (n + 1), .inl (fun _ => 0))), (q10, .inr (0, [.ref q11])), (q11, .inl (cL, (n / 64 + 1), .inr (.inl (fun _ => 0)))), (q12, .inr (0, [.ref q13])), (q13, .inl (cL, (n / 64 + 1), .inr (.inl (fun _ => 0))))] := hD
    exact W.vret hx hb hr (fun t ht hW => ⟨⟨adL [0, q1, q2, q3, q4, q5, q6, q7, q8, q9, q10, q11, q12, q13], rfl, trivial, by rw [ht]; exact hP.sub [0, 1, 2, 3, 4, 5, 6, 7, 8, 9, 10, 11, 12, 13] rfl, hD.sub [0, 1, 2, 3, 4, 5, 6, 7, 8, 9, 10, 11, 12, 13] (by decide) rfl⟩, hS.F ht⟩) hS.2.2 dX1_init_169
end
section
/-! the reference: methods that only read, make, refer, set, root -/
def inL (lo m : Nat) (x : Int32) : Bool := match nn x with
  | none => false
  | some a => decide (lo ≤ a) && decide (a < m)
theorem inL_neg {lo m : Nat} {x : Int32} (h : x < 0) : inL lo m x = false := by unfold inL; rw [nn_neg h]
theorem inL_nat {lo m a : Nat} (h : a < 2 ^ 31) : inL lo m (nI a) = (decide (lo ≤ a) && decide (a < m)) := by unfold inL; rw [nn_nat h]
theorem inL_0 (m : Nat) (x : Int32) : inL 0 m x = inR m x := by
  rcases xk_sgn x with h | ⟨a, ha, rfl⟩
  · rw [inL_neg h, inR_neg h]
  · rw [inL_nat ha, inR_nat ha]; simp
theorem inR_t {m : Nat} {x : Int32} (h : inR m x = true) : ∃ a, a < 2 ^ 31 ∧ x = nI a ∧ a < m := by
  rcases xk_sgn x with q | ⟨a, ha, rfl⟩
  · rw [inR_neg q] at h; cases h
  · rw [inR_nat ha] at h; simp at h; exact ⟨a, ha, rfl, h⟩
theorem hi_n {n : Nat} (h : n < 2 ^ 31) : (nI n).toInt = ((n + 1 : Nat) : Int) - 1 := by rw [nI_toInt h]; omega
theorem hi_s {m : Nat} (h : m < 2 ^ 30) : (nI m - nI 1).toInt = (m : Int) - 1 := by rw [pk_sub_toInt h (by decide)]; rfl
theorem hi_gt {a m : Nat} {h : Int32} (hh : h.toInt = (m : Int) - 1) (ha : a < 2 ^ 31) : h < nI a ↔ m ≤ a := by
  rw [Int32.lt_iff_toInt_lt, nI_toInt ha, hh]; omega
theorem isO_st {n tp : Nat} {mem : Nat → Int32} {st : Nat → Bool} {rt : Nat → Int32} (hok : okS n tp mem st rt) {a : Nat} (ha : a < 2 ^ 31) (h1 : 1 ≤ a) (h2 : a ≤ n) (h3 : st a = true) : isO tp st (nI a) = true := by
  have : a < tp := Nat.lt_of_not_le (fun q => by have := (hok.2.2.2.2.1 a q h2).1; rw [h3] at this; cases this)
  rw [isO_nat ha, h3]
  simp [h1, this]
theorem in_X2_plain_X2 : ∀ w ∈ wsX20, w ∈ wsX2_plain := by decide +kernel
theorem in_X2_references_X2 : ∀ w ∈ wsX20, w ∈ wsX2_references := by decide +kernel
theorem in_X2_length_X2 : ∀ w ∈ wsX20, w ∈ wsX2_length := by decide +kernel
theorem in_X2_make_X2 : ∀ w ∈ wsX20, w ∈ wsX2_make := by decide +kernel
theorem in_X2_isObject_X2 : ∀ w ∈ wsX20, w ∈ wsX2_isObject := by decide +kernel
theorem in_X2_isLead_X2 : ∀ w ∈ wsX20, w ∈ wsX2_isLead := by decide +kernel
theorem in_X2_refer_X2 : ∀ w ∈ wsX20, w ∈ wsX2_refer := by decide +kernel
theorem in_X2_set_X2 : ∀ w ∈ wsX20, w ∈ wsX2_set := by decide +kernel
theorem in_X2_root_X2 : ∀ w ∈ wsX20, w ∈ wsX2_root := by decide +kernel
theorem in_X2_isWord_X2 : ∀ w ∈ wsX20, w ∈ wsX2_isWord := by decide +kernel
theorem in_X2_word_X2 : ∀ w ∈ wsX20, w ∈ wsX2_word := by decide +kernel
theorem in_X2_rootOf_X2 : ∀ w ∈ wsX20, w ∈ wsX2_rootOf := by decide +kernel
theorem in_X2_bit_X2 : ∀ w ∈ wsX20, w ∈ wsX2_bit := by decide +kernel
theorem in_X2_blocks_X2 : ∀ w ∈ wsX20, w ∈ wsX2_blocks := by decide +kernel
theorem in_X2_offset_X2 : ∀ w ∈ wsX20, w ∈ wsX2_offset := by decide +kernel
theorem in_X2_moved_X2 : ∀ w ∈ wsX20, w ∈ wsX2_moved := by decide +kernel
theorem in_X2_reads_X2 : ∀ w ∈ wsX20, w ∈ wsX2_reads := by decide +kernel
theorem in_X2_count_X2 : ∀ w ∈ wsX20, w ∈ wsX2_count := by decide +kernel
set_option maxHeartbeats 4000000 in
set_option maxRecDepth 100000 in
/-- isIn -/
theorem c_isIn (l : Launch) (x : Int32) (lo m : Nat) (h : Int32) (hlo : lo ≤ 1) (hm : m ≤ 5000) (hh : h.toInt = (m : Int) - 1) : Met l yX2_isIn wsX2_isIn ({ frames := 0, cells := 0, slots := 0, locals := 0 }) (va_Pc [.int x, .int (nI lo), .int h] (fun _ => True)) (vp_Si (fun r9 => r9 = bI (inL lo m x))) 0 0 (fun _ => False) := by
  refine Met.ofW (cc := cX2_isIn) (maxL := 3) (ret := (some .boolean)) (by decide) rfl ?_
  intro p e s m args below meth c s₁ B9 hml hv
  obtain ⟨rfl, -⟩ := hv
  have hx := B9.exec
  have hb := B9.bytes
  have hr := B9.returns
  have hts := atoms_spec (ws := wsX2_isIn) B9.pre
  have hown : s.vm.findClass RX2 = some m.cls := findClass_of_methodNamed B9.named
  have hlocks := B9.notSynchronized
  have hl := lv_entry ([.int x, .int (nI lo), .int h]) (n := 3) (Nat.le_of_ble_eq_true rfl)
  rw [lg_entry_eq]
  generalize (lg_sl ([.int x, .int (nI lo), .int h]) ++ List.replicate (3 - (lg_sl ([.int x, .int (nI lo), .int h])).length) Slot.unset).toArray = ls at hl ⊢
  have hl : lv_has ls 3 [(0, .int x), (1, .int (nI lo)), (2, .int h)] := hl
  rcases xk_sgn x with hneg | ⟨a, ha, rfl⟩
  · refine lv_iload_n hx hb dX2_isIn_0 rfl (lv_at hl 0 rfl) ?_
    refine lv_iload_n hx hb dX2_isIn_1 rfl (lv_at hl 1 rfl) ?_
    refine lv_icmp_lt (tgt := 14) hx hb dX2_isIn_2 (by decide) (fun c2 => ?_) (fun c2 => absurd (neg_lt hneg (by omega)) c2)
    refine lv_iconst (v := nI 0) hx hb dX2_isIn_14 (by decide +kernel) ?_
    exact W.zret hx hb hr rfl (fun t ht hW => ⟨_, rfl, bI_0 (inL_neg hneg), ht⟩) t_nil dX2_isIn_15
  · refine lv_iload_n hx hb dX2_isIn_0 rfl (lv_at hl 0 rfl) ?_
    refine lv_iload_n hx hb dX2_isIn_1 rfl (lv_at hl 1 rfl) ?_
    refine xk_icmp_lt (tgt := 14) hx hb (by omega) (by omega) dX2_isIn_2 (by decide) (fun c2 => ?_) (fun c2 => ?_)
    · refine lv_iconst (v := nI 0) hx hb dX2_isIn_14 (by decide +kernel) ?_
      exact W.zret hx hb hr rfl (fun t ht hW => ⟨_, rfl, bI_0 (by rw [inL_nat ha]; simp; omega), ht⟩) t_nil dX2_isIn_15
    · refine lv_iload_n hx hb dX2_isIn_5 rfl (lv_at hl 0 rfl) ?_
      refine lv_iload_n hx hb dX2_isIn_6 rfl (lv_at hl 2 rfl) ?_
      refine lv_icmp_gt (tgt := 14) hx hb dX2_isIn_7 (by decide) (fun c7 => ?_) (fun c7 => ?_)
      · refine lv_iconst (v := nI 0) hx hb dX2_isIn_14 (by decide +kernel) ?_
        exact W.zret hx hb hr rfl (fun t ht hW => ⟨_, rfl, bI_0 (by rw [inL_nat ha]; have := (hi_gt hh ha).mp c7; simp; omega), ht⟩) t_nil dX2_isIn_15
      · refine lv_iconst (v := nI 1) hx hb dX2_isIn_10 (by decide +kernel) ?_
        refine lv_goto (tgt := 15) hx hb dX2_isIn_11 (by decide) ?_
        exact W.zret hx hb hr rfl (fun t ht hW => ⟨_, rfl, bI_1 (by rw [inL_nat ha]; have := (not_congr (hi_gt hh ha)).mp c7; simp; omega), ht⟩) t_nil dX2_isIn_15
set_option maxHeartbeats 4000000 in
set_option maxRecDepth 100000 in
/-- plain -/
theorem c_mplain (l : Launch) (D : va_G) (cI cZ : ClassId) (h1 : Nat) (am : Nat → Nat) (th n B tp ob co lv : Nat) (wrd frs bgs fbs rts wnt far : Nat → Int32) (o : Nat) (ho : o ≤ 4000) (hh : wrd o = nI (tn (wrd o))) (hs : tn (wrd o) < 2 ^ 31) : Met l yX2_plain wsX2_plain ({ frames := 0, cells := 0, slots := 0, locals := 0 }) (va_Pc [.ref h1, .int (nI o)] (fun U => va_P D vwCl (mW cI cZ h1 am th n B tp ob co lv wrd frs bgs fbs rts wnt far) U.heap ∧ va_K D vwCl [(cI, .int), (cZ, .boolean)] U)) (vp_Si (fun r9 => r9 = nI (tn (wrd o) / 256))) 0 0 (fun _ => False) := by
  refine Met.ofW (cc := cX2_plain) (maxL := 2) (ret := (some .int)) (by decide) rfl ?_
  intro p e s m args below meth c s₁ B9 hml hv
  obtain ⟨rfl, hP, hK⟩ := hv
  have hx := B9.exec
  have hb := B9.bytes
  have hr := B9.returns
  have hts := atoms_spec (ws := wsX2_plain) B9.pre
  have hown : s.vm.findClass RX2 = some m.cls := findClass_of_methodNamed B9.named
  have hlocks := B9.notSynchronized
  have hl := lv_entry ([.ref h1, .int (nI o)]) (n := 2) (Nat.le_of_ble_eq_true rfl)
  rw [lg_entry_eq]
  generalize (lg_sl ([.ref h1, .int (nI o)]) ++ List.replicate (2 - (lg_sl ([.ref h1, .int (nI o)])).length) Slot.unset).toArray = ls at hl ⊢
  have hl : lv_has ls 2 [(0, .ref h1), (1, .int (nI o))] := hl
  refine lv_aload_n hx hb dX2_plain_0 rfl (lv_at hl 0 rfl) ?_
  refine va_get (D := D) (ci := 2) (v := .ref (am 1)) (C := RX2) (T := TX2) (N := 14) hx hb hts in_X2_plain_X2 hown hK hP 0 rfl rfl 7 (by decide) (hts (.fieldLink RX2 13 "OffsetHeapModel" "words" "[I") (by decide +kernel)) (fun _ h9 => h9) rfl dX2_plain_1 ?_
  refine lv_iload_n hx hb dX2_plain_4 rfl (lv_at hl 1 rfl) ?_
  refine xk_iald hx hb hK hP 1 0 rfl rfl (by omega) (by omega) dX2_plain_5 ?_
  refine xk_top hh ?_
  refine lv_sipush (v := nI 256) hx hb dX2_plain_6 (by decide +kernel) ?_
  refine lv_idiv hx hb dX2_plain_9 (nI_ne0 (by omega) (by omega)) ?_
  refine xk_top (pk_div (by omega) (by omega) (by omega)) ?_
  exact W.iret hx hb hr (fun t ht hW => ⟨_, rfl, rfl, ht⟩) t_nil dX2_plain_10
set_option maxHeartbeats 4000000 in
set_option maxRecDepth 100000 in
/-- references -/
theorem c_mreferences (l : Launch) (D : va_G) (cI cZ : ClassId) (h1 : Nat) (am : Nat → Nat) (th n B tp ob co lv : Nat) (wrd frs bgs fbs rts wnt far : Nat → Int32) (o : Nat) (ho : o ≤ 4000) (hh : wrd o = nI (tn (wrd o))) (hs : tn (wrd o) < 2 ^ 31) : Met l yX2_references wsX2_references ({ frames := 0, cells := 0, slots := 0, locals := 0 }) (va_Pc [.ref h1, .int (nI o)] (fun U => va_P D vwCl (mW cI cZ h1 am th n B tp ob co lv wrd frs bgs fbs rts wnt far) U.heap ∧ va_K D vwCl [(cI, .int), (cZ, .boolean)] U)) (vp_Si (fun r9 => r9 = nI (tn (wrd o) / 16 % 16))) 0 0 (fun _ => False) := by
  refine Met.ofW (cc := cX2_references) (maxL := 2) (ret := (some .int)) (by decide) rfl ?_
  intro p e s m args below meth c s₁ B9 hml hv
  obtain ⟨rfl, hP, hK⟩ := hv
  have hx := B9.exec
  have hb := B9.bytes
  have hr := B9.returns
  have hts := atoms_spec (ws := wsX2_references) B9.pre
  have hown : s.vm.findClass RX2 = some m.cls := findClass_of_methodNamed B9.named
  have hlocks := B9.notSynchronized
  have hl := lv_entry ([.ref h1, .int (nI o)]) (n := 2) (Nat.le_of_ble_eq_true rfl)
  rw [lg_entry_eq]
  generalize (lg_sl ([.ref h1, .int (nI o)]) ++ List.replicate (2 - (lg_sl ([.ref h1, .int (nI o)])).length) Slot.unset).toArray = ls at hl ⊢
  have hl : lv_has ls 2 [(0, .ref h1), (1, .int (nI o))] := hl
  refine lv_aload_n hx hb dX2_references_0 rfl (lv_at hl 0 rfl) ?_
  refine va_get (D := D) (ci := 2) (v := .ref (am 1)) (C := RX2) (T := TX2) (N := 14) hx hb hts in_X2_references_X2 hown hK hP 0 rfl rfl 7 (by decide) (hts (.fieldLink RX2 13 "OffsetHeapModel" "words" "[I") (by decide +kernel)) (fun _ h9 => h9) rfl dX2_references_1 ?_
  refine lv_iload_n hx hb dX2_references_4 rfl (lv_at hl 1 rfl) ?_
  refine xk_iald hx hb hK hP 1 0 rfl rfl (by omega) (by omega) dX2_references_5 ?_
  refine xk_top hh ?_
  refine lv_bipush (v := nI 16) hx hb dX2_references_6 (by decide +kernel) ?_
  refine lv_idiv hx hb dX2_references_8 (nI_ne0 (by omega) (by omega)) ?_
  refine xk_top (pk_div (by omega) (by omega) (by omega)) ?_
  refine lv_bipush (v := nI 16) hx hb dX2_references_9 (by decide +kernel) ?_
  refine lv_irem hx hb dX2_references_11 (nI_ne0 (by omega) (by omega)) ?_
  refine xk_top (pk_rem (by omega) (by omega) (by omega)) ?_
  exact W.iret hx hb hr (fun t ht hW => ⟨_, rfl, rfl, ht⟩) t_nil dX2_references_12
set_option maxHeartbeats 4000000 in
set_option maxRecDepth 100000 in
/-- length -/
theorem c_mlength (l : Launch) (D : va_G) (cI cZ : ClassId) (h1 : Nat) (am : Nat → Nat) (th n B tp ob co lv : Nat) (wrd frs bgs fbs rts wnt far : Nat → Int32) (o : Nat) (ho : o ≤ 4000) (hh : wrd o = nI (tn (wrd o))) (hs : tn (wrd o) < 2 ^ 31) : Met l yX2_length wsX2_length ({ frames := 1, cells := 0, slots := 0, locals := 30 }) (va_Pc [.ref h1, .int (nI o)] (fun U => va_P D vwCl (mW cI cZ h1 am th n B tp ob co lv wrd frs bgs fbs rts wnt far) U.heap ∧ va_K D vwCl [(cI, .int), (cZ, .boolean)] U)) (vp_Si (fun r9 => r9 = nI (1 + tn (wrd o) / 16 % 16 + tn (wrd o) / 256))) 0 0 (fun _ => False) := by
  refine Met.ofW (cc := cX2_length) (maxL := 2) (ret := (some .int)) (by decide) rfl ?_
  intro p e s m args below meth c s₁ B9 hml hv
  obtain ⟨rfl, hP, hK⟩ := hv
  have hx := B9.exec
  have hb := B9.bytes
  have hr := B9.returns
  have hts := atoms_spec (ws := wsX2_length) B9.pre
  have hown : s.vm.findClass RX2 = some m.cls := findClass_of_methodNamed B9.named
  have hlocks := B9.notSynchronized
  have hl := lv_entry ([.ref h1, .int (nI o)]) (n := 2) (Nat.le_of_ble_eq_true rfl)
  rw [lg_entry_eq]
  generalize (lg_sl ([.ref h1, .int (nI o)]) ++ List.replicate (2 - (lg_sl ([.ref h1, .int (nI o)])).length) Slot.unset).toArray = ls at hl ⊢
  have hl : lv_has ls 2 [(0, .ref h1), (1, .int (nI o))] := hl
  refine lv_iconst (v := nI 1) hx hb dX2_length_0 (by decide +kernel) ?_
  refine lv_aload_n hx hb dX2_length_1 rfl (lv_at hl 0 rfl) ?_
  refine lv_iload_n hx hb dX2_length_2 rfl (lv_at hl 1 rfl) ?_
  refine xk_roV (As := [.int (nI o)]) (rest := [.int (nI 1)]) ⟨hx, hb, hml, hown, hts⟩ (c_mreferences l D cI cZ h1 am th n B tp ob co lv wrd frs bgs fbs rts wnt far o (by omega) hh (by omega)) (cwV 1 hts gX2_length_X2_references rfl rfl rfl (by decide +kernel) ⟨Nat.le_of_ble_eq_true rfl, Nat.le_of_ble_eq_true rfl⟩) (va_recv hK hP (ci := 2) (q0 := 0) rfl rfl) hP hK rfl hl.1 rfl (Nat.le_of_ble_eq_true rfl) dX2_length_3 ⟨Nat.zero_le _, Nat.zero_le _⟩ ?_
  refine lv_iadd hx hb dX2_length_6 ?_
  refine xk_top (nI_add _ _) ?_
  refine lv_aload_n hx hb dX2_length_7 rfl (lv_at hl 0 rfl) ?_
  refine lv_iload_n hx hb dX2_length_8 rfl (lv_at hl 1 rfl) ?_
  refine xk_roV (As := [.int (nI o)]) (rest := [.int (nI (1 + (tn (wrd o) / 16 % 16)))]) ⟨hx, hb, hml, hown, hts⟩ (c_mplain l D cI cZ h1 am th n B tp ob co lv wrd frs bgs fbs rts wnt far o (by omega) hh (by omega)) (cwV 1 hts gX2_length_X2_plain rfl rfl rfl (by decide +kernel) ⟨Nat.le_of_ble_eq_true rfl, Nat.le_of_ble_eq_true rfl⟩) (va_recv hK hP (ci := 2) (q0 := 0) rfl rfl) hP hK rfl hl.1 rfl (Nat.le_of_ble_eq_true rfl) dX2_length_9 ⟨Nat.zero_le _, Nat.zero_le _⟩ ?_
  refine lv_iadd hx hb dX2_length_12 ?_
  refine xk_top (nI_add _ _) ?_
  exact W.iret hx hb hr (fun t ht hW => ⟨_, rfl, rfl, ht⟩) t_nil dX2_length_13
set_option maxHeartbeats 4000000 in
set_option maxRecDepth 100000 in
/-- blocks -/
theorem c_mblocks (l : Launch) (D : va_G) (cI cZ : ClassId) (h1 : Nat) (am : Nat → Nat) (th n B tp ob co lv : Nat) (wrd frs bgs fbs rts wnt far : Nat → Int32) (hn : n ≤ 4000) (hB : okB B) : Met l yX2_blocks wsX2_blocks ({ frames := 0, cells := 0, slots := 0, locals := 0 }) (va_Pc [.ref h1] (fun U => va_P D vwCl (mW cI cZ h1 am th n B tp ob co lv wrd frs bgs fbs rts wnt far) U.heap ∧ va_K D vwCl [(cI, .int), (cZ, .boolean)] U)) (vp_Si (fun r9 => r9 = nI (n / B + 1))) 0 0 (fun _ => False) := by
  refine Met.ofW (cc := cX2_blocks) (maxL := 1) (ret := (some .int)) (by decide) rfl ?_
  intro p e s m args below meth c s₁ B9 hml hv
  obtain ⟨rfl, hP, hK⟩ := hv
  have hx := B9.exec
  have hb := B9.bytes
  have hr := B9.returns
  have hts := atoms_spec (ws := wsX2_blocks) B9.pre
  have hown : s.vm.findClass RX2 = some m.cls := findClass_of_methodNamed B9.named
  have hlocks := B9.notSynchronized
  have hl := lv_entry ([.ref h1]) (n := 1) (Nat.le_of_ble_eq_true rfl)
  rw [lg_entry_eq]
  generalize (lg_sl ([.ref h1]) ++ List.replicate (1 - (lg_sl ([.ref h1])).length) Slot.unset).toArray = ls at hl ⊢
  have hl : lv_has ls 1 [(0, .ref h1)] := hl
  obtain ⟨hb1, hb2, hb3⟩ := okB_nb hB hn
  refine lv_aload_n hx hb dX2_blocks_0 rfl (lv_at hl 0 rfl) ?_
  refine va_get (D := D) (ci := 2) (v := .int (nI n)) (C := RX2) (T := TX2) (N := 14) hx hb hts in_X2_blocks_X2 hown hK hP 0 rfl rfl 1 (by decide) (hts (.fieldLink RX2 36 "OffsetHeapModel" "most" "I") (by decide +kernel)) (fun _ h9 => h9) rfl dX2_blocks_1 ?_
  refine lv_aload_n hx hb dX2_blocks_4 rfl (lv_at hl 0 rfl) ?_
  refine va_get (D := D) (ci := 2) (v := .int (nI B)) (C := RX2) (T := TX2) (N := 14) hx hb hts in_X2_blocks_X2 hown hK hP 0 rfl rfl 2 (by decide) (hts (.fieldLink RX2 39 "OffsetHeapModel" "block" "I") (by decide +kernel)) (fun _ h9 => h9) rfl dX2_blocks_5 ?_
  refine lv_idiv hx hb dX2_blocks_8 (nI_ne0 (by omega) (by omega)) ?_
  refine xk_top (pk_div (by omega) (by omega) (by omega)) ?_
  refine lv_iconst (v := nI 1) hx hb dX2_blocks_9 (by decide +kernel) ?_
  refine lv_iadd hx hb dX2_blocks_10 ?_
  refine xk_top (nI_add _ _) ?_
  exact W.iret hx hb hr (fun t ht hW => ⟨_, rfl, rfl, ht⟩) t_nil dX2_blocks_11
set_option maxHeartbeats 4000000 in
set_option maxRecDepth 100000 in
/-- reads -/
theorem c_mreads (l : Launch) (D : va_G) (cI cZ : ClassId) (h1 : Nat) (am : Nat → Nat) (th n B tp ob co lv : Nat) (wrd frs bgs fbs rts wnt far : Nat → Int32)  : Met l yX2_reads wsX2_reads ({ frames := 0, cells := 0, slots := 0, locals := 0 }) (va_Pc [.ref h1] (fun U => va_P D vwCl (mW cI cZ h1 am th n B tp ob co lv wrd frs bgs fbs rts wnt far) U.heap ∧ va_K D vwCl [(cI, .int), (cZ, .boolean)] U)) (vp_Si (fun r9 => r9 = nI lv)) 0 0 (fun _ => False) := by
  refine Met.ofW (cc := cX2_reads) (maxL := 1) (ret := (some .int)) (by decide) rfl ?_
  intro p e s m args below meth c s₁ B9 hml hv
  obtain ⟨rfl, hP, hK⟩ := hv
  have hx := B9.exec
  have hb := B9.bytes
  have hr := B9.returns
  have hts := atoms_spec (ws := wsX2_reads) B9.pre
  have hown : s.vm.findClass RX2 = some m.cls := findClass_of_methodNamed B9.named
  have hlocks := B9.notSynchronized
  have hl := lv_entry ([.ref h1]) (n := 1) (Nat.le_of_ble_eq_true rfl)
  rw [lg_entry_eq]
  generalize (lg_sl ([.ref h1]) ++ List.replicate (1 - (lg_sl ([.ref h1])).length) Slot.unset).toArray = ls at hl ⊢
  have hl : lv_has ls 1 [(0, .ref h1)] := hl
  refine lv_aload_n hx hb dX2_reads_0 rfl (lv_at hl 0 rfl) ?_
  refine va_get (D := D) (ci := 2) (v := .int (nI lv)) (C := RX2) (T := TX2) (N := 14) hx hb hts in_X2_reads_X2 hown hK hP 0 rfl rfl 6 (by decide) (hts (.fieldLink RX2 73 "OffsetHeapModel" "lived" "I") (by decide +kernel)) (fun _ h9 => h9) rfl dX2_reads_1 ?_
  exact W.iret hx hb hr (fun t ht hW => ⟨_, rfl, rfl, ht⟩) t_nil dX2_reads_4
set_option maxHeartbeats 4000000 in
set_option maxRecDepth 100000 in
/-- isWord -/
theorem c_misWord (l : Launch) (D : va_G) (cI cZ : ClassId) (h1 : Nat) (am : Nat → Nat) (th n B tp ob co lv : Nat) (wrd frs bgs fbs rts wnt far : Nat → Int32) (x : Int32) (hn : n ≤ 4000) : Met l yX2_isWord wsX2_isWord ({ frames := 1, cells := 0, slots := 0, locals := 30 }) (va_Pc [.ref h1, .int x] (fun U => va_P D vwCl (mW cI cZ h1 am th n B tp ob co lv wrd frs bgs fbs rts wnt far) U.heap ∧ va_K D vwCl [(cI, .int), (cZ, .boolean)] U)) (vp_Si (fun r9 => r9 = bI (inR (n + 1) x))) 0 0 (fun _ => False) := by
  refine Met.ofW (cc := cX2_isWord) (maxL := 2) (ret := (some .boolean)) (by decide) rfl ?_
  intro p e s m args below meth c s₁ B9 hml hv
  obtain ⟨rfl, hP, hK⟩ := hv
  have hx := B9.exec
  have hb := B9.bytes
  have hr := B9.returns
  have hts := atoms_spec (ws := wsX2_isWord) B9.pre
  have hown : s.vm.findClass RX2 = some m.cls := findClass_of_methodNamed B9.named
  have hlocks := B9.notSynchronized
  have hl := lv_entry ([.ref h1, .int x]) (n := 2) (Nat.le_of_ble_eq_true rfl)
  rw [lg_entry_eq]
  generalize (lg_sl ([.ref h1, .int x]) ++ List.replicate (2 - (lg_sl ([.ref h1, .int x])).length) Slot.unset).toArray = ls at hl ⊢
  have hl : lv_has ls 2 [(0, .ref h1), (1, .int x)] := hl
  refine lv_iload_n hx hb dX2_isWord_0 rfl (lv_at hl 1 rfl) ?_
  refine lv_iconst (v := nI 0) hx hb dX2_isWord_1 (by decide +kernel) ?_
  refine lv_aload_n hx hb dX2_isWord_2 rfl (lv_at hl 0 rfl) ?_
  refine va_get (D := D) (ci := 2) (v := .int (nI n)) (C := RX2) (T := TX2) (N := 14) hx hb hts in_X2_isWord_X2 hown hK hP 0 rfl rfl 1 (by decide) (hts (.fieldLink RX2 36 "OffsetHeapModel" "most" "I") (by decide +kernel)) (fun _ h9 => h9) rfl dX2_isWord_3 ?_
  refine xk_roS (As := [.int x, .int (nI 0), .int (nI n)]) (rest := []) ⟨hx, hb, hml, hown, hts⟩ (c_isIn l x 0 (n + 1) (nI n) (by omega) (by omega) (hi_n (by omega))) (va_cwS 3 hts gX2_isWord_X2_isIn rfl rfl rfl (by decide +kernel) ⟨Nat.le_of_ble_eq_true rfl, Nat.le_of_ble_eq_true rfl⟩) rfl hl.1 rfl (Nat.le_of_ble_eq_true rfl) dX2_isWord_6 ⟨Nat.zero_le _, Nat.zero_le _⟩ ?_
  exact W.zret hx hb hr (bI_nar _) (fun t ht hW => ⟨_, rfl, by rw [inL_0], ht⟩) t_nil dX2_isWord_9
set_option maxHeartbeats 4000000 in
set_option maxRecDepth 100000 in
/-- isObject -/
theorem c_misObject (l : Launch) (D : va_G) (cI cZ : ClassId) (h1 : Nat) (am : Nat → Nat) (th n B tp ob co lv : Nat) (wrd frs bgs fbs rts wnt far : Nat → Int32) (st : Nat → Bool) (x : Int32) (hok : okS n tp wrd st rts) (hbg : ∀ a, a ≤ n → bgs a = bI (st a)) : Met l yX2_isObject wsX2_isObject ({ frames := 1, cells := 0, slots := 0, locals := 30 }) (va_Pc [.ref h1, .int x] (fun U => va_P D vwCl (mW cI cZ h1 am th n B tp ob co lv wrd frs bgs fbs rts wnt far) U.heap ∧ va_K D vwCl [(cI, .int), (cZ, .boolean)] U)) (vp_Si (fun r9 => r9 = bI (isO tp st x))) 0 0 (fun _ => False) := by
  refine Met.ofW (cc := cX2_isObject) (maxL := 2) (ret := (some .boolean)) (by decide) rfl ?_
  intro p e s m args below meth c s₁ B9 hml hv
  obtain ⟨rfl, hP, hK⟩ := hv
  have hx := B9.exec
  have hb := B9.bytes
  have hr := B9.returns
  have hts := atoms_spec (ws := wsX2_isObject) B9.pre
  have hown : s.vm.findClass RX2 = some m.cls := findClass_of_methodNamed B9.named
  have hlocks := B9.notSynchronized
  have hl := lv_entry ([.ref h1, .int x]) (n := 2) (Nat.le_of_ble_eq_true rfl)
  rw [lg_entry_eq]
  generalize (lg_sl ([.ref h1, .int x]) ++ List.replicate (2 - (lg_sl ([.ref h1, .int x])).length) Slot.unset).toArray = ls at hl ⊢
  have hl : lv_has ls 2 [(0, .ref h1), (1, .int x)] := hl
  have hn := hok.1.2.2
  have htp := hok.1.2.1
  rcases xk_sgn x with hneg | ⟨a, ha, rfl⟩
  · refine lv_iload_n hx hb dX2_isObject_0 rfl (lv_at hl 1 rfl) ?_
    refine lv_iconst (v := nI 1) hx hb dX2_isObject_1 (by decide +kernel) ?_
    refine lv_aload_n hx hb dX2_isObject_2 rfl (lv_at hl 0 rfl) ?_
    refine va_get (D := D) (ci := 2) (v := .int (nI n)) (C := RX2) (T := TX2) (N := 14) hx hb hts in_X2_isObject_X2 hown hK hP 0 rfl rfl 1 (by decide) (hts (.fieldLink RX2 36 "OffsetHeapModel" "most" "I") (by decide +kernel)) (fun _ h9 => h9) rfl dX2_isObject_3 ?_
    refine xk_roS (As := [.int x, .int (nI 1), .int (nI n)]) (rest := []) ⟨hx, hb, hml, hown, hts⟩ (c_isIn l x 1 (n + 1) (nI n) (by omega) (by omega) (hi_n (by omega))) (va_cwS 3 hts gX2_isObject_X2_isIn rfl rfl rfl (by decide +kernel) ⟨Nat.le_of_ble_eq_true rfl, Nat.le_of_ble_eq_true rfl⟩) rfl hl.1 rfl (Nat.le_of_ble_eq_true rfl) dX2_isObject_6 ⟨Nat.zero_le _, Nat.zero_le _⟩ ?_
    refine xk_if_eqB (tgt := 25) hx hb dX2_isObject_9 (by decide) (fun c9 => ?_) (fun c9 => absurd c9 (by rw [inL_neg hneg]; decide))
    refine lv_iconst (v := nI 0) hx hb dX2_isObject_25 (by decide +kernel) ?_
    exact W.zret hx hb hr rfl (fun t ht hW => ⟨_, rfl, bI_0 (isO_neg hneg), ht⟩) t_nil dX2_isObject_26
  · refine lv_iload_n hx hb dX2_isObject_0 rfl (lv_at hl 1 rfl) ?_
    refine lv_iconst (v := nI 1) hx hb dX2_isObject_1 (by decide +kernel) ?_
    refine lv_aload_n hx hb dX2_isObject_2 rfl (lv_at hl 0 rfl) ?_
    refine va_get (D := D) (ci := 2) (v := .int (nI n)) (C := RX2) (T := TX2) (N := 14) hx hb hts in_X2_isObject_X2 hown hK hP 0 rfl rfl 1 (by decide) (hts (.fieldLink RX2 36 "OffsetHeapModel" "most" "I") (by decide +kernel)) (fun _ h9 => h9) rfl dX2_isObject_3 ?_
    refine xk_roS (As := [.int (nI a), .int (nI 1), .int (nI n)]) (rest := []) ⟨hx, hb, hml, hown, hts⟩ (c_isIn l (nI a) 1 (n + 1) (nI n) (by omega) (by omega) (hi_n (by omega))) (va_cwS 3 hts gX2_isObject_X2_isIn rfl rfl rfl (by decide +kernel) ⟨Nat.le_of_ble_eq_true rfl, Nat.le_of_ble_eq_true rfl⟩) rfl hl.1 rfl (Nat.le_of_ble_eq_true rfl) dX2_isObject_6 ⟨Nat.zero_le _, Nat.zero_le _⟩ ?_
    refine xk_if_eqB (tgt := 25) hx hb dX2_isObject_9 (by decide) (fun c9 => ?_) (fun c9 => ?_)
    · rw [inL_nat ha] at c9; simp at c9
      refine lv_iconst (v := nI 0) hx hb dX2_isObject_25 (by decide +kernel) ?_
      exact W.zret hx hb hr rfl (fun t ht hW => ⟨_, rfl, bI_0 (by rw [isO_nat ha]; simp; omega), ht⟩) t_nil dX2_isObject_26
    · rw [inL_nat ha] at c9; simp at c9
      refine lv_aload_n hx hb dX2_isObject_12 rfl (lv_at hl 0 rfl) ?_
      refine va_get (D := D) (ci := 2) (v := .ref (am 3)) (C := RX2) (T := TX2) (N := 14) hx hb hts in_X2_isObject_X2 hown hK hP 0 rfl rfl 9 (by decide) (hts (.fieldLink RX2 20 "OffsetHeapModel" "begins" "[Z") (by decide +kernel)) (fun _ h9 => h9) rfl dX2_isObject_13 ?_
      refine lv_iload_n hx hb dX2_isObject_16 rfl (lv_at hl 1 rfl) ?_
      refine xk_zald hx hb hK hP 3 1 rfl rfl (by omega) (by omega) dX2_isObject_17 ?_
      refine xk_top (hbg a (by omega)) ?_
      refine xk_if_eqB (tgt := 25) hx hb dX2_isObject_18 (by decide) (fun c18 => ?_) (fun c18 => ?_)
      · refine lv_iconst (v := nI 0) hx hb dX2_isObject_25 (by decide +kernel) ?_
        exact W.zret hx hb hr rfl (fun t ht hW => ⟨_, rfl, bI_0 (by rw [isO_nat ha, c18]; simp), ht⟩) t_nil dX2_isObject_26
      · refine lv_iconst (v := nI 1) hx hb dX2_isObject_21 (by decide +kernel) ?_
        refine lv_goto (tgt := 26) hx hb dX2_isObject_22 (by decide) ?_
        exact W.zret hx hb hr rfl (fun t ht hW => ⟨_, rfl, bI_1 (isO_st hok ha (by omega) (by omega) c18), ht⟩) t_nil dX2_isObject_26
set_option maxHeartbeats 4000000 in
set_option maxRecDepth 100000 in
/-- isLead -/
theorem c_misLead (l : Launch) (D : va_G) (cI cZ : ClassId) (h1 : Nat) (am : Nat → Nat) (th n B tp ob co lv : Nat) (wrd frs bgs fbs rts wnt far : Nat → Int32) (st : Nat → Bool) (x : Int32) (hok : okS n tp wrd st rts) (hbg : ∀ a, a ≤ n → bgs a = bI (st a)) : Met l yX2_isLead wsX2_isLead ({ frames := 2, cells := 0, slots := 0, locals := 60 }) (va_Pc [.ref h1, .int x] (fun U => va_P D vwCl (mW cI cZ h1 am th n B tp ob co lv wrd frs bgs fbs rts wnt far) U.heap ∧ va_K D vwCl [(cI, .int), (cZ, .boolean)] U)) (vp_Si (fun r9 => r9 = bI (isL tp st x))) 0 0 (fun _ => False) := by
  refine Met.ofW (cc := cX2_isLead) (maxL := 2) (ret := (some .boolean)) (by decide) rfl ?_
  intro p e s m args below meth c s₁ B9 hml hv
  obtain ⟨rfl, hP, hK⟩ := hv
  have hx := B9.exec
  have hb := B9.bytes
  have hr := B9.returns
  have hts := atoms_spec (ws := wsX2_isLead) B9.pre
  have hown : s.vm.findClass RX2 = some m.cls := findClass_of_methodNamed B9.named
  have hlocks := B9.notSynchronized
  have hl := lv_entry ([.ref h1, .int x]) (n := 2) (Nat.le_of_ble_eq_true rfl)
  rw [lg_entry_eq]
  generalize (lg_sl ([.ref h1, .int x]) ++ List.replicate (2 - (lg_sl ([.ref h1, .int x])).length) Slot.unset).toArray = ls at hl ⊢
  have hl : lv_has ls 2 [(0, .ref h1), (1, .int x)] := hl
  refine lv_iload_n hx hb dX2_isLead_0 rfl (lv_at hl 1 rfl) ?_
  refine lv_if_eq (tgt := 12) hx hb dX2_isLead_1 (by decide) (fun c1 => ?_) (fun c1 => ?_)
  · refine lv_iconst (v := nI 1) hx hb dX2_isLead_12 (by decide +kernel) ?_
    refine lv_goto (tgt := 17) hx hb dX2_isLead_13 (by decide) ?_
    exact W.zret hx hb hr rfl (fun t ht hW => ⟨_, rfl, bI_1 (by rw [c1]; exact isL_0), ht⟩) t_nil dX2_isLead_17
  · refine lv_aload_n hx hb dX2_isLead_4 rfl (lv_at hl 0 rfl) ?_
    refine lv_iload_n hx hb dX2_isLead_5 rfl (lv_at hl 1 rfl) ?_
    refine xk_roV (As := [.int x]) (rest := []) ⟨hx, hb, hml, hown, hts⟩ (c_misObject l D cI cZ h1 am th n B tp ob co lv wrd frs bgs fbs rts wnt far st x hok hbg) (cwV 1 hts gX2_isLead_X2_isObject rfl rfl rfl (by decide +kernel) ⟨Nat.le_of_ble_eq_true rfl, Nat.le_of_ble_eq_true rfl⟩) (va_recv hK hP (ci := 2) (q0 := 0) rfl rfl) hP hK rfl hl.1 rfl (Nat.le_of_ble_eq_true rfl) dX2_isLead_6 ⟨Nat.zero_le _, Nat.zero_le _⟩ ?_
    refine xk_if_eqB (tgt := 16) hx hb dX2_isLead_9 (by decide) (fun c9 => ?_) (fun c9 => ?_)
    · refine lv_iconst (v := nI 0) hx hb dX2_isLead_16 (by decide +kernel) ?_
      exact W.zret hx hb hr rfl (fun t ht hW => ⟨_, rfl, bI_0 (by rw [isL_O c1]; exact c9), ht⟩) t_nil dX2_isLead_17
    · refine lv_iconst (v := nI 1) hx hb dX2_isLead_12 (by decide +kernel) ?_
      refine lv_goto (tgt := 17) hx hb dX2_isLead_13 (by decide) ?_
      exact W.zret hx hb hr rfl (fun t ht hW => ⟨_, rfl, bI_1 (by rw [isL_O c1]; exact c9), ht⟩) t_nil dX2_isLead_17
set_option maxHeartbeats 4000000 in
set_option maxRecDepth 100000 in
/-- word -/
theorem c_mword (l : Launch) (D : va_G) (cI cZ : ClassId) (h1 : Nat) (am : Nat → Nat) (th n B tp ob co lv : Nat) (wrd frs bgs fbs rts wnt far : Nat → Int32) (x : Int32) (hn : n ≤ 4000) : Met l yX2_word wsX2_word ({ frames := 2, cells := 0, slots := 0, locals := 60 }) (va_Pc [.ref h1, .int x] (fun U => va_P D vwCl (mW cI cZ h1 am th n B tp ob co lv wrd frs bgs fbs rts wnt far) U.heap ∧ va_K D vwCl [(cI, .int), (cZ, .boolean)] U)) (vp_Si (fun r9 => r9 = atR (n + 1) wrd x)) 0 0 (fun _ => False) := by
  refine Met.ofW (cc := cX2_word) (maxL := 2) (ret := (some .int)) (by decide) rfl ?_
  intro p e s m args below meth c s₁ B9 hml hv
  obtain ⟨rfl, hP, hK⟩ := hv
  have hx := B9.exec
  have hb := B9.bytes
  have hr := B9.returns
  have hts := atoms_spec (ws := wsX2_word) B9.pre
  have hown : s.vm.findClass RX2 = some m.cls := findClass_of_methodNamed B9.named
  have hlocks := B9.notSynchronized
  have hl := lv_entry ([.ref h1, .int x]) (n := 2) (Nat.le_of_ble_eq_true rfl)
  rw [lg_entry_eq]
  generalize (lg_sl ([.ref h1, .int x]) ++ List.replicate (2 - (lg_sl ([.ref h1, .int x])).length) Slot.unset).toArray = ls at hl ⊢
  have hl : lv_has ls 2 [(0, .ref h1), (1, .int x)] := hl
  rcases xk_sgn x with hneg | ⟨a, ha, rfl⟩
  · refine lv_aload_n hx hb dX2_word_0 rfl (lv_at hl 0 rfl) ?_
    refine lv_iload_n hx hb dX2_word_1 rfl (lv_at hl 1 rfl) ?_
    refine xk_roV (As := [.int x]) (rest := []) ⟨hx, hb, hml, hown, hts⟩ (c_misWord l D cI cZ h1 am th n B tp ob co lv wrd frs bgs fbs rts wnt far x hn) (cwV 1 hts gX2_word_X2_isWord rfl rfl rfl (by decide +kernel) ⟨Nat.le_of_ble_eq_true rfl, Nat.le_of_ble_eq_true rfl⟩) (va_recv hK hP (ci := 2) (q0 := 0) rfl rfl) hP hK rfl hl.1 rfl (Nat.le_of_ble_eq_true rfl) dX2_word_2 ⟨Nat.zero_le _, Nat.zero_le _⟩ ?_
    refine xk_if_eqB (tgt := 17) hx hb dX2_word_5 (by decide) (fun c5 => ?_) (fun c5 => absurd c5 (by rw [inR_neg hneg]; decide))
    refine lv_iconst (v := (-1)) hx hb dX2_word_17 (by decide +kernel) ?_
    exact W.iret hx hb hr (fun t ht hW => ⟨_, rfl, (atR_neg hneg).symm, ht⟩) t_nil dX2_word_18
  · refine lv_aload_n hx hb dX2_word_0 rfl (lv_at hl 0 rfl) ?_
    refine lv_iload_n hx hb dX2_word_1 rfl (lv_at hl 1 rfl) ?_
    refine xk_roV (As := [.int (nI a)]) (rest := []) ⟨hx, hb, hml, hown, hts⟩ (c_misWord l D cI cZ h1 am th n B tp ob co lv wrd frs bgs fbs rts wnt far (nI a) hn) (cwV 1 hts gX2_word_X2_isWord rfl rfl rfl (by decide +kernel) ⟨Nat.le_of_ble_eq_true rfl, Nat.le_of_ble_eq_true rfl⟩) (va_recv hK hP (ci := 2) (q0 := 0) rfl rfl) hP hK rfl hl.1 rfl (Nat.le_of_ble_eq_true rfl) dX2_word_2 ⟨Nat.zero_le _, Nat.zero_le _⟩ ?_
    refine xk_if_eqB (tgt := 17) hx hb dX2_word_5 (by decide) (fun c5 => ?_) (fun c5 => ?_)
    · rw [inR_nat ha] at c5; simp at c5
      refine lv_iconst (v := (-1)) hx hb dX2_word_17 (by decide +kernel) ?_
      exact W.iret hx hb hr (fun t ht hW => ⟨_, rfl, (atR_out ha (by omega)).symm, ht⟩) t_nil dX2_word_18
    · rw [inR_nat ha] at c5; simp at c5
      refine lv_aload_n hx hb dX2_word_8 rfl (lv_at hl 0 rfl) ?_
      refine va_get (D := D) (ci := 2) (v := .ref (am 1)) (C := RX2) (T := TX2) (N := 14) hx hb hts in_X2_word_X2 hown hK hP 0 rfl rfl 7 (by decide) (hts (.fieldLink RX2 13 "OffsetHeapModel" "words" "[I") (by decide +kernel)) (fun _ h9 => h9) rfl dX2_word_9 ?_
      refine lv_iload_n hx hb dX2_word_12 rfl (lv_at hl 1 rfl) ?_
      refine xk_iald hx hb hK hP 1 0 rfl rfl (by omega) (by omega) dX2_word_13 ?_
      refine lv_goto (tgt := 18) hx hb dX2_word_14 (by decide) ?_
      exact W.iret hx hb hr (fun t ht hW => ⟨_, rfl, (atR_in ha (by omega)).symm, ht⟩) t_nil dX2_word_18
set_option maxHeartbeats 4000000 in
set_option maxRecDepth 100000 in
/-- moved -/
theorem c_mmoved (l : Launch) (D : va_G) (cI cZ : ClassId) (h1 : Nat) (am : Nat → Nat) (th n B tp ob co lv : Nat) (wrd frs bgs fbs rts wnt far : Nat → Int32) (x : Int32) (hn : n ≤ 4000) : Met l yX2_moved wsX2_moved ({ frames := 2, cells := 0, slots := 0, locals := 60 }) (va_Pc [.ref h1, .int x] (fun U => va_P D vwCl (mW cI cZ h1 am th n B tp ob co lv wrd frs bgs fbs rts wnt far) U.heap ∧ va_K D vwCl [(cI, .int), (cZ, .boolean)] U)) (vp_Si (fun r9 => r9 = atR (n + 1) wnt x)) 0 0 (fun _ => False) := by
  refine Met.ofW (cc := cX2_moved) (maxL := 2) (ret := (some .int)) (by decide) rfl ?_
  intro p e s m args below meth c s₁ B9 hml hv
  obtain ⟨rfl, hP, hK⟩ := hv
  have hx := B9.exec
  have hb := B9.bytes
  have hr := B9.returns
  have hts := atoms_spec (ws := wsX2_moved) B9.pre
  have hown : s.vm.findClass RX2 = some m.cls := findClass_of_methodNamed B9.named
  have hlocks := B9.notSynchronized
  have hl := lv_entry ([.ref h1, .int x]) (n := 2) (Nat.le_of_ble_eq_true rfl)
  rw [lg_entry_eq]
  generalize (lg_sl ([.ref h1, .int x]) ++ List.replicate (2 - (lg_sl ([.ref h1, .int x])).length) Slot.unset).toArray = ls at hl ⊢
  have hl : lv_has ls 2 [(0, .ref h1), (1, .int x)] := hl
  rcases xk_sgn x with hneg | ⟨a, ha, rfl⟩
  · refine lv_aload_n hx hb dX2_moved_0 rfl (lv_at hl 0 rfl) ?_
    refine lv_iload_n hx hb dX2_moved_1 rfl (lv_at hl 1 rfl) ?_
    refine xk_roV (As := [.int x]) (rest := []) ⟨hx, hb, hml, hown, hts⟩ (c_misWord l D cI cZ h1 am th n B tp ob co lv wrd frs bgs fbs rts wnt far x hn) (cwV 1 hts gX2_moved_X2_isWord rfl rfl rfl (by decide +kernel) ⟨Nat.le_of_ble_eq_true rfl, Nat.le_of_ble_eq_true rfl⟩) (va_recv hK hP (ci := 2) (q0 := 0) rfl rfl) hP hK rfl hl.1 rfl (Nat.le_of_ble_eq_true rfl) dX2_moved_2 ⟨Nat.zero_le _, Nat.zero_le _⟩ ?_
    refine xk_if_eqB (tgt := 17) hx hb dX2_moved_5 (by decide) (fun c5 => ?_) (fun c5 => absurd c5 (by rw [inR_neg hneg]; decide))
    refine lv_iconst (v := (-1)) hx hb dX2_moved_17 (by decide +kernel) ?_
    exact W.iret hx hb hr (fun t ht hW => ⟨_, rfl, (atR_neg hneg).symm, ht⟩) t_nil dX2_moved_18
  · refine lv_aload_n hx hb dX2_moved_0 rfl (lv_at hl 0 rfl) ?_
    refine lv_iload_n hx hb dX2_moved_1 rfl (lv_at hl 1 rfl) ?_
    refine xk_roV (As := [.int (nI a)]) (rest := []) ⟨hx, hb, hml, hown, hts⟩ (c_misWord l D cI cZ h1 am th n B tp ob co lv wrd frs bgs fbs rts wnt far (nI a) hn) (cwV 1 hts gX2_moved_X2_isWord rfl rfl rfl (by decide +kernel) ⟨Nat.le_of_ble_eq_true rfl, Nat.le_of_ble_eq_true rfl⟩) (va_recv hK hP (ci := 2) (q0 := 0) rfl rfl) hP hK rfl hl.1 rfl (Nat.le_of_ble_eq_true rfl) dX2_moved_2 ⟨Nat.zero_le _, Nat.zero_le _⟩ ?_
    refine xk_if_eqB (tgt := 17) hx hb dX2_moved_5 (by decide) (fun c5 => ?_) (fun c5 => ?_)
    · rw [inR_nat ha] at c5; simp at c5
      refine lv_iconst (v := (-1)) hx hb dX2_moved_17 (by decide +kernel) ?_
      exact W.iret hx hb hr (fun t ht hW => ⟨_, rfl, (atR_out ha (by omega)).symm, ht⟩) t_nil dX2_moved_18
    · rw [inR_nat ha] at c5; simp at c5
      refine lv_aload_n hx hb dX2_moved_8 rfl (lv_at hl 0 rfl) ?_
      refine va_get (D := D) (ci := 2) (v := .ref (am 6)) (C := RX2) (T := TX2) (N := 14) hx hb hts in_X2_moved_X2 hown hK hP 0 rfl rfl 12 (by decide) (hts (.fieldLink RX2 30 "OffsetHeapModel" "went" "[I") (by decide +kernel)) (fun _ h9 => h9) rfl dX2_moved_9 ?_
      refine lv_iload_n hx hb dX2_moved_12 rfl (lv_at hl 1 rfl) ?_
      refine xk_iald hx hb hK hP 6 0 rfl rfl (by omega) (by omega) dX2_moved_13 ?_
      refine lv_goto (tgt := 18) hx hb dX2_moved_14 (by decide) ?_
      exact W.iret hx hb hr (fun t ht hW => ⟨_, rfl, (atR_in ha (by omega)).symm, ht⟩) t_nil dX2_moved_18
set_option maxHeartbeats 4000000 in
set_option maxRecDepth 100000 in
/-- rootOf -/
theorem c_mrootOf (l : Launch) (D : va_G) (cI cZ : ClassId) (h1 : Nat) (am : Nat → Nat) (th n B tp ob co lv : Nat) (wrd frs bgs fbs rts wnt far : Nat → Int32) (x : Int32) : Met l yX2_rootOf wsX2_rootOf ({ frames := 1, cells := 0, slots := 0, locals := 30 }) (va_Pc [.ref h1, .int x] (fun U => va_P D vwCl (mW cI cZ h1 am th n B tp ob co lv wrd frs bgs fbs rts wnt far) U.heap ∧ va_K D vwCl [(cI, .int), (cZ, .boolean)] U)) (vp_Si (fun r9 => r9 = atR 8 rts x)) 0 0 (fun _ => False) := by
  refine Met.ofW (cc := cX2_rootOf) (maxL := 2) (ret := (some .int)) (by decide) rfl ?_
  intro p e s m args below meth c s₁ B9 hml hv
  obtain ⟨rfl, hP, hK⟩ := hv
  have hx := B9.exec
  have hb := B9.bytes
  have hr := B9.returns
  have hts := atoms_spec (ws := wsX2_rootOf) B9.pre
  have hown : s.vm.findClass RX2 = some m.cls := findClass_of_methodNamed B9.named
  have hlocks := B9.notSynchronized
  have hl := lv_entry ([.ref h1, .int x]) (n := 2) (Nat.le_of_ble_eq_true rfl)
  rw [lg_entry_eq]
  generalize (lg_sl ([.ref h1, .int x]) ++ List.replicate (2 - (lg_sl ([.ref h1, .int x])).length) Slot.unset).toArray = ls at hl ⊢
  have hl : lv_has ls 2 [(0, .ref h1), (1, .int x)] := hl
  rcases xk_sgn x with hneg | ⟨a, ha, rfl⟩
  · refine lv_iload_n hx hb dX2_rootOf_0 rfl (lv_at hl 1 rfl) ?_
    refine lv_iconst (v := nI 0) hx hb dX2_rootOf_1 (by decide +kernel) ?_
    refine lv_bipush (v := nI 7) hx hb dX2_rootOf_2 (by decide +kernel) ?_
    refine xk_roS (As := [.int x, .int (nI 0), .int (nI 7)]) (rest := []) ⟨hx, hb, hml, hown, hts⟩ (c_isIn l x 0 (8) (nI 7) (by omega) (by omega) (by decide)) (va_cwS 3 hts gX2_rootOf_X2_isIn rfl rfl rfl (by decide +kernel) ⟨Nat.le_of_ble_eq_true rfl, Nat.le_of_ble_eq_true rfl⟩) rfl hl.1 rfl (Nat.le_of_ble_eq_true rfl) dX2_rootOf_4 ⟨Nat.zero_le _, Nat.zero_le _⟩ ?_
    refine xk_if_eqB (tgt := 19) hx hb dX2_rootOf_7 (by decide) (fun c7 => ?_) (fun c7 => absurd c7 (by rw [inL_neg hneg]; decide))
    refine lv_iconst (v := (-1)) hx hb dX2_rootOf_19 (by decide +kernel) ?_
    exact W.iret hx hb hr (fun t ht hW => ⟨_, rfl, (atR_neg hneg).symm, ht⟩) t_nil dX2_rootOf_20
  · refine lv_iload_n hx hb dX2_rootOf_0 rfl (lv_at hl 1 rfl) ?_
    refine lv_iconst (v := nI 0) hx hb dX2_rootOf_1 (by decide +kernel) ?_
    refine lv_bipush (v := nI 7) hx hb dX2_rootOf_2 (by decide +kernel) ?_
    refine xk_roS (As := [.int (nI a), .int (nI 0), .int (nI 7)]) (rest := []) ⟨hx, hb, hml, hown, hts⟩ (c_isIn l (nI a) 0 (8) (nI 7) (by omega) (by omega) (by decide)) (va_cwS 3 hts gX2_rootOf_X2_isIn rfl rfl rfl (by decide +kernel) ⟨Nat.le_of_ble_eq_true rfl, Nat.le_of_ble_eq_true rfl⟩) rfl hl.1 rfl (Nat.le_of_ble_eq_true rfl) dX2_rootOf_4 ⟨Nat.zero_le _, Nat.zero_le _⟩ ?_
    refine xk_if_eqB (tgt := 19) hx hb dX2_rootOf_7 (by decide) (fun c7 => ?_) (fun c7 => ?_)
    · rw [inL_nat ha] at c7; simp at c7
      refine lv_iconst (v := (-1)) hx hb dX2_rootOf_19 (by decide +kernel) ?_
      exact W.iret hx hb hr (fun t ht hW => ⟨_, rfl, (atR_out ha (by omega)).symm, ht⟩) t_nil dX2_rootOf_20
    · rw [inL_nat ha] at c7; simp at c7
      refine lv_aload_n hx hb dX2_rootOf_10 rfl (lv_at hl 0 rfl) ?_
      refine va_get (D := D) (ci := 2) (v := .ref (am 5)) (C := RX2) (T := TX2) (N := 14) hx hb hts in_X2_rootOf_X2 hown hK hP 0 rfl rfl 11 (by decide) (hts (.fieldLink RX2 27 "OffsetHeapModel" "roots" "[I") (by decide +kernel)) (fun _ h9 => h9) rfl dX2_rootOf_11 ?_
      refine lv_iload_n hx hb dX2_rootOf_14 rfl (lv_at hl 1 rfl) ?_
      refine xk_iald hx hb hK hP 5 0 rfl rfl (by omega) (by omega) dX2_rootOf_15 ?_
      refine lv_goto (tgt := 20) hx hb dX2_rootOf_16 (by decide) ?_
      exact W.iret hx hb hr (fun t ht hW => ⟨_, rfl, (atR_in ha (by omega)).symm, ht⟩) t_nil dX2_rootOf_20
set_option maxHeartbeats 4000000 in
set_option maxRecDepth 100000 in
/-- bit -/
theorem c_mbit (l : Launch) (D : va_G) (cI cZ : ClassId) (h1 : Nat) (am : Nat → Nat) (th n B tp ob co lv : Nat) (wrd frs bgs fbs rts wnt far : Nat → Int32) (x : Int32) (b : Nat → Bool) (hn : n ≤ 4000) (hw : ∀ a, a ≤ n → wnt a = nI (if b a then 1 + cn b a else 0)) : Met l yX2_bit wsX2_bit ({ frames := 2, cells := 0, slots := 0, locals := 60 }) (va_Pc [.ref h1, .int x] (fun U => va_P D vwCl (mW cI cZ h1 am th n B tp ob co lv wrd frs bgs fbs rts wnt far) U.heap ∧ va_K D vwCl [(cI, .int), (cZ, .boolean)] U)) (vp_Si (fun r9 => r9 = atR (n + 1) (fun a => bI (b a)) x)) 0 0 (fun _ => False) := by
  refine Met.ofW (cc := cX2_bit) (maxL := 2) (ret := (some .int)) (by decide) rfl ?_
  intro p e s m args below meth c s₁ B9 hml hv
  obtain ⟨rfl, hP, hK⟩ := hv
  have hx := B9.exec
  have hb := B9.bytes
  have hr := B9.returns
  have hts := atoms_spec (ws := wsX2_bit) B9.pre
  have hown : s.vm.findClass RX2 = some m.cls := findClass_of_methodNamed B9.named
  have hlocks := B9.notSynchronized
  have hl := lv_entry ([.ref h1, .int x]) (n := 2) (Nat.le_of_ble_eq_true rfl)
  rw [lg_entry_eq]
  generalize (lg_sl ([.ref h1, .int x]) ++ List.replicate (2 - (lg_sl ([.ref h1, .int x])).length) Slot.unset).toArray = ls at hl ⊢
  have hl : lv_has ls 2 [(0, .ref h1), (1, .int x)] := hl
  rcases xk_sgn x with hneg | ⟨a, ha, rfl⟩
  · refine lv_aload_n hx hb dX2_bit_0 rfl (lv_at hl 0 rfl) ?_
    refine lv_iload_n hx hb dX2_bit_1 rfl (lv_at hl 1 rfl) ?_
    refine xk_roV (As := [.int x]) (rest := []) ⟨hx, hb, hml, hown, hts⟩ (c_misWord l D cI cZ h1 am th n B tp ob co lv wrd frs bgs fbs rts wnt far x hn) (cwV 1 hts gX2_bit_X2_isWord rfl rfl rfl (by decide +kernel) ⟨Nat.le_of_ble_eq_true rfl, Nat.le_of_ble_eq_true rfl⟩) (va_recv hK hP (ci := 2) (q0 := 0) rfl rfl) hP hK rfl hl.1 rfl (Nat.le_of_ble_eq_true rfl) dX2_bit_2 ⟨Nat.zero_le _, Nat.zero_le _⟩ ?_
    refine xk_if_neB (tgt := 12) hx hb dX2_bit_5 (by decide) (fun c5 => absurd c5 (by rw [inR_neg hneg]; decide)) (fun c5 => ?_)
    refine lv_iconst (v := (-1)) hx hb dX2_bit_8 (by decide +kernel) ?_
    refine lv_goto (tgt := 26) hx hb dX2_bit_9 (by decide) ?_
    exact W.iret hx hb hr (fun t ht hW => ⟨_, rfl, (atR_neg hneg).symm, ht⟩) t_nil dX2_bit_26
  · refine lv_aload_n hx hb dX2_bit_0 rfl (lv_at hl 0 rfl) ?_
    refine lv_iload_n hx hb dX2_bit_1 rfl (lv_at hl 1 rfl) ?_
    refine xk_roV (As := [.int (nI a)]) (rest := []) ⟨hx, hb, hml, hown, hts⟩ (c_misWord l D cI cZ h1 am th n B tp ob co lv wrd frs bgs fbs rts wnt far (nI a) hn) (cwV 1 hts gX2_bit_X2_isWord rfl rfl rfl (by decide +kernel) ⟨Nat.le_of_ble_eq_true rfl, Nat.le_of_ble_eq_true rfl⟩) (va_recv hK hP (ci := 2) (q0 := 0) rfl rfl) hP hK rfl hl.1 rfl (Nat.le_of_ble_eq_true rfl) dX2_bit_2 ⟨Nat.zero_le _, Nat.zero_le _⟩ ?_
    refine xk_if_neB (tgt := 12) hx hb dX2_bit_5 (by decide) (fun c5 => ?_) (fun c5 => ?_)
    · rw [inR_nat ha] at c5; simp at c5
      refine lv_aload_n hx hb dX2_bit_12 rfl (lv_at hl 0 rfl) ?_
      refine va_get (D := D) (ci := 2) (v := .ref (am 6)) (C := RX2) (T := TX2) (N := 14) hx hb hts in_X2_bit_X2 hown hK hP 0 rfl rfl 12 (by decide) (hts (.fieldLink RX2 30 "OffsetHeapModel" "went" "[I") (by decide +kernel)) (fun _ h9 => h9) rfl dX2_bit_13 ?_
      refine lv_iload_n hx hb dX2_bit_16 rfl (lv_at hl 1 rfl) ?_
      refine xk_iald hx hb hK hP 6 0 rfl rfl (by omega) (by omega) dX2_bit_17 ?_
      refine xk_top (hw a (by omega)) ?_
      have b1 := cn_le b a
      have b2 : (if b a then 1 + cn b a else 0) < 2 ^ 31 := by split <;> omega
      refine xk_if_le (tgt := 25) hx hb (by omega) dX2_bit_18 (by decide) (fun c18 => ?_) (fun c18 => ?_)
      · refine lv_iconst (v := nI 0) hx hb dX2_bit_25 (by decide +kernel) ?_
        exact W.iret hx hb hr (fun t ht hW => ⟨_, rfl, by rw [atR_in ha (by omega)]; exact bI_0 (by cases hb9 : b a <;> simp [hb9] at c18 <;> rfl), ht⟩) t_nil dX2_bit_26
      · refine lv_iconst (v := nI 1) hx hb dX2_bit_21 (by decide +kernel) ?_
        refine lv_goto (tgt := 26) hx hb dX2_bit_22 (by decide) ?_
        exact W.iret hx hb hr (fun t ht hW => ⟨_, rfl, by rw [atR_in ha (by omega)]; exact bI_1 (by cases hb9 : b a <;> simp [hb9] at c18 <;> rfl), ht⟩) t_nil dX2_bit_26
    · rw [inR_nat ha] at c5; simp at c5
      refine lv_iconst (v := (-1)) hx hb dX2_bit_8 (by decide +kernel) ?_
      refine lv_goto (tgt := 26) hx hb dX2_bit_9 (by decide) ?_
      exact W.iret hx hb hr (fun t ht hW => ⟨_, rfl, (atR_out ha (by omega)).symm, ht⟩) t_nil dX2_bit_26
set_option maxHeartbeats 4000000 in
set_option maxRecDepth 100000 in
/-- count -/
theorem c_mcount (l : Launch) (D : va_G) (cI cZ : ClassId) (h1 : Nat) (am : Nat → Nat) (th n B tp ob co lv : Nat) (wrd frs bgs fbs rts wnt far : Nat → Int32) (x : Int32) (hn : n ≤ 4000) (hB : okB B) : Met l yX2_count wsX2_count ({ frames := 1, cells := 0, slots := 0, locals := 30 }) (va_Pc [.ref h1, .int x] (fun U => va_P D vwCl (mW cI cZ h1 am th n B tp ob co lv wrd frs bgs fbs rts wnt far) U.heap ∧ va_K D vwCl [(cI, .int), (cZ, .boolean)] U)) (vp_Si (fun r9 => r9 = cntA tp ob co n (n / B + 1) x)) 0 0 (fun _ => False) := by
  refine Met.ofW (cc := cX2_count) (maxL := 2) (ret := (some .int)) (by decide) rfl ?_
  intro p e s m args below meth c s₁ B9 hml hv
  obtain ⟨rfl, hP, hK⟩ := hv
  have hx := B9.exec
  have hb := B9.bytes
  have hr := B9.returns
  have hts := atoms_spec (ws := wsX2_count) B9.pre
  have hown : s.vm.findClass RX2 = some m.cls := findClass_of_methodNamed B9.named
  have hlocks := B9.notSynchronized
  have hl := lv_entry ([.ref h1, .int x]) (n := 2) (Nat.le_of_ble_eq_true rfl)
  rw [lg_entry_eq]
  generalize (lg_sl ([.ref h1, .int x]) ++ List.replicate (2 - (lg_sl ([.ref h1, .int x])).length) Slot.unset).toArray = ls at hl ⊢
  have hl : lv_has ls 2 [(0, .ref h1), (1, .int x)] := hl
  refine lv_iload_n hx hb dX2_count_0 rfl (lv_at hl 1 rfl) ?_
  by_cases h5 : x < 0 ∨ nI 5 ≤ x
  · have ho : x.toInt < 0 ∨ 4 < x.toInt := by
      rcases h5 with q | q
      · rw [Int32.lt_iff_toInt_lt] at q; exact Or.inl q
      · rw [Int32.le_iff_toInt_le, nI_toInt (by decide)] at q; exact Or.inr (by omega)
    have hc : cntA tp ob co n (n / B + 1) x = -1 := by
      rcases h5 with q | q
      · exact cntA_neg q
      · rcases xk_sgn x with z | ⟨a, ha, rfl⟩
        · exact cntA_neg z
        · exact cntA_big ha ((nI_leI (by decide) ha).mp q)
    refine lv_tableOut (tgt := 61) hx hb dX2_count_1 ho (by decide) ?_
    refine lv_iconst (v := (-1)) hx hb dX2_count_61 (by decide +kernel) ?_
    exact W.iret hx hb hr (fun t ht hW => ⟨_, rfl, hc.symm, ht⟩) t_nil dX2_count_62
  · obtain ⟨a, ha, rfl⟩ : ∃ a : Nat, a < 5 ∧ x = nI a := by
      rcases pk_ix x (n := 5) (by decide) with q | q | q
      · exact absurd (Or.inl q) h5
      · exact absurd (Or.inr q) h5
      · exact q
    match a, ha with
    | 0, _ =>
      refine lv_tableIn (tgt := 36) (off := 35) hx hb dX2_count_1 (by decide) (by decide) (by decide) (by decide) ?_
      refine lv_aload_n hx hb dX2_count_36 rfl (lv_at hl 0 rfl) ?_
      refine va_get (D := D) (ci := 2) (v := .int (nI tp)) (C := RX2) (T := TX2) (N := 14) hx hb hts in_X2_count_X2 hown hK hP 0 rfl rfl 3 (by decide) (hts (.fieldLink RX2 7 "OffsetHeapModel" "top" "I") (by decide +kernel)) (fun _ h9 => h9) rfl dX2_count_37 ?_
      exact W.iret hx hb hr (fun t ht hW => ⟨_, rfl, rfl, ht⟩) t_nil dX2_count_40
    | 1, _ =>
      refine lv_tableIn (tgt := 41) (off := 40) hx hb dX2_count_1 (by decide) (by decide) (by decide) (by decide) ?_
      refine lv_aload_n hx hb dX2_count_41 rfl (lv_at hl 0 rfl) ?_
      refine va_get (D := D) (ci := 2) (v := .int (nI ob)) (C := RX2) (T := TX2) (N := 14) hx hb hts in_X2_count_X2 hown hK hP 0 rfl rfl 4 (by decide) (hts (.fieldLink RX2 56 "OffsetHeapModel" "objects" "I") (by decide +kernel)) (fun _ h9 => h9) rfl dX2_count_42 ?_
      exact W.iret hx hb hr (fun t ht hW => ⟨_, rfl, rfl, ht⟩) t_nil dX2_count_45
    | 2, _ =>
      refine lv_tableIn (tgt := 46) (off := 45) hx hb dX2_count_1 (by decide) (by decide) (by decide) (by decide) ?_
      refine lv_aload_n hx hb dX2_count_46 rfl (lv_at hl 0 rfl) ?_
      refine va_get (D := D) (ci := 2) (v := .int (nI co)) (C := RX2) (T := TX2) (N := 14) hx hb hts in_X2_count_X2 hown hK hP 0 rfl rfl 5 (by decide) (hts (.fieldLink RX2 76 "OffsetHeapModel" "collected" "I") (by decide +kernel)) (fun _ h9 => h9) rfl dX2_count_47 ?_
      exact W.iret hx hb hr (fun t ht hW => ⟨_, rfl, rfl, ht⟩) t_nil dX2_count_50
    | 3, _ =>
      refine lv_tableIn (tgt := 51) (off := 50) hx hb dX2_count_1 (by decide) (by decide) (by decide) (by decide) ?_
      refine lv_aload_n hx hb dX2_count_51 rfl (lv_at hl 0 rfl) ?_
      refine va_get (D := D) (ci := 2) (v := .int (nI n)) (C := RX2) (T := TX2) (N := 14) hx hb hts in_X2_count_X2 hown hK hP 0 rfl rfl 1 (by decide) (hts (.fieldLink RX2 36 "OffsetHeapModel" "most" "I") (by decide +kernel)) (fun _ h9 => h9) rfl dX2_count_52 ?_
      exact W.iret hx hb hr (fun t ht hW => ⟨_, rfl, rfl, ht⟩) t_nil dX2_count_55
    | 4, _ =>
      refine lv_tableIn (tgt := 56) (off := 55) hx hb dX2_count_1 (by decide) (by decide) (by decide) (by decide) ?_
      refine lv_aload_n hx hb dX2_count_56 rfl (lv_at hl 0 rfl) ?_
      refine xk_roV (As := []) (rest := []) ⟨hx, hb, hml, hown, hts⟩ (c_mblocks l D cI cZ h1 am th n B tp ob co lv wrd frs bgs fbs rts wnt far hn hB) (cwV 0 hts gX2_count_X2_blocks rfl rfl rfl (by decide +kernel) ⟨Nat.le_of_ble_eq_true rfl, Nat.le_of_ble_eq_true rfl⟩) (va_recv hK hP (ci := 2) (q0 := 0) rfl rfl) hP hK rfl hl.1 rfl (Nat.le_of_ble_eq_true rfl) dX2_count_57 ⟨Nat.zero_le _, Nat.zero_le _⟩ ?_
      exact W.iret hx hb hr (fun t ht hW => ⟨_, rfl, rfl, ht⟩) t_nil dX2_count_60
    | a + 5, h => exact absurd h (by omega)
set_option maxHeartbeats 4000000 in
set_option maxRecDepth 100000 in
/-- offset -/
theorem c_moffset (l : Launch) (D : va_G) (cI cZ : ClassId) (h1 : Nat) (am : Nat → Nat) (th n B tp ob co lv : Nat) (wrd frs bgs fbs rts wnt far : Nat → Int32) (x : Int32) (b : Nat → Bool) (hn : n ≤ 4000) (hB : okB B) (hw : ∀ a, a ≤ n → wnt a = nI (if b a then 1 + cn b a else 0)) : Met l yX2_offset wsX2_offset ({ frames := 1, cells := 0, slots := 0, locals := 30 }) (va_Pc [.ref h1, .int x] (fun U => va_P D vwCl (mW cI cZ h1 am th n B tp ob co lv wrd frs bgs fbs rts wnt far) U.heap ∧ va_K D vwCl [(cI, .int), (cZ, .boolean)] U)) (vp_Si (fun r9 => r9 = atR (n / B + 1) (fun k => nI (cn b (k * B))) x)) 0 0 (fun _ => False) := by
  refine Met.ofW (cc := cX2_offset) (maxL := 4) (ret := (some .int)) (by decide) rfl ?_
  intro p e s m args below meth c s₁ B9 hml hv
  obtain ⟨rfl, hP, hK⟩ := hv
  have hx := B9.exec
  have hb := B9.bytes
  have hr := B9.returns
  have hts := atoms_spec (ws := wsX2_offset) B9.pre
  have hown : s.vm.findClass RX2 = some m.cls := findClass_of_methodNamed B9.named
  have hlocks := B9.notSynchronized
  have hl := lv_entry ([.ref h1, .int x]) (n := 4) (Nat.le_of_ble_eq_true rfl)
  rw [lg_entry_eq]
  generalize (lg_sl ([.ref h1, .int x]) ++ List.replicate (4 - (lg_sl ([.ref h1, .int x])).length) Slot.unset).toArray = ls at hl ⊢
  have hl : lv_has ls 4 [(0, .ref h1), (1, .int x)] := hl
  obtain ⟨hb1, hb2, hb3⟩ := okB_nb hB hn
  rcases xk_sgn x with hneg | ⟨a, ha, rfl⟩
  · refine lv_iload_n hx hb dX2_offset_0 rfl (lv_at hl 1 rfl) ?_
    refine lv_iconst (v := nI 0) hx hb dX2_offset_1 (by decide +kernel) ?_
    refine lv_aload_n hx hb dX2_offset_2 rfl (lv_at hl 0 rfl) ?_
    refine xk_roV (As := []) (rest := [.int (nI 0), .int x]) ⟨hx, hb, hml, hown, hts⟩ (c_mblocks l D cI cZ h1 am th n B tp ob co lv wrd frs bgs fbs rts wnt far hn hB) (cwV 0 hts gX2_offset_X2_blocks rfl rfl rfl (by decide +kernel) ⟨Nat.le_of_ble_eq_true rfl, Nat.le_of_ble_eq_true rfl⟩) (va_recv hK hP (ci := 2) (q0 := 0) rfl rfl) hP hK rfl hl.1 rfl (Nat.le_of_ble_eq_true rfl) dX2_offset_3 ⟨Nat.zero_le _, Nat.zero_le _⟩ ?_
    refine lv_iconst (v := nI 1) hx hb dX2_offset_6 (by decide +kernel) ?_
    refine lv_isub hx hb dX2_offset_7 ?_
    refine xk_top rfl ?_
    refine xk_roS (As := [.int x, .int (nI 0), .int (nI (n / B + 1) - nI 1)]) (rest := []) ⟨hx, hb, hml, hown, hts⟩ (c_isIn l x 0 (n / B + 1) (nI (n / B + 1) - nI 1) (by omega) (by omega) (hi_s (by omega))) (va_cwS 3 hts gX2_offset_X2_isIn rfl rfl rfl (by decide +kernel) ⟨Nat.le_of_ble_eq_true rfl, Nat.le_of_ble_eq_true rfl⟩) rfl hl.1 rfl (Nat.le_of_ble_eq_true rfl) dX2_offset_8 ⟨Nat.zero_le _, Nat.zero_le _⟩ ?_
    refine xk_if_neB (tgt := 16) hx hb dX2_offset_11 (by decide) (fun c11 => absurd c11 (by rw [inL_neg hneg]; decide)) (fun c11 => ?_)
    refine lv_iconst (v := (-1)) hx hb dX2_offset_14 (by decide +kernel) ?_
    exact W.iret hx hb hr (fun t ht hW => ⟨_, rfl, (atR_neg hneg).symm, ht⟩) t_nil dX2_offset_15
  · refine lv_iload_n hx hb dX2_offset_0 rfl (lv_at hl 1 rfl) ?_
    refine lv_iconst (v := nI 0) hx hb dX2_offset_1 (by decide +kernel) ?_
    refine lv_aload_n hx hb dX2_offset_2 rfl (lv_at hl 0 rfl) ?_
    refine xk_roV (As := []) (rest := [.int (nI 0), .int (nI a)]) ⟨hx, hb, hml, hown, hts⟩ (c_mblocks l D cI cZ h1 am th n B tp ob co lv wrd frs bgs fbs rts wnt far hn hB) (cwV 0 hts gX2_offset_X2_blocks rfl rfl rfl (by decide +kernel) ⟨Nat.le_of_ble_eq_true rfl, Nat.le_of_ble_eq_true rfl⟩) (va_recv hK hP (ci := 2) (q0 := 0) rfl rfl) hP hK rfl hl.1 rfl (Nat.le_of_ble_eq_true rfl) dX2_offset_3 ⟨Nat.zero_le _, Nat.zero_le _⟩ ?_
    refine lv_iconst (v := nI 1) hx hb dX2_offset_6 (by decide +kernel) ?_
    refine lv_isub hx hb dX2_offset_7 ?_
    refine xk_top rfl ?_
    refine xk_roS (As := [.int (nI a), .int (nI 0), .int (nI (n / B + 1) - nI 1)]) (rest := []) ⟨hx, hb, hml, hown, hts⟩ (c_isIn l (nI a) 0 (n / B + 1) (nI (n / B + 1) - nI 1) (by omega) (by omega) (hi_s (by omega))) (va_cwS 3 hts gX2_offset_X2_isIn rfl rfl rfl (by decide +kernel) ⟨Nat.le_of_ble_eq_true rfl, Nat.le_of_ble_eq_true rfl⟩) rfl hl.1 rfl (Nat.le_of_ble_eq_true rfl) dX2_offset_8 ⟨Nat.zero_le _, Nat.zero_le _⟩ ?_
    refine xk_if_neB (tgt := 16) hx hb dX2_offset_11 (by decide) (fun c11 => ?_) (fun c11 => ?_)
    · rw [inL_nat ha] at c11; simp at c11
      have hab : a * B ≤ n := by
        have h1 : a ≤ n / B := by omega
        exact Nat.le_trans (Nat.mul_le_mul_right B h1) (Nat.div_mul_le_self n B)
      have hbd := cn_le b
      have key : ∀ (d : Nat) (i : Nat) (ls : Array Slot), a * B + 1 ≤ i + d → i ≤ a * B → lv_has ls 4 [(0, .ref h1), (1, .int (nI a)), (2, .int (nI (cn b i))), (3, .int (nI i))] → W p l e (headSpec wsX2_offset ({ frames := 1, cells := 0, slots := 0, locals := 30 })).room s m ([.ref h1, .int (nI a)] : List Value).toArray below meth c s.heap [] 0 0 (MQ below (vp_Si (fun r9 => r9 = atR (n / B + 1) (fun k => nI (cn b (k * B))) (nI a))) ([.ref h1, .int (nI a)] : List Value).toArray s 0 0 (fun _ => False)) (F0 m 20 ls []) := by
        intro d
        induction d with
        | zero =>
          intro i ls hd hi hl
          exfalso; omega
        | succ d ih =>
          intro i ls hd hi hl
          have q1 := cn_le b i
          refine lv_iload_n hx hb dX2_offset_20 rfl (lv_at hl 3 rfl) ?_
          refine lv_iload_n hx hb dX2_offset_21 rfl (lv_at hl 1 rfl) ?_
          refine lv_aload_n hx hb dX2_offset_22 rfl (lv_at hl 0 rfl) ?_
          refine va_get (D := D) (ci := 2) (v := .int (nI B)) (C := RX2) (T := TX2) (N := 14) hx hb hts in_X2_offset_X2 hown hK hP 0 rfl rfl 2 (by decide) (hts (.fieldLink RX2 39 "OffsetHeapModel" "block" "I") (by decide +kernel)) (fun _ h9 => h9) rfl dX2_offset_23 ?_
          refine lv_imul hx hb dX2_offset_26 ?_
          refine xk_top (pk_mul _ _) ?_
          refine xk_icmp_ge (tgt := 53) hx hb (by omega) (by omega) dX2_offset_27 (by decide) (fun c27 => ?_) (fun c27 => ?_)
          · refine lv_iload_n hx hb dX2_offset_53 rfl (lv_at hl 2 rfl) ?_
            exact W.iret hx hb hr (fun t ht hW => ⟨_, rfl, by rw [atR_in ha (by omega), show i = a * B by omega], ht⟩) t_nil dX2_offset_54
          · refine lv_aload_n hx hb dX2_offset_30 rfl (lv_at hl 0 rfl) ?_
            refine va_get (D := D) (ci := 2) (v := .ref (am 6)) (C := RX2) (T := TX2) (N := 14) hx hb hts in_X2_offset_X2 hown hK hP 0 rfl rfl 12 (by decide) (hts (.fieldLink RX2 30 "OffsetHeapModel" "went" "[I") (by decide +kernel)) (fun _ h9 => h9) rfl dX2_offset_31 ?_
            refine lv_iload_n hx hb dX2_offset_34 rfl (lv_at hl 3 rfl) ?_
            refine xk_iald hx hb hK hP 6 0 rfl rfl (by omega) (by omega) dX2_offset_35 ?_
            refine xk_top (hw i (by omega)) ?_
            have q2 : (if b i then 1 + cn b i else 0) < 2 ^ 31 := by split <;> omega
            refine xk_if_le (tgt := 45) hx hb (by omega) dX2_offset_36 (by decide) (fun c36 => ?_) (fun c36 => ?_)
            · refine lv_iload_n hx hb dX2_offset_45 rfl (lv_at hl 2 rfl) ?_
              refine lv_istore_n (lv' := [(2, .int (nI (cn b i))), (0, .ref h1), (1, .int (nI a)), (3, .int (nI i))]) hx hb dX2_offset_46 rfl hl (by decide) rfl (fun ls hl => ?_)
              refine lv_iinc (v := nI (i + 1)) (lv' := [(3, .int (nI (i + 1))), (2, .int (nI (cn b i))), (0, .ref h1), (1, .int (nI a))]) hx hb dX2_offset_47 hl (k := 3) rfl (xk_inc i) (by decide) rfl (fun ls hl => ?_)
              refine lv_goto (tgt := 20) hx hb dX2_offset_50 (by decide) ?_
              have hbi : b i = false := by cases q : b i <;> simp [q] at c36 <;> rfl
              rw [← cn_f hbi] at hl
              exact ih (i + 1) ls (by omega) (by omega) (lv_sub hl [2, 3, 1, 0] rfl)
            · refine lv_iload_n hx hb dX2_offset_39 rfl (lv_at hl 2 rfl) ?_
              refine lv_iconst (v := nI 1) hx hb dX2_offset_40 (by decide +kernel) ?_
              refine lv_iadd hx hb dX2_offset_41 ?_
              refine xk_top (nI_add _ _) ?_
              refine lv_goto (tgt := 46) hx hb dX2_offset_42 (by decide) ?_
              refine lv_istore_n (lv' := [(2, .int (nI ((cn b i) + 1))), (0, .ref h1), (1, .int (nI a)), (3, .int (nI i))]) hx hb dX2_offset_46 rfl hl (by decide) rfl (fun ls hl => ?_)
              refine lv_iinc (v := nI (i + 1)) (lv' := [(3, .int (nI (i + 1))), (2, .int (nI ((cn b i) + 1))), (0, .ref h1), (1, .int (nI a))]) hx hb dX2_offset_47 hl (k := 3) rfl (xk_inc i) (by decide) rfl (fun ls hl => ?_)
              refine lv_goto (tgt := 20) hx hb dX2_offset_50 (by decide) ?_
              have hbi : b i = true := by cases q : b i <;> simp [q] at c36 <;> rfl
              rw [← cn_t hbi] at hl
              exact ih (i + 1) ls (by omega) (by omega) (lv_sub hl [2, 3, 1, 0] rfl)
      refine lv_iconst (v := nI 0) hx hb dX2_offset_16 (by decide +kernel) ?_
      refine lv_istore_n (lv' := [(2, .int (nI 0)), (0, .ref h1), (1, .int (nI a))]) hx hb dX2_offset_17 rfl hl (by decide) rfl (fun ls hl => ?_)
      refine lv_iconst (v := nI 0) hx hb dX2_offset_18 (by decide +kernel) ?_
      refine lv_istore_n (lv' := [(3, .int (nI 0)), (2, .int (nI 0)), (0, .ref h1), (1, .int (nI a))]) hx hb dX2_offset_19 rfl hl (by decide) rfl (fun ls hl => ?_)
      exact key (a * B + 1) 0 ls (by omega) (by omega) (lv_sub hl [2, 3, 1, 0] rfl)
    · rw [inL_nat ha] at c11; simp at c11
      refine lv_iconst (v := (-1)) hx hb dX2_offset_14 (by decide +kernel) ?_
      exact W.iret hx hb hr (fun t ht hW => ⟨_, rfl, (atR_out ha (by omega)).symm, ht⟩) t_nil dX2_offset_15
end
section
/-! the reference: make, refer, set, root, its making -/
theorem mz_s {f : Nat → Int32} {a i : Nat} (h : ∀ j, a < j → j < a + i → f j = 0) : ∀ j, a < j → j < a + (i + 1) → upd f (a + i) (nI 0) j = 0 := by
  intro j h1 h2
  by_cases q : j = a + i
  · rw [q]; exact pk_us
  · rw [pk_un q]; exact h j h1 (by omega)
theorem in_X2_init_X2 : ∀ w ∈ wsX20, w ∈ wsX2_init := by decide +kernel
set_option maxHeartbeats 4000000 in
set_option maxRecDepth 100000 in
/-- make -/
theorem c_mmake (l : Launch) (D : va_G) (cI cZ : ClassId) (h1 : Nat) (am : Nat → Nat) (th n B tp ob co lv : Nat) (wrd frs bgs fbs rts wnt far : Nat → Int32) (sz : Nat) (x y : Int32) (hn : n ≤ 4000) (htp : tp ≤ n + 1) (htp1 : 1 ≤ tp) : Met l yX2_make wsX2_make ({ frames := 2, cells := 0, slots := 0, locals := 60 }) (va_Pc [.ref h1, .int x, .int y] (fun U => U.heap.size = sz ∧ va_P D vwCl (mW cI cZ h1 am th n B tp ob co lv wrd frs bgs fbs rts wnt far) U.heap ∧ va_K D vwCl [(cI, .int), (cZ, .boolean)] U ∧ va_D (fun _ => True) (mW cI cZ h1 am th n B tp ob co lv wrd frs bgs fbs rts wnt far))) (va_Qi (fun (r9 : Int32) (u : Nat × Nat × (Nat → Int32) × (Nat → Int32)) => (u = (tp, ob, wrd, bgs) ∧ ((inR 16 x = false ∨ inR 101 y = false) ∧ r9 = -1)) ∨ (u = (tp, ob, wrd, bgs) ∧ ∃ r w, x = nI r ∧ y = nI w ∧ r ≤ 15 ∧ w ≤ 100 ∧ n < tp + r + w ∧ r9 = nI 0) ∨ (∃ r w, x = nI r ∧ y = nI w ∧ r ≤ 15 ∧ w ≤ 100 ∧ tp + r + w ≤ n ∧ r9 = nI tp ∧ u.1 = tp + (1 + r + w) ∧ u.2.1 = ob + 1 ∧ u.2.2.1 tp = nI (256 * w + 16 * r) ∧ (∀ j, tp < j → j ≤ tp + r + w → u.2.2.1 j = 0) ∧ (∀ j, j < tp ∨ tp + r + w < j → u.2.2.1 j = wrd j) ∧ u.2.2.2 = upd bgs tp (bI true))) (fun (u : Nat × Nat × (Nat → Int32) × (Nat → Int32)) t => va_P D vwCl (mW cI cZ h1 am th n B u.1 u.2.1 co lv u.2.2.1 frs u.2.2.2 fbs rts wnt far) t.heap ∧ va_D (va_A (mW cI cZ h1 am th n B tp ob co lv wrd frs bgs fbs rts wnt far) sz) (mW cI cZ h1 am th n B u.1 u.2.1 co lv u.2.2.1 frs u.2.2.2 fbs rts wnt far)) (va_A (mW cI cZ h1 am th n B tp ob co lv wrd frs bgs fbs rts wnt far) sz)) 0 0 (va_A (mW cI cZ h1 am th n B tp ob co lv wrd frs bgs fbs rts wnt far) sz) := by
  refine Met.ofW (cc := cX2_make) (maxL := 5) (ret := (some .int)) (by decide) rfl ?_
  intro p e s m args below meth c s₁ B9 hml hv
  obtain ⟨rfl, hsz, hP, hK, hD0⟩ := hv
  have hx := B9.exec
  have hb := B9.bytes
  have hr := B9.returns
  have hts := atoms_spec (ws := wsX2_make) B9.pre
  have hown : s.vm.findClass RX2 = some m.cls := findClass_of_methodNamed B9.named
  have hlocks := B9.notSynchronized
  subst hsz
  have hD := hD0.self (sz := s.heap.size)
  generalize hAe : va_A (mW cI cZ h1 am th n B tp ob co lv wrd frs bgs fbs rts wnt far) s.heap.size = A at hD ⊢
  have hA : ∀ q : Nat, s.heap.size ≤ q → A q := fun q h => by rw [← hAe]; exact Or.inr h
  have hS : va_S A s.heap s.heap [] := va_S.rf
  have hl := lv_entry ([.ref h1, .int x, .int y]) (n := 5) (Nat.le_of_ble_eq_true rfl)
  rw [lg_entry_eq]
  generalize (lg_sl ([.ref h1, .int x, .int y]) ++ List.replicate (5 - (lg_sl ([.ref h1, .int x, .int y])).length) Slot.unset).toArray = ls at hl ⊢
  have hl : lv_has ls 5 [(0, .ref h1), (1, .int x), (2, .int y)] := hl
  refine lv_iload_n hx hb dX2_make_0 rfl (lv_at hl 1 rfl) ?_
  refine lv_iconst (v := nI 0) hx hb dX2_make_1 (by decide +kernel) ?_
  refine lv_bipush (v := nI 15) hx hb dX2_make_2 (by decide +kernel) ?_
  refine xk_roS (As := [.int x, .int (nI 0), .int (nI 15)]) (rest := []) ⟨hx, hb, hml, hown, hts⟩ (c_isIn l x 0 (16) (nI 15) (by omega) (by omega) (by decide)) (va_cwS 3 hts gX2_make_X2_isIn rfl rfl rfl (by decide +kernel) ⟨Nat.le_of_ble_eq_true rfl, Nat.le_of_ble_eq_true rfl⟩) rfl hl.1 rfl (Nat.le_of_ble_eq_true rfl) dX2_make_4 ⟨Nat.zero_le _, Nat.zero_le _⟩ ?_
  refine xk_if_eqB (tgt := 20) hx hb dX2_make_7 (by decide) (fun c7 => ?_) (fun c7 => ?_)
  · refine lv_iconst (v := (-1)) hx hb dX2_make_20 (by decide +kernel) ?_
    exact W.iret hx hb hr (fun t ht hW => ⟨⟨_, (tp, ob, wrd, bgs), rfl, Or.inl ⟨rfl, Or.inl (by rw [inL_0] at c7; exact c7), rfl⟩, by rw [ht]; exact hP, hD⟩, hS.F ht⟩) hS.2.2 dX2_make_21
  · refine lv_iload_n hx hb dX2_make_10 rfl (lv_at hl 2 rfl) ?_
    refine lv_iconst (v := nI 0) hx hb dX2_make_11 (by decide +kernel) ?_
    refine lv_bipush (v := nI 100) hx hb dX2_make_12 (by decide +kernel) ?_
    refine xk_roS (As := [.int y, .int (nI 0), .int (nI 100)]) (rest := []) ⟨hx, hb, hml, hown, hts⟩ (c_isIn l y 0 (101) (nI 100) (by omega) (by omega) (by decide)) (va_cwS 3 hts gX2_make_X2_isIn rfl rfl rfl (by decide +kernel) ⟨Nat.le_of_ble_eq_true rfl, Nat.le_of_ble_eq_true rfl⟩) rfl hl.1 rfl (Nat.le_of_ble_eq_true rfl) dX2_make_14 ⟨Nat.zero_le _, Nat.zero_le _⟩ ?_
    refine xk_if_neB (tgt := 22) hx hb dX2_make_17 (by decide) (fun c17 => ?_) (fun c17 => ?_)
    · rw [inL_0] at c7 c17
      obtain ⟨r, hr0, er, hr1⟩ := inR_t c7
      obtain ⟨w, hw0, ew, hw1⟩ := inR_t c17
      refine lv_aload_n hx hb dX2_make_22 rfl (lv_at hl 0 rfl) ?_
      refine va_get (D := D) (ci := 2) (v := .int (nI tp)) (C := RX2) (T := TX2) (N := 14) hx hb hts in_X2_make_X2 hown hK hP 0 rfl rfl 3 (by decide) (hts (.fieldLink RX2 7 "OffsetHeapModel" "top" "I") (by decide +kernel)) (fun _ h9 => h9) rfl dX2_make_23 ?_
      refine lv_iload_n hx hb dX2_make_26 rfl (lv_at hl 1 rfl) ?_
      refine xk_top er ?_
      refine lv_iadd hx hb dX2_make_27 ?_
      refine xk_top (nI_add _ _) ?_
      refine lv_iload_n hx hb dX2_make_28 rfl (lv_at hl 2 rfl) ?_
      refine xk_top ew ?_
      refine lv_iadd hx hb dX2_make_29 ?_
      refine xk_top (nI_add _ _) ?_
      refine lv_aload_n hx hb dX2_make_30 rfl (lv_at hl 0 rfl) ?_
      refine va_get (D := D) (ci := 2) (v := .int (nI n)) (C := RX2) (T := TX2) (N := 14) hx hb hts in_X2_make_X2 hown hK hP 0 rfl rfl 1 (by decide) (hts (.fieldLink RX2 36 "OffsetHeapModel" "most" "I") (by decide +kernel)) (fun _ h9 => h9) rfl dX2_make_31 ?_
      refine xk_icmp_le (tgt := 39) hx hb (by omega) (by omega) dX2_make_34 (by decide) (fun c34 => ?_) (fun c34 => ?_)
      · refine lv_aload_n hx hb dX2_make_39 rfl (lv_at hl 0 rfl) ?_
        refine va_get (D := D) (ci := 2) (v := .int (nI tp)) (C := RX2) (T := TX2) (N := 14) hx hb hts in_X2_make_X2 hown hK hP 0 rfl rfl 3 (by decide) (hts (.fieldLink RX2 7 "OffsetHeapModel" "top" "I") (by decide +kernel)) (fun _ h9 => h9) rfl dX2_make_40 ?_
        refine lv_istore_n (lv' := [(3, .int (nI tp)), (0, .ref h1), (1, .int x), (2, .int y)]) hx hb dX2_make_43 rfl hl (by decide) rfl (fun ls hl => ?_)
        refine lv_aload_n hx hb dX2_make_44 rfl (lv_at hl 1 rfl) ?_
        refine va_get (D := D) (ci := 2) (v := .ref (am 1)) (C := RX2) (T := TX2) (N := 14) hx hb hts in_X2_make_X2 hown hK hP 0 rfl rfl 7 (by decide) (hts (.fieldLink RX2 13 "OffsetHeapModel" "words" "[I") (by decide +kernel)) (fun _ h9 => h9) rfl dX2_make_45 ?_
        refine lv_iload_n hx hb dX2_make_48 rfl (lv_at hl 0 rfl) ?_
        refine lv_sipush (v := nI 256) hx hb dX2_make_49 (by decide +kernel) ?_
        refine lv_iload_n hx hb dX2_make_52 rfl (lv_at hl 3 rfl) ?_
        refine xk_top ew ?_
        refine lv_imul hx hb dX2_make_53 ?_
        refine xk_top (pk_mul _ _) ?_
        refine lv_bipush (v := nI 16) hx hb dX2_make_54 (by decide +kernel) ?_
        refine lv_iload_n hx hb dX2_make_56 rfl (lv_at hl 2 rfl) ?_
        refine xk_top er ?_
        refine lv_imul hx hb dX2_make_57 ?_
        refine xk_top (pk_mul _ _) ?_
        refine lv_iadd hx hb dX2_make_58 ?_
        refine xk_top (nI_add _ _) ?_
        refine xk_iast hx hb hK hP hD hS 1 0 rfl rfl (by omega) (by omega) dX2_make_59 (fun H locs hP hD hS => ?_)
        have hP : va_P D vwCl (mW cI cZ h1 am th n B tp ob co lv (upd wrd tp (nI ((256 * w) + (16 * r)))) frs bgs fbs rts wnt far) H := hP
        have hD : va_D A (mW cI cZ h1 am th n B tp ob co lv (upd wrd tp (nI ((256 * w) + (16 * r)))) frs bgs fbs rts wnt far) := hD
        have key : ∀ (d : Nat) (wrd1 : Nat → Int32) (i : Nat) (H : Heap) (locs : List Loc) (ls : Array Slot), r + w + 2 ≤ i + d → i ≤ r + w + 1 → 1 ≤ i → wrd1 tp = nI (256 * w + 16 * r) → (∀ j, tp < j → j < tp + i → wrd1 j = 0) → (∀ j, j < tp ∨ tp + i ≤ j → wrd1 j = wrd j) → va_P D vwCl (mW cI cZ h1 am th n B tp ob co lv wrd1 frs bgs fbs rts wnt far) H → va_D A (mW cI cZ h1 am th n B tp ob co lv wrd1 frs bgs fbs rts wnt far) → va_S A s.heap H locs → lv_has ls 5 [(0, .ref h1), (1, .int x), (2, .int y), (3, .int (nI tp)), (4, .int (nI i))] → W p l e (headSpec wsX2_make ({ frames := 2, cells := 0, slots := 0, locals := 60 })).room s m ([.ref h1, .int x, .int y] : List Value).toArray below meth c H locs 0 0 (MQ below (va_Qi (fun (r9 : Int32) (u : Nat × Nat × (Nat → Int32) × (Nat → Int32)) => (u = (tp, ob, wrd, bgs) ∧ ((inR 16 x = false ∨ inR 101 y = false) ∧ r9 = -1)) ∨ (u = (tp, ob, wrd, bgs) ∧ ∃ r w, x = nI r ∧ y = nI w ∧ r ≤ 15 ∧ w ≤ 100 ∧ n < tp + r + w ∧ r9 = nI 0) ∨ (∃ r w, x = nI r ∧ y = nI w ∧ r ≤ 15 ∧ w ≤ 100 ∧ tp + r + w ≤ n ∧ r9 = nI tp ∧ u.1 = tp + (1 + r + w) ∧ u.2.1 = ob + 1 ∧ u.2.2.1 tp = nI (256 * w + 16 * r) ∧ (∀ j, tp < j → j ≤ tp + r + w → u.2.2.1 j = 0) ∧ (∀ j, j < tp ∨ tp + r + w < j → u.2.2.1 j = wrd j) ∧ u.2.2.2 = upd bgs tp (bI true))) (fun (u : Nat × Nat × (Nat → Int32) × (Nat → Int32)) t => va_P D vwCl (mW cI cZ h1 am th n B u.1 u.2.1 co lv u.2.2.1 frs u.2.2.2 fbs rts wnt far) t.heap ∧ va_D A (mW cI cZ h1 am th n B u.1 u.2.1 co lv u.2.2.1 frs u.2.2.2 fbs rts wnt far)) A) ([.ref h1, .int x, .int y] : List Value).toArray s 0 0 A) (F0 m 63 ls []) := by
          intro d
          induction d with
          | zero =>
            intro wrd1 i H locs ls hd hi hi1 h1w h2w h3w hP hD hS hl
            exfalso; omega
          | succ d ih =>
            intro wrd1 i H locs ls hd hi hi1 h1w h2w h3w hP hD hS hl
            refine lv_iload hx hb dX2_make_63 (lv_at hl 4 rfl) ?_
            refine lv_iload_n hx hb dX2_make_65 rfl (lv_at hl 1 rfl) ?_
            refine xk_top er ?_
            refine lv_iload_n hx hb dX2_make_66 rfl (lv_at hl 2 rfl) ?_
            refine xk_top ew ?_
            refine lv_iadd hx hb dX2_make_67 ?_
            refine xk_top (nI_add _ _) ?_
            refine xk_icmp_gt (tgt := 87) hx hb (by omega) (by omega) dX2_make_68 (by decide) (fun c68 => ?_) (fun c68 => ?_)
            · refine lv_aload_n hx hb dX2_make_87 rfl (lv_at hl 0 rfl) ?_
              refine va_get (D := D) (ci := 2) (v := .ref (am 3)) (C := RX2) (T := TX2) (N := 14) hx hb hts in_X2_make_X2 hown hK hP 0 rfl rfl 9 (by decide) (hts (.fieldLink RX2 20 "OffsetHeapModel" "begins" "[Z") (by decide +kernel)) (fun _ h9 => h9) rfl dX2_make_88 ?_
              refine lv_iload_n hx hb dX2_make_91 rfl (lv_at hl 3 rfl) ?_
              refine lv_iconst (v := nI 1) hx hb dX2_make_92 (by decide +kernel) ?_
              refine xk_zast (z := true) hx hb hK hP hD hS 3 1 rfl rfl (by omega) (by omega) dX2_make_93 (fun H locs hP hD hS => ?_)
              have hP : va_P D vwCl (mW cI cZ h1 am th n B tp ob co lv wrd1 frs (upd bgs tp (bI true)) fbs rts wnt far) H := hP
              have hD : va_D A (mW cI cZ h1 am th n B tp ob co lv wrd1 frs (upd bgs tp (bI true)) fbs rts wnt far) := hD
              refine lv_aload_n hx hb dX2_make_94 rfl (lv_at hl 0 rfl) ?_
              refine lv_aload_n hx hb dX2_make_95 rfl (lv_at hl 0 rfl) ?_
              refine va_get (D := D) (ci := 2) (v := .int (nI tp)) (C := RX2) (T := TX2) (N := 14) hx hb hts in_X2_make_X2 hown hK hP 0 rfl rfl 3 (by decide) (hts (.fieldLink RX2 7 "OffsetHeapModel" "top" "I") (by decide +kernel)) (fun _ h9 => h9) rfl dX2_make_96 ?_
              refine lv_iconst (v := nI 1) hx hb dX2_make_99 (by decide +kernel) ?_
              refine lv_iadd hx hb dX2_make_100 ?_
              refine xk_top (nI_add _ _) ?_
              refine lv_iload_n hx hb dX2_make_101 rfl (lv_at hl 1 rfl) ?_
              refine xk_top er ?_
              refine lv_iadd hx hb dX2_make_102 ?_
              refine xk_top (nI_add _ _) ?_
              refine lv_iload_n hx hb dX2_make_103 rfl (lv_at hl 2 rfl) ?_
              refine xk_top ew ?_
              refine lv_iadd hx hb dX2_make_104 ?_
              refine xk_top (nI_add _ _) ?_
              refine va_put (D := D) (ci := 2) (v := .int (nI (((tp + 1) + r) + w))) (ty := .int) (C := RX2) (T := TX2) (N := 14) hx hb hts in_X2_make_X2 tyX2 tyX2_ok nmX2 hown hK hP hD hS 0 rfl rfl 3 (by decide) (hts (.fieldLink RX2 7 "OffsetHeapModel" "top" "I") (by decide +kernel)) (fun _ h9 => h9) rfl (by decide +kernel) rfl rfl (Nat.le_of_ble_eq_true rfl) dX2_make_105 (fun H locs hP hD hS => ?_)
              have hP : va_P D vwCl (mW cI cZ h1 am th n B (((tp + 1) + r) + w) ob co lv wrd1 frs (upd bgs tp (bI true)) fbs rts wnt far) H := hP
              have hD : va_D A (mW cI cZ h1 am th n B (((tp + 1) + r) + w) ob co lv wrd1 frs (upd bgs tp (bI true)) fbs rts wnt far) := hD
              refine lv_aload_n hx hb dX2_make_108 rfl (lv_at hl 0 rfl) ?_
              refine lv_dup hx hb dX2_make_109 rfl ?_
              refine va_get (D := D) (ci := 2) (v := .int (nI ob)) (C := RX2) (T := TX2) (N := 14) hx hb hts in_X2_make_X2 hown hK hP 0 rfl rfl 4 (by decide) (hts (.fieldLink RX2 56 "OffsetHeapModel" "objects" "I") (by decide +kernel)) (fun _ h9 => h9) rfl dX2_make_110 ?_
              refine lv_iconst (v := nI 1) hx hb dX2_make_113 (by decide +kernel) ?_
              refine lv_iadd hx hb dX2_make_114 ?_
              refine xk_top (nI_add _ _) ?_
              refine va_put (D := D) (ci := 2) (v := .int (nI (ob + 1))) (ty := .int) (C := RX2) (T := TX2) (N := 14) hx hb hts in_X2_make_X2 tyX2 tyX2_ok nmX2 hown hK hP hD hS 0 rfl rfl 4 (by decide) (hts (.fieldLink RX2 56 "OffsetHeapModel" "objects" "I") (by decide +kernel)) (fun _ h9 => h9) rfl (by decide +kernel) rfl rfl (Nat.le_of_ble_eq_true rfl) dX2_make_115 (fun H locs hP hD hS => ?_)
              have hP : va_P D vwCl (mW cI cZ h1 am th n B (((tp + 1) + r) + w) (ob + 1) co lv wrd1 frs (upd bgs tp (bI true)) fbs rts wnt far) H := hP
              have hD : va_D A (mW cI cZ h1 am th n B (((tp + 1) + r) + w) (ob + 1) co lv wrd1 frs (upd bgs tp (bI true)) fbs rts wnt far) := hD
              refine lv_iload_n hx hb dX2_make_118 rfl (lv_at hl 3 rfl) ?_
              exact W.iret hx hb hr (fun t ht hW => ⟨⟨_, (tp + 1 + r + w, ob + 1, wrd1, upd bgs tp (bI true)), rfl, Or.inr (Or.inr ⟨r, w, er, ew, by omega, by omega, by omega, rfl, by show tp + 1 + r + w = _; omega, rfl, h1w, fun j j1 j2 => h2w j j1 (by omega), fun j hj => h3w j (by omega), rfl⟩), by rw [ht]; exact hP, hD⟩, hS.F ht⟩) hS.2.2 dX2_make_119
            · refine lv_aload_n hx hb dX2_make_71 rfl (lv_at hl 0 rfl) ?_
              refine va_get (D := D) (ci := 2) (v := .ref (am 1)) (C := RX2) (T := TX2) (N := 14) hx hb hts in_X2_make_X2 hown hK hP 0 rfl rfl 7 (by decide) (hts (.fieldLink RX2 13 "OffsetHeapModel" "words" "[I") (by decide +kernel)) (fun _ h9 => h9) rfl dX2_make_72 ?_
              refine lv_iload_n hx hb dX2_make_75 rfl (lv_at hl 3 rfl) ?_
              refine lv_iload hx hb dX2_make_76 (lv_at hl 4 rfl) ?_
              refine lv_iadd hx hb dX2_make_78 ?_
              refine xk_top (nI_add _ _) ?_
              refine lv_iconst (v := nI 0) hx hb dX2_make_79 (by decide +kernel) ?_
              refine xk_iast hx hb hK hP hD hS 1 0 rfl rfl (by omega) (by omega) dX2_make_80 (fun H locs hP hD hS => ?_)
              have hP : va_P D vwCl (mW cI cZ h1 am th n B tp ob co lv (upd wrd1 (tp + i) (nI 0)) frs bgs fbs rts wnt far) H := hP
              have hD : va_D A (mW cI cZ h1 am th n B tp ob co lv (upd wrd1 (tp + i) (nI 0)) frs bgs fbs rts wnt far) := hD
              refine lv_iinc (v := nI (i + 1)) (lv' := [(4, .int (nI (i + 1))), (0, .ref h1), (1, .int x), (2, .int y), (3, .int (nI tp))]) hx hb dX2_make_81 hl (k := 4) rfl (xk_inc i) (by decide) rfl (fun ls hl => ?_)
              refine lv_goto (tgt := 63) hx hb dX2_make_84 (by decide) ?_
              exact ih (upd wrd1 (tp + i) (nI 0)) (i + 1) H locs ls (by omega) (by omega) (by omega) (by rw [pk_un (by omega)]; exact h1w) (mz_s h2w) (fun j hj => by rw [pk_un (by omega)]; exact h3w j (by omega)) hP hD hS (lv_sub hl [1, 2, 3, 4, 0] rfl)
        refine lv_iconst (v := nI 1) hx hb dX2_make_60 (by decide +kernel) ?_
        refine lv_istore (lv' := [(4, .int (nI 1)), (3, .int (nI tp)), (0, .ref h1), (1, .int x), (2, .int y)]) hx hb dX2_make_61 hl (by decide) rfl (fun ls hl => ?_)
        exact key (r + w + 2) _ 1 H locs ls (by omega) (by omega) (by omega) pk_us (fun j j1 j2 => by omega) (fun j hj => pk_un (by omega)) hP hD hS (lv_sub hl [2, 3, 4, 1, 0] rfl)
      · refine lv_iconst (v := nI 0) hx hb dX2_make_37 (by decide +kernel) ?_
        exact W.iret hx hb hr (fun t ht hW => ⟨⟨_, (tp, ob, wrd, bgs), rfl, Or.inr (Or.inl ⟨rfl, r, w, er, ew, by omega, by omega, by omega, rfl⟩), by rw [ht]; exact hP, hD⟩, hS.F ht⟩) hS.2.2 dX2_make_38
    · refine lv_iconst (v := (-1)) hx hb dX2_make_20 (by decide +kernel) ?_
      exact W.iret hx hb hr (fun t ht hW => ⟨⟨_, (tp, ob, wrd, bgs), rfl, Or.inl ⟨rfl, Or.inr (by rw [inL_0] at c17; exact c17), rfl⟩, by rw [ht]; exact hP, hD⟩, hS.F ht⟩) hS.2.2 dX2_make_21
set_option maxHeartbeats 4000000 in
set_option maxRecDepth 100000 in
/-- refer -/
theorem c_mrefer (l : Launch) (D : va_G) (cI cZ : ClassId) (h1 : Nat) (am : Nat → Nat) (th n B tp ob co lv : Nat) (wrd frs bgs fbs rts wnt far : Nat → Int32) (sz : Nat) (st : Nat → Bool) (x k v : Int32) (hok : okS n tp wrd st rts) (hbg : ∀ a, a ≤ n → bgs a = bI (st a)) : Met l yX2_refer wsX2_refer ({ frames := 3, cells := 0, slots := 0, locals := 90 }) (va_Pc [.ref h1, .int x, .int k, .int v] (fun U => U.heap.size = sz ∧ va_P D vwCl (mW cI cZ h1 am th n B tp ob co lv wrd frs bgs fbs rts wnt far) U.heap ∧ va_K D vwCl [(cI, .int), (cZ, .boolean)] U ∧ va_D (fun _ => True) (mW cI cZ h1 am th n B tp ob co lv wrd frs bgs fbs rts wnt far))) (va_Qi (fun (r9 : Int32) (u : Nat → Int32) => ((∀ o j, ¬ cRef tp wrd st x k v o j) ∧ r9 = nI 0 ∧ u = wrd) ∨ ∃ o j, cRef tp wrd st x k v o j ∧ r9 = nI 1 ∧ u = upd wrd (o + 1 + j) v) (fun (u : Nat → Int32) t => va_P D vwCl (mW cI cZ h1 am th n B tp ob co lv u frs bgs fbs rts wnt far) t.heap ∧ va_D (va_A (mW cI cZ h1 am th n B tp ob co lv wrd frs bgs fbs rts wnt far) sz) (mW cI cZ h1 am th n B tp ob co lv u frs bgs fbs rts wnt far)) (va_A (mW cI cZ h1 am th n B tp ob co lv wrd frs bgs fbs rts wnt far) sz)) 0 0 (va_A (mW cI cZ h1 am th n B tp ob co lv wrd frs bgs fbs rts wnt far) sz) := by
  refine Met.ofW (cc := cX2_refer) (maxL := 4) (ret := (some .boolean)) (by decide) rfl ?_
  intro p e s m args below meth c s₁ B9 hml hv
  obtain ⟨rfl, hsz, hP, hK, hD0⟩ := hv
  have hx := B9.exec
  have hb := B9.bytes
  have hr := B9.returns
  have hts := atoms_spec (ws := wsX2_refer) B9.pre
  have hown : s.vm.findClass RX2 = some m.cls := findClass_of_methodNamed B9.named
  have hlocks := B9.notSynchronized
  subst hsz
  have hD := hD0.self (sz := s.heap.size)
  generalize hAe : va_A (mW cI cZ h1 am th n B tp ob co lv wrd frs bgs fbs rts wnt far) s.heap.size = A at hD ⊢
  have hA : ∀ q : Nat, s.heap.size ≤ q → A q := fun q h => by rw [← hAe]; exact Or.inr h
  have hS : va_S A s.heap s.heap [] := va_S.rf
  have hl := lv_entry ([.ref h1, .int x, .int k, .int v]) (n := 4) (Nat.le_of_ble_eq_true rfl)
  rw [lg_entry_eq]
  generalize (lg_sl ([.ref h1, .int x, .int k, .int v]) ++ List.replicate (4 - (lg_sl ([.ref h1, .int x, .int k, .int v])).length) Slot.unset).toArray = ls at hl ⊢
  have hl : lv_has ls 4 [(0, .ref h1), (1, .int x), (2, .int k), (3, .int v)] := hl
  have htp := hok.1.2.1
  have hn := hok.1.2.2
  refine lv_aload_n hx hb dX2_refer_0 rfl (lv_at hl 0 rfl) ?_
  refine lv_iload_n hx hb dX2_refer_1 rfl (lv_at hl 1 rfl) ?_
  refine xk_roV (As := [.int x]) (rest := []) ⟨hx, hb, hml, hown, hts⟩ (c_misObject l D cI cZ h1 am th n B tp ob co lv wrd frs bgs fbs rts wnt far st x hok hbg) (cwV 1 hts gX2_refer_X2_isObject rfl rfl rfl (by decide +kernel) ⟨Nat.le_of_ble_eq_true rfl, Nat.le_of_ble_eq_true rfl⟩) (va_recv hK hP (ci := 2) (q0 := 0) rfl rfl) hP hK rfl hl.1 rfl (Nat.le_of_ble_eq_true rfl) dX2_refer_2 ⟨Nat.zero_le _, Nat.zero_le _⟩ ?_
  refine xk_if_eqB (tgt := 31) hx hb dX2_refer_5 (by decide) (fun c5 => ?_) (fun c5 => ?_)
  · refine lv_iconst (v := nI 0) hx hb dX2_refer_31 (by decide +kernel) ?_
    exact W.zret hx hb hr rfl (fun t ht hW => ⟨⟨_, wrd, rfl, Or.inl ⟨fun o' j' c => isO_no c5 c.1.1 c.1.2.1 c.1.2.2.1 c.1.2.2.2.1 c.1.2.2.2.2, rfl, rfl⟩, by rw [ht]; exact hP, hD⟩, hS.F ht⟩) hS.2.2 dX2_refer_32
  · obtain ⟨o, ho, eo, o1, o2, o3⟩ := isO_t c5
    have hh := hok.hdr o1 o2 o3
    have hs := hok.hsm o1 o2 o3
    have hf := hok.fit o1 o2 o3
    unfold siz at hf
    refine lv_aload_n hx hb dX2_refer_8 rfl (lv_at hl 0 rfl) ?_
    refine lv_iload_n hx hb dX2_refer_9 rfl (lv_at hl 3 rfl) ?_
    refine xk_roV (As := [.int v]) (rest := []) ⟨hx, hb, hml, hown, hts⟩ (c_misLead l D cI cZ h1 am th n B tp ob co lv wrd frs bgs fbs rts wnt far st v hok hbg) (cwV 1 hts gX2_refer_X2_isLead rfl rfl rfl (by decide +kernel) ⟨Nat.le_of_ble_eq_true rfl, Nat.le_of_ble_eq_true rfl⟩) (va_recv hK hP (ci := 2) (q0 := 0) rfl rfl) hP hK rfl hl.1 rfl (Nat.le_of_ble_eq_true rfl) dX2_refer_10 ⟨Nat.zero_le _, Nat.zero_le _⟩ ?_
    refine xk_if_eqB (tgt := 31) hx hb dX2_refer_13 (by decide) (fun c13 => ?_) (fun c13 => ?_)
    · refine lv_iconst (v := nI 0) hx hb dX2_refer_31 (by decide +kernel) ?_
      exact W.zret hx hb hr rfl (fun t ht hW => ⟨⟨_, wrd, rfl, Or.inl ⟨fun o' j' c => absurd c.2.2 (by rw [c13]; decide), rfl, rfl⟩, by rw [ht]; exact hP, hD⟩, hS.F ht⟩) hS.2.2 dX2_refer_32
    · refine lv_iload_n hx hb dX2_refer_16 rfl (lv_at hl 2 rfl) ?_
      refine lv_iconst (v := nI 0) hx hb dX2_refer_17 (by decide +kernel) ?_
      refine lv_aload_n hx hb dX2_refer_18 rfl (lv_at hl 0 rfl) ?_
      refine lv_iload_n hx hb dX2_refer_19 rfl (lv_at hl 1 rfl) ?_
      refine xk_top eo ?_
      refine xk_roV (As := [.int (nI o)]) (rest := [.int (nI 0), .int k]) ⟨hx, hb, hml, hown, hts⟩ (c_mreferences l D cI cZ h1 am th n B tp ob co lv wrd frs bgs fbs rts wnt far o (by omega) hh (by omega)) (cwV 1 hts gX2_refer_X2_references rfl rfl rfl (by decide +kernel) ⟨Nat.le_of_ble_eq_true rfl, Nat.le_of_ble_eq_true rfl⟩) (va_recv hK hP (ci := 2) (q0 := 0) rfl rfl) hP hK rfl hl.1 rfl (Nat.le_of_ble_eq_true rfl) dX2_refer_20 ⟨Nat.zero_le _, Nat.zero_le _⟩ ?_
      refine lv_iconst (v := nI 1) hx hb dX2_refer_23 (by decide +kernel) ?_
      refine lv_isub hx hb dX2_refer_24 ?_
      refine xk_top rfl ?_
      refine xk_roS (As := [.int k, .int (nI 0), .int (nI (tn (wrd o) / 16 % 16) - nI 1)]) (rest := []) ⟨hx, hb, hml, hown, hts⟩ (c_isIn l k 0 (tn (wrd o) / 16 % 16) (nI (tn (wrd o) / 16 % 16) - nI 1) (by omega) (by omega) (hi_s (by omega))) (va_cwS 3 hts gX2_refer_X2_isIn rfl rfl rfl (by decide +kernel) ⟨Nat.le_of_ble_eq_true rfl, Nat.le_of_ble_eq_true rfl⟩) rfl hl.1 rfl (Nat.le_of_ble_eq_true rfl) dX2_refer_25 ⟨Nat.zero_le _, Nat.zero_le _⟩ ?_
      refine xk_if_neB (tgt := 33) hx hb dX2_refer_28 (by decide) (fun c28 => ?_) (fun c28 => ?_)
      · rw [inL_0] at c28
        obtain ⟨j, hj, ej, hj1⟩ := inR_t c28
        refine lv_aload_n hx hb dX2_refer_33 rfl (lv_at hl 0 rfl) ?_
        refine va_get (D := D) (ci := 2) (v := .ref (am 1)) (C := RX2) (T := TX2) (N := 14) hx hb hts in_X2_refer_X2 hown hK hP 0 rfl rfl 7 (by decide) (hts (.fieldLink RX2 13 "OffsetHeapModel" "words" "[I") (by decide +kernel)) (fun _ h9 => h9) rfl dX2_refer_34 ?_
        refine lv_iload_n hx hb dX2_refer_37 rfl (lv_at hl 1 rfl) ?_
        refine xk_top eo ?_
        refine lv_iconst (v := nI 1) hx hb dX2_refer_38 (by decide +kernel) ?_
        refine lv_iadd hx hb dX2_refer_39 ?_
        refine xk_top (nI_add _ _) ?_
        refine lv_iload_n hx hb dX2_refer_40 rfl (lv_at hl 2 rfl) ?_
        refine xk_top ej ?_
        refine lv_iadd hx hb dX2_refer_41 ?_
        refine xk_top (nI_add _ _) ?_
        refine lv_iload_n hx hb dX2_refer_42 rfl (lv_at hl 3 rfl) ?_
        refine xk_iast hx hb hK hP hD hS 1 0 rfl rfl (by omega) (by omega) dX2_refer_43 (fun H locs hP hD hS => ?_)
        have hP : va_P D vwCl (mW cI cZ h1 am th n B tp ob co lv (upd wrd ((o + 1) + j) v) frs bgs fbs rts wnt far) H := hP
        have hD : va_D A (mW cI cZ h1 am th n B tp ob co lv (upd wrd ((o + 1) + j) v) frs bgs fbs rts wnt far) := hD
        refine lv_iconst (v := nI 1) hx hb dX2_refer_44 (by decide +kernel) ?_
        exact W.zret hx hb hr rfl (fun t ht hW => ⟨⟨_, _, rfl, Or.inr ⟨o, j, ⟨⟨ho, eo, o1, o2, o3⟩, ⟨hj, ej, by unfold rfs; omega⟩, c13⟩, rfl, rfl⟩, by rw [ht]; exact hP, hD⟩, hS.F ht⟩) hS.2.2 dX2_refer_45
      · refine lv_iconst (v := nI 0) hx hb dX2_refer_31 (by decide +kernel) ?_
        exact W.zret hx hb hr rfl (fun t ht hW => ⟨⟨_, wrd, rfl, Or.inl ⟨fun o' j' c => by have e1 := nI_inj c.1.1 ho (c.1.2.1.symm.trans eo); have e3 := c.2.1.2.2; rw [inL_0, c.2.1.2.1, inR_nat c.2.1.1] at c28; rw [e1] at e3; unfold rfs at e3; simp at c28; omega, rfl, rfl⟩, by rw [ht]; exact hP, hD⟩, hS.F ht⟩) hS.2.2 dX2_refer_32
set_option maxHeartbeats 4000000 in
set_option maxRecDepth 100000 in
/-- set -/
theorem c_mset (l : Launch) (D : va_G) (cI cZ : ClassId) (h1 : Nat) (am : Nat → Nat) (th n B tp ob co lv : Nat) (wrd frs bgs fbs rts wnt far : Nat → Int32) (sz : Nat) (st : Nat → Bool) (x k v : Int32) (hok : okS n tp wrd st rts) (hbg : ∀ a, a ≤ n → bgs a = bI (st a)) : Met l yX2_set wsX2_set ({ frames := 3, cells := 0, slots := 0, locals := 90 }) (va_Pc [.ref h1, .int x, .int k, .int v] (fun U => U.heap.size = sz ∧ va_P D vwCl (mW cI cZ h1 am th n B tp ob co lv wrd frs bgs fbs rts wnt far) U.heap ∧ va_K D vwCl [(cI, .int), (cZ, .boolean)] U ∧ va_D (fun _ => True) (mW cI cZ h1 am th n B tp ob co lv wrd frs bgs fbs rts wnt far))) (va_Qi (fun (r9 : Int32) (u : Nat → Int32) => ((∀ o j, ¬ cSet tp wrd st x k o j) ∧ r9 = nI 0 ∧ u = wrd) ∨ ∃ o j, cSet tp wrd st x k o j ∧ r9 = nI 1 ∧ u = upd wrd (o + 1 + rfs wrd o + j) v) (fun (u : Nat → Int32) t => va_P D vwCl (mW cI cZ h1 am th n B tp ob co lv u frs bgs fbs rts wnt far) t.heap ∧ va_D (va_A (mW cI cZ h1 am th n B tp ob co lv wrd frs bgs fbs rts wnt far) sz) (mW cI cZ h1 am th n B tp ob co lv u frs bgs fbs rts wnt far)) (va_A (mW cI cZ h1 am th n B tp ob co lv wrd frs bgs fbs rts wnt far) sz)) 0 0 (va_A (mW cI cZ h1 am th n B tp ob co lv wrd frs bgs fbs rts wnt far) sz) := by
  refine Met.ofW (cc := cX2_set) (maxL := 4) (ret := (some .boolean)) (by decide) rfl ?_
  intro p e s m args below meth c s₁ B9 hml hv
  obtain ⟨rfl, hsz, hP, hK, hD0⟩ := hv
  have hx := B9.exec
  have hb := B9.bytes
  have hr := B9.returns
  have hts := atoms_spec (ws := wsX2_set) B9.pre
  have hown : s.vm.findClass RX2 = some m.cls := findClass_of_methodNamed B9.named
  have hlocks := B9.notSynchronized
  subst hsz
  have hD := hD0.self (sz := s.heap.size)
  generalize hAe : va_A (mW cI cZ h1 am th n B tp ob co lv wrd frs bgs fbs rts wnt far) s.heap.size = A at hD ⊢
  have hA : ∀ q : Nat, s.heap.size ≤ q → A q := fun q h => by rw [← hAe]; exact Or.inr h
  have hS : va_S A s.heap s.heap [] := va_S.rf
  have hl := lv_entry ([.ref h1, .int x, .int k, .int v]) (n := 4) (Nat.le_of_ble_eq_true rfl)
  rw [lg_entry_eq]
  generalize (lg_sl ([.ref h1, .int x, .int k, .int v]) ++ List.replicate (4 - (lg_sl ([.ref h1, .int x, .int k, .int v])).length) Slot.unset).toArray = ls at hl ⊢
  have hl : lv_has ls 4 [(0, .ref h1), (1, .int x), (2, .int k), (3, .int v)] := hl
  have htp := hok.1.2.1
  have hn := hok.1.2.2
  refine lv_aload_n hx hb dX2_set_0 rfl (lv_at hl 0 rfl) ?_
  refine lv_iload_n hx hb dX2_set_1 rfl (lv_at hl 1 rfl) ?_
  refine xk_roV (As := [.int x]) (rest := []) ⟨hx, hb, hml, hown, hts⟩ (c_misObject l D cI cZ h1 am th n B tp ob co lv wrd frs bgs fbs rts wnt far st x hok hbg) (cwV 1 hts gX2_set_X2_isObject rfl rfl rfl (by decide +kernel) ⟨Nat.le_of_ble_eq_true rfl, Nat.le_of_ble_eq_true rfl⟩) (va_recv hK hP (ci := 2) (q0 := 0) rfl rfl) hP hK rfl hl.1 rfl (Nat.le_of_ble_eq_true rfl) dX2_set_2 ⟨Nat.zero_le _, Nat.zero_le _⟩ ?_
  refine xk_if_eqB (tgt := 23) hx hb dX2_set_5 (by decide) (fun c5 => ?_) (fun c5 => ?_)
  · refine lv_iconst (v := nI 0) hx hb dX2_set_23 (by decide +kernel) ?_
    exact W.zret hx hb hr rfl (fun t ht hW => ⟨⟨_, wrd, rfl, Or.inl ⟨fun o' j' c => isO_no c5 c.1.1 c.1.2.1 c.1.2.2.1 c.1.2.2.2.1 c.1.2.2.2.2, rfl, rfl⟩, by rw [ht]; exact hP, hD⟩, hS.F ht⟩) hS.2.2 dX2_set_24
  · obtain ⟨o, ho, eo, o1, o2, o3⟩ := isO_t c5
    have hh := hok.hdr o1 o2 o3
    have hs := hok.hsm o1 o2 o3
    have hf := hok.fit o1 o2 o3
    unfold siz at hf
    refine lv_iload_n hx hb dX2_set_8 rfl (lv_at hl 2 rfl) ?_
    refine lv_iconst (v := nI 0) hx hb dX2_set_9 (by decide +kernel) ?_
    refine lv_aload_n hx hb dX2_set_10 rfl (lv_at hl 0 rfl) ?_
    refine lv_iload_n hx hb dX2_set_11 rfl (lv_at hl 1 rfl) ?_
    refine xk_top eo ?_
    refine xk_roV (As := [.int (nI o)]) (rest := [.int (nI 0), .int k]) ⟨hx, hb, hml, hown, hts⟩ (c_mplain l D cI cZ h1 am th n B tp ob co lv wrd frs bgs fbs rts wnt far o (by omega) hh (by omega)) (cwV 1 hts gX2_set_X2_plain rfl rfl rfl (by decide +kernel) ⟨Nat.le_of_ble_eq_true rfl, Nat.le_of_ble_eq_true rfl⟩) (va_recv hK hP (ci := 2) (q0 := 0) rfl rfl) hP hK rfl hl.1 rfl (Nat.le_of_ble_eq_true rfl) dX2_set_12 ⟨Nat.zero_le _, Nat.zero_le _⟩ ?_
    refine lv_iconst (v := nI 1) hx hb dX2_set_15 (by decide +kernel) ?_
    refine lv_isub hx hb dX2_set_16 ?_
    refine xk_top rfl ?_
    refine xk_roS (As := [.int k, .int (nI 0), .int (nI (tn (wrd o) / 256) - nI 1)]) (rest := []) ⟨hx, hb, hml, hown, hts⟩ (c_isIn l k 0 (tn (wrd o) / 256) (nI (tn (wrd o) / 256) - nI 1) (by omega) (by omega) (hi_s (by omega))) (va_cwS 3 hts gX2_set_X2_isIn rfl rfl rfl (by decide +kernel) ⟨Nat.le_of_ble_eq_true rfl, Nat.le_of_ble_eq_true rfl⟩) rfl hl.1 rfl (Nat.le_of_ble_eq_true rfl) dX2_set_17 ⟨Nat.zero_le _, Nat.zero_le _⟩ ?_
    refine xk_if_neB (tgt := 25) hx hb dX2_set_20 (by decide) (fun c20 => ?_) (fun c20 => ?_)
    · rw [inL_0] at c20
      obtain ⟨j, hj, ej, hj1⟩ := inR_t c20
      refine lv_aload_n hx hb dX2_set_25 rfl (lv_at hl 0 rfl) ?_
      refine va_get (D := D) (ci := 2) (v := .ref (am 1)) (C := RX2) (T := TX2) (N := 14) hx hb hts in_X2_set_X2 hown hK hP 0 rfl rfl 7 (by decide) (hts (.fieldLink RX2 13 "OffsetHeapModel" "words" "[I") (by decide +kernel)) (fun _ h9 => h9) rfl dX2_set_26 ?_
      refine lv_iload_n hx hb dX2_set_29 rfl (lv_at hl 1 rfl) ?_
      refine xk_top eo ?_
      refine lv_iconst (v := nI 1) hx hb dX2_set_30 (by decide +kernel) ?_
      refine lv_iadd hx hb dX2_set_31 ?_
      refine xk_top (nI_add _ _) ?_
      refine lv_aload_n hx hb dX2_set_32 rfl (lv_at hl 0 rfl) ?_
      refine lv_iload_n hx hb dX2_set_33 rfl (lv_at hl 1 rfl) ?_
      refine xk_top eo ?_
      refine xk_roV (As := [.int (nI o)]) (rest := [.int (nI (o + 1)), .ref (am 1)]) ⟨hx, hb, hml, hown, hts⟩ (c_mreferences l D cI cZ h1 am th n B tp ob co lv wrd frs bgs fbs rts wnt far o (by omega) hh (by omega)) (cwV 1 hts gX2_set_X2_references rfl rfl rfl (by decide +kernel) ⟨Nat.le_of_ble_eq_true rfl, Nat.le_of_ble_eq_true rfl⟩) (va_recv hK hP (ci := 2) (q0 := 0) rfl rfl) hP hK rfl hl.1 rfl (Nat.le_of_ble_eq_true rfl) dX2_set_34 ⟨Nat.zero_le _, Nat.zero_le _⟩ ?_
      refine lv_iadd hx hb dX2_set_37 ?_
      refine xk_top (nI_add _ _) ?_
      refine lv_iload_n hx hb dX2_set_38 rfl (lv_at hl 2 rfl) ?_
      refine xk_top ej ?_
      refine lv_iadd hx hb dX2_set_39 ?_
      refine xk_top (nI_add _ _) ?_
      refine lv_iload_n hx hb dX2_set_40 rfl (lv_at hl 3 rfl) ?_
      refine xk_iast hx hb hK hP hD hS 1 0 rfl rfl (by omega) (by omega) dX2_set_41 (fun H locs hP hD hS => ?_)
      have hP : va_P D vwCl (mW cI cZ h1 am th n B tp ob co lv (upd wrd (((o + 1) + (tn (wrd o) / 16 % 16)) + j) v) frs bgs fbs rts wnt far) H := hP
      have hD : va_D A (mW cI cZ h1 am th n B tp ob co lv (upd wrd (((o + 1) + (tn (wrd o) / 16 % 16)) + j) v) frs bgs fbs rts wnt far) := hD
      refine lv_iconst (v := nI 1) hx hb dX2_set_42 (by decide +kernel) ?_
      exact W.zret hx hb hr rfl (fun t ht hW => ⟨⟨_, _, rfl, Or.inr ⟨o, j, ⟨⟨ho, eo, o1, o2, o3⟩, ⟨hj, ej, by unfold pln; omega⟩⟩, rfl, rfl⟩, by rw [ht]; exact hP, hD⟩, hS.F ht⟩) hS.2.2 dX2_set_43
    · refine lv_iconst (v := nI 0) hx hb dX2_set_23 (by decide +kernel) ?_
      exact W.zret hx hb hr rfl (fun t ht hW => ⟨⟨_, wrd, rfl, Or.inl ⟨fun o' j' c => by have e1 := nI_inj c.1.1 ho (c.1.2.1.symm.trans eo); have e3 := c.2.2.2; rw [inL_0, c.2.2.1, inR_nat c.2.1] at c20; rw [e1] at e3; unfold pln at e3; simp at c20; omega, rfl, rfl⟩, by rw [ht]; exact hP, hD⟩, hS.F ht⟩) hS.2.2 dX2_set_24
set_option maxHeartbeats 4000000 in
set_option maxRecDepth 100000 in
/-- root -/
theorem c_mroot (l : Launch) (D : va_G) (cI cZ : ClassId) (h1 : Nat) (am : Nat → Nat) (th n B tp ob co lv : Nat) (wrd frs bgs fbs rts wnt far : Nat → Int32) (sz : Nat) (st : Nat → Bool) (k v : Int32) (hok : okS n tp wrd st rts) (hbg : ∀ a, a ≤ n → bgs a = bI (st a)) : Met l yX2_root wsX2_root ({ frames := 3, cells := 0, slots := 0, locals := 90 }) (va_Pc [.ref h1, .int k, .int v] (fun U => U.heap.size = sz ∧ va_P D vwCl (mW cI cZ h1 am th n B tp ob co lv wrd frs bgs fbs rts wnt far) U.heap ∧ va_K D vwCl [(cI, .int), (cZ, .boolean)] U ∧ va_D (fun _ => True) (mW cI cZ h1 am th n B tp ob co lv wrd frs bgs fbs rts wnt far))) (va_Qi (fun (r9 : Int32) (u : Nat → Int32) => ((inR 8 k = false ∨ isL tp st v = false) ∧ r9 = nI 0 ∧ u = rts) ∨ ∃ j, j < 8 ∧ k = nI j ∧ isL tp st v = true ∧ r9 = nI 1 ∧ u = upd rts j v) (fun (u : Nat → Int32) t => va_P D vwCl (mW cI cZ h1 am th n B tp ob co lv wrd frs bgs fbs u wnt far) t.heap ∧ va_D (va_A (mW cI cZ h1 am th n B tp ob co lv wrd frs bgs fbs rts wnt far) sz) (mW cI cZ h1 am th n B tp ob co lv wrd frs bgs fbs u wnt far)) (va_A (mW cI cZ h1 am th n B tp ob co lv wrd frs bgs fbs rts wnt far) sz)) 0 0 (va_A (mW cI cZ h1 am th n B tp ob co lv wrd frs bgs fbs rts wnt far) sz) := by
  refine Met.ofW (cc := cX2_root) (maxL := 3) (ret := (some .boolean)) (by decide) rfl ?_
  intro p e s m args below meth c s₁ B9 hml hv
  obtain ⟨rfl, hsz, hP, hK, hD0⟩ := hv
  have hx := B9.exec
  have hb := B9.bytes
  have hr := B9.returns
  have hts := atoms_spec (ws := wsX2_root) B9.pre
  have hown : s.vm.findClass RX2 = some m.cls := findClass_of_methodNamed B9.named
  have hlocks := B9.notSynchronized
  subst hsz
  have hD := hD0.self (sz := s.heap.size)
  generalize hAe : va_A (mW cI cZ h1 am th n B tp ob co lv wrd frs bgs fbs rts wnt far) s.heap.size = A at hD ⊢
  have hA : ∀ q : Nat, s.heap.size ≤ q → A q := fun q h => by rw [← hAe]; exact Or.inr h
  have hS : va_S A s.heap s.heap [] := va_S.rf
  have hl := lv_entry ([.ref h1, .int k, .int v]) (n := 3) (Nat.le_of_ble_eq_true rfl)
  rw [lg_entry_eq]
  generalize (lg_sl ([.ref h1, .int k, .int v]) ++ List.replicate (3 - (lg_sl ([.ref h1, .int k, .int v])).length) Slot.unset).toArray = ls at hl ⊢
  have hl : lv_has ls 3 [(0, .ref h1), (1, .int k), (2, .int v)] := hl
  refine lv_iload_n hx hb dX2_root_0 rfl (lv_at hl 1 rfl) ?_
  refine lv_iconst (v := nI 0) hx hb dX2_root_1 (by decide +kernel) ?_
  refine lv_bipush (v := nI 7) hx hb dX2_root_2 (by decide +kernel) ?_
  refine xk_roS (As := [.int k, .int (nI 0), .int (nI 7)]) (rest := []) ⟨hx, hb, hml, hown, hts⟩ (c_isIn l k 0 (8) (nI 7) (by omega) (by omega) (by decide)) (va_cwS 3 hts gX2_root_X2_isIn rfl rfl rfl (by decide +kernel) ⟨Nat.le_of_ble_eq_true rfl, Nat.le_of_ble_eq_true rfl⟩) rfl hl.1 rfl (Nat.le_of_ble_eq_true rfl) dX2_root_4 ⟨Nat.zero_le _, Nat.zero_le _⟩ ?_
  refine xk_if_eqB (tgt := 18) hx hb dX2_root_7 (by decide) (fun c7 => ?_) (fun c7 => ?_)
  · refine lv_iconst (v := nI 0) hx hb dX2_root_18 (by decide +kernel) ?_
    exact W.zret hx hb hr rfl (fun t ht hW => ⟨⟨_, rts, rfl, Or.inl ⟨Or.inl (by rw [inL_0] at c7; exact c7), rfl, rfl⟩, by rw [ht]; exact hP, hD⟩, hS.F ht⟩) hS.2.2 dX2_root_19
  · refine lv_aload_n hx hb dX2_root_10 rfl (lv_at hl 0 rfl) ?_
    refine lv_iload_n hx hb dX2_root_11 rfl (lv_at hl 2 rfl) ?_
    refine xk_roV (As := [.int v]) (rest := []) ⟨hx, hb, hml, hown, hts⟩ (c_misLead l D cI cZ h1 am th n B tp ob co lv wrd frs bgs fbs rts wnt far st v hok hbg) (cwV 1 hts gX2_root_X2_isLead rfl rfl rfl (by decide +kernel) ⟨Nat.le_of_ble_eq_true rfl, Nat.le_of_ble_eq_true rfl⟩) (va_recv hK hP (ci := 2) (q0 := 0) rfl rfl) hP hK rfl hl.1 rfl (Nat.le_of_ble_eq_true rfl) dX2_root_12 ⟨Nat.zero_le _, Nat.zero_le _⟩ ?_
    refine xk_if_neB (tgt := 20) hx hb dX2_root_15 (by decide) (fun c15 => ?_) (fun c15 => ?_)
    · rw [inL_0] at c7
      obtain ⟨j, hj0, ej, hj⟩ := inR_t c7
      refine lv_aload_n hx hb dX2_root_20 rfl (lv_at hl 0 rfl) ?_
      refine va_get (D := D) (ci := 2) (v := .ref (am 5)) (C := RX2) (T := TX2) (N := 14) hx hb hts in_X2_root_X2 hown hK hP 0 rfl rfl 11 (by decide) (hts (.fieldLink RX2 27 "OffsetHeapModel" "roots" "[I") (by decide +kernel)) (fun _ h9 => h9) rfl dX2_root_21 ?_
      refine lv_iload_n hx hb dX2_root_24 rfl (lv_at hl 1 rfl) ?_
      refine xk_top ej ?_
      refine lv_iload_n hx hb dX2_root_25 rfl (lv_at hl 2 rfl) ?_
      refine xk_iast hx hb hK hP hD hS 5 0 rfl rfl (by omega) (by omega) dX2_root_26 (fun H locs hP hD hS => ?_)
      have hP : va_P D vwCl (mW cI cZ h1 am th n B tp ob co lv wrd frs bgs fbs (upd rts j v) wnt far) H := hP
      have hD : va_D A (mW cI cZ h1 am th n B tp ob co lv wrd frs bgs fbs (upd rts j v) wnt far) := hD
      refine lv_iconst (v := nI 1) hx hb dX2_root_27 (by decide +kernel) ?_
      exact W.zret hx hb hr rfl (fun t ht hW => ⟨⟨_, _, rfl, Or.inr ⟨j, hj, ej, c15, rfl, rfl⟩, by rw [ht]; exact hP, hD⟩, hS.F ht⟩) hS.2.2 dX2_root_28
    · refine lv_iconst (v := nI 0) hx hb dX2_root_18 (by decide +kernel) ?_
      exact W.zret hx hb hr rfl (fun t ht hW => ⟨⟨_, rts, rfl, Or.inl ⟨Or.inr c15, rfl, rfl⟩, by rw [ht]; exact hP, hD⟩, hS.F ht⟩) hS.2.2 dX2_root_19
set_option maxHeartbeats 4000000 in
set_option maxRecDepth 100000 in
/-- OffsetHeapModel(words, block) -/
theorem c_Model (l : Launch) (D : va_G) (cI cZ : ClassId) (h1 sz : Nat) (x y : Int32) (n B : Nat) (hnx : n = clp x) (hBy : B = blk y) : Met l yX2_init wsX2_init ({ frames := 1, cells := 7, slots := 24016, locals := 30 }) (va_Pc [.ref h1, .int x, .int y] (fun U => U.heap.size = sz ∧ va_P D vwCl [(h1, .inr (2, [.int 0, .int 0, .int 0, .int 0, .int 0, .int 0, .int 0, .null, .null, .null, .null, .null, .null, .null]))] U.heap ∧ va_K D vwCl [(cI, .int), (cZ, .boolean)] U ∧ va_D (fun _ => True) [(h1, .inr (2, [.int 0, .int 0, .int 0, .int 0, .int 0, .int 0, .int 0, .null, .null, .null, .null, .null, .null, .null]))])) (va_Qv (fun _ : Nat → Nat => True) (fun u t => va_P D vwCl (mW cI cZ h1 u 0 n B 1 0 0 0 (fun _ => 0) (fun _ => 0) (fun _ => 0) (fun _ => 0) (fun _ => 0) (fun _ => 0) (fun _ => 0)) t.heap ∧ va_D (va_A [(h1, .inr (2, [.int 0, .int 0, .int 0, .int 0, .int 0, .int 0, .int 0, .null, .null, .null, .null, .null, .null, .null]))] sz) (mW cI cZ h1 u 0 n B 1 0 0 0 (fun _ => 0) (fun _ => 0) (fun _ => 0) (fun _ => 0) (fun _ => 0) (fun _ => 0) (fun _ => 0))) (va_A [(h1, .inr (2, [.int 0, .int 0, .int 0, .int 0, .int 0, .int 0, .int 0, .null, .null, .null, .null, .null, .null, .null]))] sz)) 7 24016 (va_A [(h1, .inr (2, [.int 0, .int 0, .int 0, .int 0, .int 0, .int 0, .int 0, .null, .null, .null, .null, .null, .null, .null]))] sz) := by
  refine Met.ofW (cc := cX2_init) (maxL := 3) (ret := none) (by decide) rfl ?_
  intro p e s m args below meth c s₁ B9 hml hv
  obtain ⟨rfl, hsz, hP, hK, hD0⟩ := hv
  have hx := B9.exec
  have hb := B9.bytes
  have hr := B9.returns
  have hts := atoms_spec (ws := wsX2_init) B9.pre
  have hown : s.vm.findClass RX2 = some m.cls := findClass_of_methodNamed B9.named
  have hlocks := B9.notSynchronized
  subst hsz
  have hD := hD0.self (sz := s.heap.size)
  generalize hAe : va_A [(h1, .inr (2, [.int 0, .int 0, .int 0, .int 0, .int 0, .int 0, .int 0, .null, .null, .null, .null, .null, .null, .null]))] s.heap.size = A at hD ⊢
  have hA : ∀ q : Nat, s.heap.size ≤ q → A q := fun q h => by rw [← hAe]; exact Or.inr h
  have hS : va_S A s.heap s.heap [] := va_S.rf
  have hl := lv_entry ([.ref h1, .int x, .int y]) (n := 3) (Nat.le_of_ble_eq_true rfl)
  rw [lg_entry_eq]
  generalize (lg_sl ([.ref h1, .int x, .int y]) ++ List.replicate (3 - (lg_sl ([.ref h1, .int x, .int y])).length) Slot.unset).toArray = ls at hl ⊢
  have hl : lv_has ls 3 [(0, .ref h1), (1, .int x), (2, .int y)] := hl
  have hin : meth.name = "<init>" := (name_of_methodNamed B9.named B9.method).1
  refine lv_aload_n hx hb dX2_init_0 rfl (lv_at hl 0 rfl) ?_
  refine W.objInit hx hb hown (hts (.methodLink RX2 1 objectInit) (by decide +kernel)) (hts (.instanceMethod objectInit) (by decide +kernel)) (hts (.code objectInit ⟨#[0xb1]⟩ 1 none) (by decide +kernel)) rfl (by rw [hml]; exact hl.1) rfl dX2_init_1 (Nat.le_of_ble_eq_true rfl) (Nat.le_of_ble_eq_true rfl) ?_
  refine W.eq (g2 := F0 m 4 ls []) rfl ?_
  refine lv_aload_n hx hb dX2_init_4 rfl (lv_at hl 0 rfl) ?_
  refine lv_iconst (v := nI 1) hx hb dX2_init_5 (by decide +kernel) ?_
  refine va_put (D := D) (ci := 2) (v := .int (nI 1)) (ty := .int) (C := RX2) (T := TX2) (N := 14) hx hb hts in_X2_init_X2 tyX2 tyX2_ok nmX2 hown hK hP hD hS 0 rfl rfl 3 (by decide) (hts (.fieldLink RX2 7 "OffsetHeapModel" "top" "I") (by decide +kernel)) (fun _ h9 => h9) rfl (by decide +kernel) rfl rfl (Nat.le_of_ble_eq_true rfl) dX2_init_6 (fun H locs hP hD hS => ?_)
  have hP : va_P D vwCl [(h1, .inr (2, [.int 0, .int 0, .int 0, .int (nI 1), .int 0, .int 0, .int 0, .null, .null, .null, .null, .null, .null, .null]))] H := hP
  have hD : va_D A [(h1, .inr (2, [.int 0, .int 0, .int 0, .int (nI 1), .int 0, .int 0, .int 0, .null, .null, .null, .null, .null, .null, .null]))] := hD
  refine lv_aload_n hx hb dX2_init_9 rfl (lv_at hl 0 rfl) ?_
  refine lv_sipush (v := nI 4001) hx hb dX2_init_10 (by decide +kernel) ?_
  refine va_newa (atype := .int) (ty := .int) (N' := 4001) (a0 := (4001, .inl (fun _ => 0))) hx hb (hts (.arrayClass .int) (by decide +kernel)) rfl hK hP hD hS hA (fun _ => rfl) (nI_pos (by omega)) (nI_clamp (by omega)) (by show 4001 * 4 ≤ 536870912; omega) (Nat.le_of_ble_eq_true rfl) (by show 0 + 4001 ≤ 24016; omega) dX2_init_13 (fun q1 cA9 H hK9 hP hD hS => ?_)
  have eC : cA9 = cI := Option.some.inj ((hK9.2 2 _ rfl).2.symm.trans (hK9.2 0 _ rfl).2)
  rw [eC] at hP hD
  refine W.widen (k := 1) (n := 4001) (by omega) (by omega) ?_
  have hP : va_P D vwCl [(h1, .inr (2, [.int 0, .int 0, .int 0, .int (nI 1), .int 0, .int 0, .int 0, .null, .null, .null, .null, .null, .null, .null])), (q1, .inl (cI, 4001, .inl (fun _ => 0)))] H := hP
  have hD : va_D A [(h1, .inr (2, [.int 0, .int 0, .int 0, .int (nI 1), .int 0, .int 0, .int 0, .null, .null, .null, .null, .null, .null, .null])), (q1, .inl (cI, 4001, .inl (fun _ => 0)))] := hD
  refine va_putF (D := D) (ci := 2) (v := .ref q1) (ty := .array .int) (C := RX2) (T := TX2) (N := 14) hx hb hts in_X2_init_X2 tyX2 tyX2_ok nmX2 hown hK hP hD hS 0 rfl rfl 7 (by decide) (hts (.fieldLink RX2 13 "OffsetHeapModel" "words" "[I") (by decide +kernel)) (fun _ h9 => h9) rfl hin rfl (by decide +kernel) rfl rfl (Nat.le_of_ble_eq_true rfl) dX2_init_15 (fun H locs hP hD hS => ?_)
  have hP : va_P D vwCl [(h1, .inr (2, [.int 0, .int 0, .int 0, .int (nI 1), .int 0, .int 0, .int 0, .ref q1, .null, .null, .null, .null, .null, .null])), (q1, .inl (cI, 4001, .inl (fun _ => 0)))] H := hP
  have hD : va_D A [(h1, .inr (2, [.int 0, .int 0, .int 0, .int (nI 1), .int 0, .int 0, .int 0, .ref q1, .null, .null, .null, .null, .null, .null])), (q1, .inl (cI, 4001, .inl (fun _ => 0)))] := hD
  refine lv_aload_n hx hb dX2_init_18 rfl (lv_at hl 0 rfl) ?_
  refine lv_sipush (v := nI 4001) hx hb dX2_init_19 (by decide +kernel) ?_
  refine va_newa (atype := .int) (ty := .int) (N' := 4001) (a0 := (4001, .inl (fun _ => 0))) hx hb (hts (.arrayClass .int) (by decide +kernel)) rfl hK hP hD hS hA (fun _ => rfl) (nI_pos (by omega)) (nI_clamp (by omega)) (by show 4001 * 4 ≤ 536870912; omega) (Nat.le_of_ble_eq_true rfl) (by show 4001 + 4001 ≤ 24016; omega) dX2_init_22 (fun q2 cA9 H hK9 hP hD hS => ?_)
  have eC : cA9 = cI := Option.some.inj ((hK9.2 2 _ rfl).2.symm.trans (hK9.2 0 _ rfl).2)
  rw [eC] at hP hD
  refine W.widen (k := 2) (n := 8002) (by omega) (by omega) ?_
  have hP : va_P D vwCl [(h1, .inr (2, [.int 0, .int 0, .int 0, .int (nI 1), .int 0, .int 0, .int 0, .ref q1, .null, .null, .null, .null, .null, .null])), (q1, .inl (cI, 4001, .inl (fun _ => 0))), (q2, .inl (cI, 4001, .inl (fun _ => 0)))] H := hP
  have hD : va_D A [(h1, .inr (2, [.int 0, .int 0, .int 0, .int (nI 1), .int 0, .int 0, .int 0, .ref q1, .null, .null, .null, .null, .null, .null])), (q1, .inl (cI, 4001, .inl (fun _ => 0))), (q2, .inl (cI, 4001, .inl (fun _ => 0)))] := hD
  refine va_putF (D := D) (ci := 2) (v := .ref q2) (ty := .array .int) (C := RX2) (T := TX2) (N := 14) hx hb hts in_X2_init_X2 tyX2 tyX2_ok nmX2 hown hK hP hD hS 0 rfl rfl 8 (by decide) (hts (.fieldLink RX2 17 "OffsetHeapModel" "fresh" "[I") (by decide +kernel)) (fun _ h9 => h9) rfl hin rfl (by decide +kernel) rfl rfl (Nat.le_of_ble_eq_true rfl) dX2_init_24 (fun H locs hP hD hS => ?_)
  have hP : va_P D vwCl [(h1, .inr (2, [.int 0, .int 0, .int 0, .int (nI 1), .int 0, .int 0, .int 0, .ref q1, .ref q2, .null, .null, .null, .null, .null])), (q1, .inl (cI, 4001, .inl (fun _ => 0))), (q2, .inl (cI, 4001, .inl (fun _ => 0)))] H := hP
  have hD : va_D A [(h1, .inr (2, [.int 0, .int 0, .int 0, .int (nI 1), .int 0, .int 0, .int 0, .ref q1, .ref q2, .null, .null, .null, .null, .null])), (q1, .inl (cI, 4001, .inl (fun _ => 0))), (q2, .inl (cI, 4001, .inl (fun _ => 0)))] := hD
  refine lv_aload_n hx hb dX2_init_27 rfl (lv_at hl 0 rfl) ?_
  refine lv_sipush (v := nI 4002) hx hb dX2_init_28 (by decide +kernel) ?_
  refine va_newa (atype := .boolean) (ty := .boolean) (N' := 4002) (a0 := (4002, .inl (fun _ => 0))) hx hb (hts (.arrayClass .boolean) (by decide +kernel)) rfl hK hP hD hS hA (fun _ => rfl) (nI_pos (by omega)) (nI_clamp (by omega)) (by show 4002 * 1 ≤ 536870912; omega) (Nat.le_of_ble_eq_true rfl) (by show 8002 + 4002 ≤ 24016; omega) dX2_init_31 (fun q3 cA9 H hK9 hP hD hS => ?_)
  have eC : cA9 = cZ := Option.some.inj ((hK9.2 2 _ rfl).2.symm.trans (hK9.2 1 _ rfl).2)
  rw [eC] at hP hD
  refine W.widen (k := 3) (n := 12004) (by omega) (by omega) ?_
  have hP : va_P D vwCl [(h1, .inr (2, [.int 0, .int 0, .int 0, .int (nI 1), .int 0, .int 0, .int 0, .ref q1, .ref q2, .null, .null, .null, .null, .null])), (q1, .inl (cI, 4001, .inl (fun _ => 0))), (q2, .inl (cI, 4001, .inl (fun _ => 0))), (q3, .inl (cZ, 4002, .inl (fun _ => 0)))] H := hP
  have hD : va_D A [(h1, .inr (2, [.int 0, .int 0, .int 0, .int (nI 1), .int 0, .int 0, .int 0, .ref q1, .ref q2, .null, .null, .null, .null, .null])), (q1, .inl (cI, 4001, .inl (fun _ => 0))), (q2, .inl (cI, 4001, .inl (fun _ => 0))), (q3, .inl (cZ, 4002, .inl (fun _ => 0)))] := hD
  refine va_putF (D := D) (ci := 2) (v := .ref q3) (ty := .array .boolean) (C := RX2) (T := TX2) (N := 14) hx hb hts in_X2_init_X2 tyX2 tyX2_ok nmX2 hown hK hP hD hS 0 rfl rfl 9 (by decide) (hts (.fieldLink RX2 20 "OffsetHeapModel" "begins" "[Z") (by decide +kernel)) (fun _ h9 => h9) rfl hin rfl (by decide +kernel) rfl rfl (Nat.le_of_ble_eq_true rfl) dX2_init_33 (fun H locs hP hD hS => ?_)
  have hP : va_P D vwCl [(h1, .inr (2, [.int 0, .int 0, .int 0, .int (nI 1), .int 0, .int 0, .int 0, .ref q1, .ref q2, .ref q3, .null, .null, .null, .null])), (q1, .inl (cI, 4001, .inl (fun _ => 0))), (q2, .inl (cI, 4001, .inl (fun _ => 0))), (q3, .inl (cZ, 4002, .inl (fun _ => 0)))] H := hP
  have hD : va_D A [(h1, .inr (2, [.int 0, .int 0, .int 0, .int (nI 1), .int 0, .int 0, .int 0, .ref q1, .ref q2, .ref q3, .null, .null, .null, .null])), (q1, .inl (cI, 4001, .inl (fun _ => 0))), (q2, .inl (cI, 4001, .inl (fun _ => 0))), (q3, .inl (cZ, 4002, .inl (fun _ => 0)))] := hD
  refine lv_aload_n hx hb dX2_init_36 rfl (lv_at hl 0 rfl) ?_
  refine lv_sipush (v := nI 4002) hx hb dX2_init_37 (by decide +kernel) ?_
  refine va_newa (atype := .boolean) (ty := .boolean) (N' := 4002) (a0 := (4002, .inl (fun _ => 0))) hx hb (hts (.arrayClass .boolean) (by decide +kernel)) rfl hK hP hD hS hA (fun _ => rfl) (nI_pos (by omega)) (nI_clamp (by omega)) (by show 4002 * 1 ≤ 536870912; omega) (Nat.le_of_ble_eq_true rfl) (by show 12004 + 4002 ≤ 24016; omega) dX2_init_40 (fun q4 cA9 H hK9 hP hD hS => ?_)
  have eC : cA9 = cZ := Option.some.inj ((hK9.2 2 _ rfl).2.symm.trans (hK9.2 1 _ rfl).2)
  rw [eC] at hP hD
  refine W.widen (k := 4) (n := 16006) (by omega) (by omega) ?_
  have hP : va_P D vwCl [(h1, .inr (2, [.int 0, .int 0, .int 0, .int (nI 1), .int 0, .int 0, .int 0, .ref q1, .ref q2, .ref q3, .null, .null, .null, .null])), (q1, .inl (cI, 4001, .inl (fun _ => 0))), (q2, .inl (cI, 4001, .inl (fun _ => 0))), (q3, .inl (cZ, 4002, .inl (fun _ => 0))), (q4, .inl (cZ, 4002, .inl (fun _ => 0)))] H := hP
  have hD : va_D A [(h1, .inr (2, [.int 0, .int 0, .int 0, .int (nI 1), .int 0, .int 0, .int 0, .ref q1, .ref q2, .ref q3, .null, .null, .null, .null])), (q1, .inl (cI, 4001, .inl (fun _ => 0))), (q2, .inl (cI, 4001, .inl (fun _ => 0))), (q3, .inl (cZ, 4002, .inl (fun _ => 0))), (q4, .inl (cZ, 4002, .inl (fun _ => 0)))] := hD
  refine va_putF (D := D) (ci := 2) (v := .ref q4) (ty := .array .boolean) (C := RX2) (T := TX2) (N := 14) hx hb hts in_X2_init_X2 tyX2 tyX2_ok nmX2 hown hK hP hD hS 0 rfl rfl 10 (by decide) (hts (.fieldLink RX2 24 "OffsetHeapModel" "freshBegins" "[Z") (by decide +kernel)) (fun _ h9 => h9) rfl hin rfl (by decide +kernel) rfl rfl (Nat.le_of_ble_eq_true rfl) dX2_init_42 (fun H locs hP hD hS => ?_)
  have hP : va_P D vwCl [(h1, .inr (2, [.int 0, .int 0, .int 0, .int (nI 1), .int 0, .int 0, .int 0, .ref q1, .ref q2, .ref q3, .ref q4, .null, .null, .null])), (q1, .inl (cI, 4001, .inl (fun _ => 0))), (q2, .inl (cI, 4001, .inl (fun _ => 0))), (q3, .inl (cZ, 4002, .inl (fun _ => 0))), (q4, .inl (cZ, 4002, .inl (fun _ => 0)))] H := hP
  have hD : va_D A [(h1, .inr (2, [.int 0, .int 0, .int 0, .int (nI 1), .int 0, .int 0, .int 0, .ref q1, .ref q2, .ref q3, .ref q4, .null, .null, .null])), (q1, .inl (cI, 4001, .inl (fun _ => 0))), (q2, .inl (cI, 4001, .inl (fun _ => 0))), (q3, .inl (cZ, 4002, .inl (fun _ => 0))), (q4, .inl (cZ, 4002, .inl (fun _ => 0)))] := hD
  refine lv_aload_n hx hb dX2_init_45 rfl (lv_at hl 0 rfl) ?_
  refine lv_bipush (v := nI 8) hx hb dX2_init_46 (by decide +kernel) ?_
  refine va_newa (atype := .int) (ty := .int) (N' := 8) (a0 := (8, .inl (fun _ => 0))) hx hb (hts (.arrayClass .int) (by decide +kernel)) rfl hK hP hD hS hA (fun _ => rfl) (nI_pos (by omega)) (nI_clamp (by omega)) (by show 8 * 4 ≤ 536870912; omega) (Nat.le_of_ble_eq_true rfl) (by show 16006 + 8 ≤ 24016; omega) dX2_init_48 (fun q5 cA9 H hK9 hP hD hS => ?_)
  have eC : cA9 = cI := Option.some.inj ((hK9.2 2 _ rfl).2.symm.trans (hK9.2 0 _ rfl).2)
  rw [eC] at hP hD
  refine W.widen (k := 5) (n := 16014) (by omega) (by omega) ?_
  have hP : va_P D vwCl [(h1, .inr (2, [.int 0, .int 0, .int 0, .int (nI 1), .int 0, .int 0, .int 0, .ref q1, .ref q2, .ref q3, .ref q4, .null, .null, .null])), (q1, .inl (cI, 4001, .inl (fun _ => 0))), (q2, .inl (cI, 4001, .inl (fun _ => 0))), (q3, .inl (cZ, 4002, .inl (fun _ => 0))), (q4, .inl (cZ, 4002, .inl (fun _ => 0))), (q5, .inl (cI, 8, .inl (fun _ => 0)))] H := hP
  have hD : va_D A [(h1, .inr (2, [.int 0, .int 0, .int 0, .int (nI 1), .int 0, .int 0, .int 0, .ref q1, .ref q2, .ref q3, .ref q4, .null, .null, .null])), (q1, .inl (cI, 4001, .inl (fun _ => 0))), (q2, .inl (cI, 4001, .inl (fun _ => 0))), (q3, .inl (cZ, 4002, .inl (fun _ => 0))), (q4, .inl (cZ, 4002, .inl (fun _ => 0))), (q5, .inl (cI, 8, .inl (fun _ => 0)))] := hD
  refine va_putF (D := D) (ci := 2) (v := .ref q5) (ty := .array .int) (C := RX2) (T := TX2) (N := 14) hx hb hts in_X2_init_X2 tyX2 tyX2_ok nmX2 hown hK hP hD hS 0 rfl rfl 11 (by decide) (hts (.fieldLink RX2 27 "OffsetHeapModel" "roots" "[I") (by decide +kernel)) (fun _ h9 => h9) rfl hin rfl (by decide +kernel) rfl rfl (Nat.le_of_ble_eq_true rfl) dX2_init_50 (fun H locs hP hD hS => ?_)
  have hP : va_P D vwCl [(h1, .inr (2, [.int 0, .int 0, .int 0, .int (nI 1), .int 0, .int 0, .int 0, .ref q1, .ref q2, .ref q3, .ref q4, .ref q5, .null, .null])), (q1, .inl (cI, 4001, .inl (fun _ => 0))), (q2, .inl (cI, 4001, .inl (fun _ => 0))), (q3, .inl (cZ, 4002, .inl (fun _ => 0))), (q4, .inl (cZ, 4002, .inl (fun _ => 0))), (q5, .inl (cI, 8, .inl (fun _ => 0)))] H := hP
  have hD : va_D A [(h1, .inr (2, [.int 0, .int 0, .int 0, .int (nI 1), .int 0, .int 0, .int 0, .ref q1, .ref q2, .ref q3, .ref q4, .ref q5, .null, .null])), (q1, .inl (cI, 4001, .inl (fun _ => 0))), (q2, .inl (cI, 4001, .inl (fun _ => 0))), (q3, .inl (cZ, 4002, .inl (fun _ => 0))), (q4, .inl (cZ, 4002, .inl (fun _ => 0))), (q5, .inl (cI, 8, .inl (fun _ => 0)))] := hD
  refine lv_aload_n hx hb dX2_init_53 rfl (lv_at hl 0 rfl) ?_
  refine lv_sipush (v := nI 4001) hx hb dX2_init_54 (by decide +kernel) ?_
  refine va_newa (atype := .int) (ty := .int) (N' := 4001) (a0 := (4001, .inl (fun _ => 0))) hx hb (hts (.arrayClass .int) (by decide +kernel)) rfl hK hP hD hS hA (fun _ => rfl) (nI_pos (by omega)) (nI_clamp (by omega)) (by show 4001 * 4 ≤ 536870912; omega) (Nat.le_of_ble_eq_true rfl) (by show 16014 + 4001 ≤ 24016; omega) dX2_init_57 (fun q6 cA9 H hK9 hP hD hS => ?_)
  have eC : cA9 = cI := Option.some.inj ((hK9.2 2 _ rfl).2.symm.trans (hK9.2 0 _ rfl).2)
  rw [eC] at hP hD
  refine W.widen (k := 6) (n := 20015) (by omega) (by omega) ?_
  have hP : va_P D vwCl [(h1, .inr (2, [.int 0, .int 0, .int 0, .int (nI 1), .int 0, .int 0, .int 0, .ref q1, .ref q2, .ref q3, .ref q4, .ref q5, .null, .null])), (q1, .inl (cI, 4001, .inl (fun _ => 0))), (q2, .inl (cI, 4001, .inl (fun _ => 0))), (q3, .inl (cZ, 4002, .inl (fun _ => 0))), (q4, .inl (cZ, 4002, .inl (fun _ => 0))), (q5, .inl (cI, 8, .inl (fun _ => 0))), (q6, .inl (cI, 4001, .inl (fun _ => 0)))] H := hP
  have hD : va_D A [(h1, .inr (2, [.int 0, .int 0, .int 0, .int (nI 1), .int 0, .int 0, .int 0, .ref q1, .ref q2, .ref q3, .ref q4, .ref q5, .null, .null])), (q1, .inl (cI, 4001, .inl (fun _ => 0))), (q2, .inl (cI, 4001, .inl (fun _ => 0))), (q3, .inl (cZ, 4002, .inl (fun _ => 0))), (q4, .inl (cZ, 4002, .inl (fun _ => 0))), (q5, .inl (cI, 8, .inl (fun _ => 0))), (q6, .inl (cI, 4001, .inl (fun _ => 0)))] := hD
  refine va_putF (D := D) (ci := 2) (v := .ref q6) (ty := .array .int) (C := RX2) (T := TX2) (N := 14) hx hb hts in_X2_init_X2 tyX2 tyX2_ok nmX2 hown hK hP hD hS 0 rfl rfl 12 (by decide) (hts (.fieldLink RX2 30 "OffsetHeapModel" "went" "[I") (by decide +kernel)) (fun _ h9 => h9) rfl hin rfl (by decide +kernel) rfl rfl (Nat.le_of_ble_eq_true rfl) dX2_init_59 (fun H locs hP hD hS => ?_)
  have hP : va_P D vwCl [(h1, .inr (2, [.int 0, .int 0, .int 0, .int (nI 1), .int 0, .int 0, .int 0, .ref q1, .ref q2, .ref q3, .ref q4, .ref q5, .ref q6, .null])), (q1, .inl (cI, 4001, .inl (fun _ => 0))), (q2, .inl (cI, 4001, .inl (fun _ => 0))), (q3, .inl (cZ, 4002, .inl (fun _ => 0))), (q4, .inl (cZ, 4002, .inl (fun _ => 0))), (q5, .inl (cI, 8, .inl (fun _ => 0))), (q6, .inl (cI, 4001, .inl (fun _ => 0)))] H := hP
  have hD : va_D A [(h1, .inr (2, [.int 0, .int 0, .int 0, .int (nI 1), .int 0, .int 0, .int 0, .ref q1, .ref q2, .ref q3, .ref q4, .ref q5, .ref q6, .null])), (q1, .inl (cI, 4001, .inl (fun _ => 0))), (q2, .inl (cI, 4001, .inl (fun _ => 0))), (q3, .inl (cZ, 4002, .inl (fun _ => 0))), (q4, .inl (cZ, 4002, .inl (fun _ => 0))), (q5, .inl (cI, 8, .inl (fun _ => 0))), (q6, .inl (cI, 4001, .inl (fun _ => 0)))] := hD
  refine lv_aload_n hx hb dX2_init_62 rfl (lv_at hl 0 rfl) ?_
  refine lv_sipush (v := nI 4001) hx hb dX2_init_63 (by decide +kernel) ?_
  refine va_newa (atype := .int) (ty := .int) (N' := 4001) (a0 := (4001, .inl (fun _ => 0))) hx hb (hts (.arrayClass .int) (by decide +kernel)) rfl hK hP hD hS hA (fun _ => rfl) (nI_pos (by omega)) (nI_clamp (by omega)) (by show 4001 * 4 ≤ 536870912; omega) (Nat.le_of_ble_eq_true rfl) (by show 20015 + 4001 ≤ 24016; omega) dX2_init_66 (fun q7 cA9 H hK9 hP hD hS => ?_)
  have eC : cA9 = cI := Option.some.inj ((hK9.2 2 _ rfl).2.symm.trans (hK9.2 0 _ rfl).2)
  rw [eC] at hP hD
  refine W.widen (k := 7) (n := 24016) (by omega) (by omega) ?_
  have hP : va_P D vwCl [(h1, .inr (2, [.int 0, .int 0, .int 0, .int (nI 1), .int 0, .int 0, .int 0, .ref q1, .ref q2, .ref q3, .ref q4, .ref q5, .ref q6, .null])), (q1, .inl (cI, 4001, .inl (fun _ => 0))), (q2, .inl (cI, 4001, .inl (fun _ => 0))), (q3, .inl (cZ, 4002, .inl (fun _ => 0))), (q4, .inl (cZ, 4002, .inl (fun _ => 0))), (q5, .inl (cI, 8, .inl (fun _ => 0))), (q6, .inl (cI, 4001, .inl (fun _ => 0))), (q7, .inl (cI, 4001, .inl (fun _ => 0)))] H := hP
  have hD : va_D A [(h1, .inr (2, [.int 0, .int 0, .int 0, .int (nI 1), .int 0, .int 0, .int 0, .ref q1, .ref q2, .ref q3, .ref q4, .ref q5, .ref q6, .null])), (q1, .inl (cI, 4001, .inl (fun _ => 0))), (q2, .inl (cI, 4001, .inl (fun _ => 0))), (q3, .inl (cZ, 4002, .inl (fun _ => 0))), (q4, .inl (cZ, 4002, .inl (fun _ => 0))), (q5, .inl (cI, 8, .inl (fun _ => 0))), (q6, .inl (cI, 4001, .inl (fun _ => 0))), (q7, .inl (cI, 4001, .inl (fun _ => 0)))] := hD
  refine va_putF (D := D) (ci := 2) (v := .ref q7) (ty := .array .int) (C := RX2) (T := TX2) (N := 14) hx hb hts in_X2_init_X2 tyX2 tyX2_ok nmX2 hown hK hP hD hS 0 rfl rfl 13 (by decide) (hts (.fieldLink RX2 33 "OffsetHeapModel" "far" "[I") (by decide +kernel)) (fun _ h9 => h9) rfl hin rfl (by decide +kernel) rfl rfl (Nat.le_of_ble_eq_true rfl) dX2_init_68 (fun H locs hP hD hS => ?_)
  have hP : va_P D vwCl [(h1, .inr (2, [.int 0, .int 0, .int 0, .int (nI 1), .int 0, .int 0, .int 0, .ref q1, .ref q2, .ref q3, .ref q4, .ref q5, .ref q6, .ref q7])), (q1, .inl (cI, 4001, .inl (fun _ => 0))), (q2, .inl (cI, 4001, .inl (fun _ => 0))), (q3, .inl (cZ, 4002, .inl (fun _ => 0))), (q4, .inl (cZ, 4002, .inl (fun _ => 0))), (q5, .inl (cI, 8, .inl (fun _ => 0))), (q6, .inl (cI, 4001, .inl (fun _ => 0))), (q7, .inl (cI, 4001, .inl (fun _ => 0)))] H := hP
  have hD : va_D A [(h1, .inr (2, [.int 0, .int 0, .int 0, .int (nI 1), .int 0, .int 0, .int 0, .ref q1, .ref q2, .ref q3, .ref q4, .ref q5, .ref q6, .ref q7])), (q1, .inl (cI, 4001, .inl (fun _ => 0))), (q2, .inl (cI, 4001, .inl (fun _ => 0))), (q3, .inl (cZ, 4002, .inl (fun _ => 0))), (q4, .inl (cZ, 4002, .inl (fun _ => 0))), (q5, .inl (cI, 8, .inl (fun _ => 0))), (q6, .inl (cI, 4001, .inl (fun _ => 0))), (q7, .inl (cI, 4001, .inl (fun _ => 0)))] := hD
  refine lv_aload_n hx hb dX2_init_71 rfl (lv_at hl 0 rfl) ?_
  refine lv_iload_n hx hb dX2_init_72 rfl (lv_at hl 1 rfl) ?_
  refine lv_bipush (v := nI 16) hx hb dX2_init_73 (by decide +kernel) ?_
  refine lv_icmp_ge (tgt := 83) hx hb dX2_init_75 (by decide) (fun c75 => ?_) (fun c75 => ?_)
  · refine lv_iload_n hx hb dX2_init_83 rfl (lv_at hl 1 rfl) ?_
    refine lv_sipush (v := nI 4000) hx hb dX2_init_84 (by decide +kernel) ?_
    refine lv_icmp_le (tgt := 96) hx hb dX2_init_87 (by decide) (fun c87 => ?_) (fun c87 => ?_)
    · refine lv_iload_n hx hb dX2_init_96 rfl (lv_at hl 1 rfl) ?_
      refine xk_top (y := nI n) (by rw [hnx]; exact clp_mid c75 c87) ?_
      refine va_put (D := D) (ci := 2) (v := .int (nI n)) (ty := .int) (C := RX2) (T := TX2) (N := 14) hx hb hts in_X2_init_X2 tyX2 tyX2_ok nmX2 hown hK hP hD hS 0 rfl rfl 1 (by decide) (hts (.fieldLink RX2 36 "OffsetHeapModel" "most" "I") (by decide +kernel)) (fun _ h9 => h9) rfl (by decide +kernel) rfl rfl (Nat.le_of_ble_eq_true rfl) dX2_init_97 (fun H locs hP hD hS => ?_)
      have hP : va_P D vwCl [(h1, .inr (2, [.int 0, .int (nI n), .int 0, .int (nI 1), .int 0, .int 0, .int 0, .ref q1, .ref q2, .ref q3, .ref q4, .ref q5, .ref q6, .ref q7])), (q1, .inl (cI, 4001, .inl (fun _ => 0))), (q2, .inl (cI, 4001, .inl (fun _ => 0))), (q3, .inl (cZ, 4002, .inl (fun _ => 0))), (q4, .inl (cZ, 4002, .inl (fun _ => 0))), (q5, .inl (cI, 8, .inl (fun _ => 0))), (q6, .inl (cI, 4001, .inl (fun _ => 0))), (q7, .inl (cI, 4001, .inl (fun _ => 0)))] H := hP
      have hD : va_D A [(h1, .inr (2, [.int 0, .int (nI n), .int 0, .int (nI 1), .int 0, .int 0, .int 0, .ref q1, .ref q2, .ref q3, .ref q4, .ref q5, .ref q6, .ref q7])), (q1, .inl (cI, 4001, .inl (fun _ => 0))), (q2, .inl (cI, 4001, .inl (fun _ => 0))), (q3, .inl (cZ, 4002, .inl (fun _ => 0))), (q4, .inl (cZ, 4002, .inl (fun _ => 0))), (q5, .inl (cI, 8, .inl (fun _ => 0))), (q6, .inl (cI, 4001, .inl (fun _ => 0))), (q7, .inl (cI, 4001, .inl (fun _ => 0)))] := hD
      refine lv_aload_n hx hb dX2_init_100 rfl (lv_at hl 0 rfl) ?_
      refine lv_iload_n hx hb dX2_init_101 rfl (lv_at hl 2 rfl) ?_
      refine lv_bipush (v := nI 8) hx hb dX2_init_102 (by decide +kernel) ?_
      refine lv_icmp_eq (tgt := 119) hx hb dX2_init_104 (by decide) (fun c104 => ?_) (fun c104 => ?_)
      · refine lv_iload_n hx hb dX2_init_119 rfl (lv_at hl 2 rfl) ?_
        refine lv_goto (tgt := 125) hx hb dX2_init_120 (by decide) ?_
        refine xk_top (y := nI B) (by rw [hBy]; unfold blk; rw [if_pos c104]; exact c104) ?_
        refine va_put (D := D) (ci := 2) (v := .int (nI B)) (ty := .int) (C := RX2) (T := TX2) (N := 14) hx hb hts in_X2_init_X2 tyX2 tyX2_ok nmX2 hown hK hP hD hS 0 rfl rfl 2 (by decide) (hts (.fieldLink RX2 39 "OffsetHeapModel" "block" "I") (by decide +kernel)) (fun _ h9 => h9) rfl (by decide +kernel) rfl rfl (Nat.le_of_ble_eq_true rfl) dX2_init_125 (fun H locs hP hD hS => ?_)
        have hP : va_P D vwCl [(h1, .inr (2, [.int 0, .int (nI n), .int (nI B), .int (nI 1), .int 0, .int 0, .int 0, .ref q1, .ref q2, .ref q3, .ref q4, .ref q5, .ref q6, .ref q7])), (q1, .inl (cI, 4001, .inl (fun _ => 0))), (q2, .inl (cI, 4001, .inl (fun _ => 0))), (q3, .inl (cZ, 4002, .inl (fun _ => 0))), (q4, .inl (cZ, 4002, .inl (fun _ => 0))), (q5, .inl (cI, 8, .inl (fun _ => 0))), (q6, .inl (cI, 4001, .inl (fun _ => 0))), (q7, .inl (cI, 4001, .inl (fun _ => 0)))] H := hP
        have hD : va_D A [(h1, .inr (2, [.int 0, .int (nI n), .int (nI B), .int (nI 1), .int 0, .int 0, .int 0, .ref q1, .ref q2, .ref q3, .ref q4, .ref q5, .ref q6, .ref q7])), (q1, .inl (cI, 4001, .inl (fun _ => 0))), (q2, .inl (cI, 4001, .inl (fun _ => 0))), (q3, .inl (cZ, 4002, .inl (fun _ => 0))), (q4, .inl (cZ, 4002, .inl (fun _ => 0))), (q5, .inl (cI, 8, .inl (fun _ => 0))), (q6, .inl (cI, 4001, .inl (fun _ => 0))), (q7, .inl (cI, 4001, .inl (fun _ => 0)))] := hD
        exact W.vret hx hb hr (fun t ht hW => ⟨⟨adL [0, q1, q2, q3, q4, q5, q6, q7], rfl, trivial, by rw [ht]; exact hP.sub [0, 1, 2, 3, 4, 5, 6, 7] rfl, hD.sub [0, 1, 2, 3, 4, 5, 6, 7] (by decide) rfl⟩, hS.F ht⟩) hS.2.2 dX2_init_128
      · refine lv_iload_n hx hb dX2_init_107 rfl (lv_at hl 2 rfl) ?_
        refine lv_bipush (v := nI 16) hx hb dX2_init_108 (by decide +kernel) ?_
        refine lv_icmp_eq (tgt := 119) hx hb dX2_init_110 (by decide) (fun c110 => ?_) (fun c110 => ?_)
        · refine lv_iload_n hx hb dX2_init_119 rfl (lv_at hl 2 rfl) ?_
          refine lv_goto (tgt := 125) hx hb dX2_init_120 (by decide) ?_
          refine xk_top (y := nI B) (by rw [hBy]; unfold blk; rw [if_neg c104, if_pos c110]; exact c110) ?_
          refine va_put (D := D) (ci := 2) (v := .int (nI B)) (ty := .int) (C := RX2) (T := TX2) (N := 14) hx hb hts in_X2_init_X2 tyX2 tyX2_ok nmX2 hown hK hP hD hS 0 rfl rfl 2 (by decide) (hts (.fieldLink RX2 39 "OffsetHeapModel" "block" "I") (by decide +kernel)) (fun _ h9 => h9) rfl (by decide +kernel) rfl rfl (Nat.le_of_ble_eq_true rfl) dX2_init_125 (fun H locs hP hD hS => ?_)
          have hP : va_P D vwCl [(h1, .inr (2, [.int 0, .int (nI n), .int (nI B), .int (nI 1), .int 0, .int 0, .int 0, .ref q1, .ref q2, .ref q3, .ref q4, .ref q5, .ref q6, .ref q7])), (q1, .inl (cI, 4001, .inl (fun _ => 0))), (q2, .inl (cI, 4001, .inl (fun _ => 0))), (q3, .inl (cZ, 4002, .inl (fun _ => 0))), (q4, .inl (cZ, 4002, .inl (fun _ => 0))), (q5, .inl (cI, 8, .inl (fun _ => 0))), (q6, .inl (cI, 4001, .inl (fun _ => 0))), (q7, .inl (cI, 4001, .inl (fun _ => 0)))] H := hP
          have hD : va_D A [(h1, .inr (2, [.int 0, .int (nI n), .int (nI B), .int (nI 1), .int 0, .int 0, .int 0, .ref q1, .ref q2, .ref q3, .ref q4, .ref q5, .ref q6, .ref q7])), (q1, .inl (cI, 4001, .inl (fun _ => 0))), (q2, .inl (cI, 4001, .inl (fun _ => 0))), (q3, .inl (cZ, 4002, .inl (fun _ => 0))), (q4, .inl (cZ, 4002, .inl (fun _ => 0))), (q5, .inl (cI, 8, .inl (fun _ => 0))), (q6, .inl (cI, 4001, .inl (fun _ => 0))), (q7, .inl (cI, 4001, .inl (fun _ => 0)))] := hD
          exact W.vret hx hb hr (fun t ht hW => ⟨⟨adL [0, q1, q2, q3, q4, q5, q6, q7], rfl, trivial, by rw [ht]; exact hP.sub [0, 1, 2, 3, 4, 5, 6, 7] rfl, hD.sub [0, 1, 2, 3, 4, 5, 6, 7] (by decide) rfl⟩, hS.F ht⟩) hS.2.2 dX2_init_128
        · refine lv_iload_n hx hb dX2_init_113 rfl (lv_at hl 2 rfl) ?_
          refine lv_bipush (v := nI 64) hx hb dX2_init_114 (by decide +kernel) ?_
          refine lv_icmp_ne (tgt := 123) hx hb dX2_init_116 (by decide) (fun c116 => ?_) (fun c116 => ?_)
          · refine lv_bipush (v := nI 32) hx hb dX2_init_123 (by decide +kernel) ?_
            refine xk_top (y := nI B) (by rw [hBy]; unfold blk; rw [if_neg c104, if_neg c110, if_neg c116]) ?_
            refine va_put (D := D) (ci := 2) (v := .int (nI B)) (ty := .int) (C := RX2) (T := TX2) (N := 14) hx hb hts in_X2_init_X2 tyX2 tyX2_ok nmX2 hown hK hP hD hS 0 rfl rfl 2 (by decide) (hts (.fieldLink RX2 39 "OffsetHeapModel" "block" "I") (by decide +kernel)) (fun _ h9 => h9) rfl (by decide +kernel) rfl rfl (Nat.le_of_ble_eq_true rfl) dX2_init_125 (fun H locs hP hD hS => ?_)
            have hP : va_P D vwCl [(h1, .inr (2, [.int 0, .int (nI n), .int (nI B), .int (nI 1), .int 0, .int 0, .int 0, .ref q1, .ref q2, .ref q3, .ref q4, .ref q5, .ref q6, .ref q7])), (q1, .inl (cI, 4001, .inl (fun _ => 0))), (q2, .inl (cI, 4001, .inl (fun _ => 0))), (q3, .inl (cZ, 4002, .inl (fun _ => 0))), (q4, .inl (cZ, 4002, .inl (fun _ => 0))), (q5, .inl (cI, 8, .inl (fun _ => 0))), (q6, .inl (cI, 4001, .inl (fun _ => 0))), (q7, .inl (cI, 4001, .inl (fun _ => 0)))] H := hP
            have hD : va_D A [(h1, .inr (2, [.int 0, .int (nI n), .int (nI B), .int (nI 1), .int 0, .int 0, .int 0, .ref q1, .ref q2, .ref q3, .ref q4, .ref q5, .ref q6, .ref q7])), (q1, .inl (cI, 4001, .inl (fun _ => 0))), (q2, .inl (cI, 4001, .inl (fun _ => 0))), (q3, .inl (cZ, 4002, .inl (fun _ => 0))), (q4, .inl (cZ, 4002, .inl (fun _ => 0))), (q5, .inl (cI, 8, .inl (fun _ => 0))), (q6, .inl (cI, 4001, .inl (fun _ => 0))), (q7, .inl (cI, 4001, .inl (fun _ => 0)))] := hD
            exact W.vret hx hb hr (fun t ht hW => ⟨⟨adL [0, q1, q2, q3, q4, q5, q6, q7], rfl, trivial, by rw [ht]; exact hP.sub [0, 1, 2, 3, 4, 5, 6, 7] rfl, hD.sub [0, 1, 2, 3, 4, 5, 6, 7] (by decide) rfl⟩, hS.F ht⟩) hS.2.2 dX2_init_128
          · refine lv_iload_n hx hb dX2_init_119 rfl (lv_at hl 2 rfl) ?_
            refine lv_goto (tgt := 125) hx hb dX2_init_120 (by decide) ?_
            refine xk_top (y := nI B) (by rw [hBy]; unfold blk; rw [if_neg c104, if_neg c110, if_pos c116]; exact c116) ?_
            refine va_put (D := D) (ci := 2) (v := .int (nI B)) (ty := .int) (C := RX2) (T := TX2) (N := 14) hx hb hts in_X2_init_X2 tyX2 tyX2_ok nmX2 hown hK hP hD hS 0 rfl rfl 2 (by decide) (hts (.fieldLink RX2 39 "OffsetHeapModel" "block" "I") (by decide +kernel)) (fun _ h9 => h9) rfl (by decide +kernel) rfl rfl (Nat.le_of_ble_eq_true rfl) dX2_init_125 (fun H locs hP hD hS => ?_)
            have hP : va_P D vwCl [(h1, .inr (2, [.int 0, .int (nI n), .int (nI B), .int (nI 1), .int 0, .int 0, .int 0, .ref q1, .ref q2, .ref q3, .ref q4, .ref q5, .ref q6, .ref q7])), (q1, .inl (cI, 4001, .inl (fun _ => 0))), (q2, .inl (cI, 4001, .inl (fun _ => 0))), (q3, .inl (cZ, 4002, .inl (fun _ => 0))), (q4, .inl (cZ, 4002, .inl (fun _ => 0))), (q5, .inl (cI, 8, .inl (fun _ => 0))), (q6, .inl (cI, 4001, .inl (fun _ => 0))), (q7, .inl (cI, 4001, .inl (fun _ => 0)))] H := hP
            have hD : va_D A [(h1, .inr (2, [.int 0, .int (nI n), .int (nI B), .int (nI 1), .int 0, .int 0, .int 0, .ref q1, .ref q2, .ref q3, .ref q4, .ref q5, .ref q6, .ref q7])), (q1, .inl (cI, 4001, .inl (fun _ => 0))), (q2, .inl (cI, 4001, .inl (fun _ => 0))), (q3, .inl (cZ, 4002, .inl (fun _ => 0))), (q4, .inl (cZ, 4002, .inl (fun _ => 0))), (q5, .inl (cI, 8, .inl (fun _ => 0))), (q6, .inl (cI, 4001, .inl (fun _ => 0))), (q7, .inl (cI, 4001, .inl (fun _ => 0)))] := hD
            exact W.vret hx hb hr (fun t ht hW => ⟨⟨adL [0, q1, q2, q3, q4, q5, q6, q7], rfl, trivial, by rw [ht]; exact hP.sub [0, 1, 2, 3, 4, 5, 6, 7] rfl, hD.sub [0, 1, 2, 3, 4, 5, 6, 7] (by decide) rfl⟩, hS.F ht⟩) hS.2.2 dX2_init_128
    · refine lv_sipush (v := nI 4000) hx hb dX2_init_90 (by decide +kernel) ?_
      refine lv_goto (tgt := 97) hx hb dX2_init_93 (by decide) ?_
      refine xk_top (y := nI n) (by rw [hnx, clp_hi c87]) ?_
      refine va_put (D := D) (ci := 2) (v := .int (nI n)) (ty := .int) (C := RX2) (T := TX2) (N := 14) hx hb hts in_X2_init_X2 tyX2 tyX2_ok nmX2 hown hK hP hD hS 0 rfl rfl 1 (by decide) (hts (.fieldLink RX2 36 "OffsetHeapModel" "most" "I") (by decide +kernel)) (fun _ h9 => h9) rfl (by decide +kernel) rfl rfl (Nat.le_of_ble_eq_true rfl) dX2_init_97 (fun H locs hP hD hS => ?_)
      have hP : va_P D vwCl [(h1, .inr (2, [.int 0, .int (nI n), .int 0, .int (nI 1), .int 0, .int 0, .int 0, .ref q1, .ref q2, .ref q3, .ref q4, .ref q5, .ref q6, .ref q7])), (q1, .inl (cI, 4001, .inl (fun _ => 0))), (q2, .inl (cI, 4001, .inl (fun _ => 0))), (q3, .inl (cZ, 4002, .inl (fun _ => 0))), (q4, .inl (cZ, 4002, .inl (fun _ => 0))), (q5, .inl (cI, 8, .inl (fun _ => 0))), (q6, .inl (cI, 4001, .inl (fun _ => 0))), (q7, .inl (cI, 4001, .inl (fun _ => 0)))] H := hP
      have hD : va_D A [(h1, .inr (2, [.int 0, .int (nI n), .int 0, .int (nI 1), .int 0, .int 0, .int 0, .ref q1, .ref q2, .ref q3, .ref q4, .ref q5, .ref q6, .ref q7])), (q1, .inl (cI, 4001, .inl (fun _ => 0))), (q2, .inl (cI, 4001, .inl (fun _ => 0))), (q3, .inl (cZ, 4002, .inl (fun _ => 0))), (q4, .inl (cZ, 4002, .inl (fun _ => 0))), (q5, .inl (cI, 8, .inl (fun _ => 0))), (q6, .inl (cI, 4001, .inl (fun _ => 0))), (q7, .inl (cI, 4001, .inl (fun _ => 0)))] := hD
      refine lv_aload_n hx hb dX2_init_100 rfl (lv_at hl 0 rfl) ?_
      refine lv_iload_n hx hb dX2_init_101 rfl (lv_at hl 2 rfl) ?_
      refine lv_bipush (v := nI 8) hx hb dX2_init_102 (by decide +kernel) ?_
      refine lv_icmp_eq (tgt := 119) hx hb dX2_init_104 (by decide) (fun c104 => ?_) (fun c104 => ?_)
      · refine lv_iload_n hx hb dX2_init_119 rfl (lv_at hl 2 rfl) ?_
        refine lv_goto (tgt := 125) hx hb dX2_init_120 (by decide) ?_
        refine xk_top (y := nI B) (by rw [hBy]; unfold blk; rw [if_pos c104]; exact c104) ?_
        refine va_put (D := D) (ci := 2) (v := .int (nI B)) (ty := .int) (C := RX2) (T := TX2) (N := 14) hx hb hts in_X2_init_X2 tyX2 tyX2_ok nmX2 hown hK hP hD hS 0 rfl rfl 2 (by decide) (hts (.fieldLink RX2 39 "OffsetHeapModel" "block" "I") (by decide +kernel)) (fun _ h9 => h9) rfl (by decide +kernel) rfl rfl (Nat.le_of_ble_eq_true rfl) dX2_init_125 (fun H locs hP hD hS => ?_)
        have hP : va_P D vwCl [(h1, .inr (2, [.int 0, .int (nI n), .int (nI B), .int (nI 1), .int 0, .int 0, .int 0, .ref q1, .ref q2, .ref q3, .ref q4, .ref q5, .ref q6, .ref q7])), (q1, .inl (cI, 4001, .inl (fun _ => 0))), (q2, .inl (cI, 4001, .inl (fun _ => 0))), (q3, .inl (cZ, 4002, .inl (fun _ => 0))), (q4, .inl (cZ, 4002, .inl (fun _ => 0))), (q5, .inl (cI, 8, .inl (fun _ => 0))), (q6, .inl (cI, 4001, .inl (fun _ => 0))), (q7, .inl (cI, 4001, .inl (fun _ => 0)))] H := hP
        have hD : va_D A [(h1, .inr (2, [.int 0, .int (nI n), .int (nI B), .int (nI 1), .int 0, .int 0, .int 0, .ref q1, .ref q2, .ref q3, .ref q4, .ref q5, .ref q6, .ref q7])), (q1, .inl (cI, 4001, .inl (fun _ => 0))), (q2, .inl (cI, 4001, .inl (fun _ => 0))), (q3, .inl (cZ, 4002, .inl (fun _ => 0))), (q4, .inl (cZ, 4002, .inl (fun _ => 0))), (q5, .inl (cI, 8, .inl (fun _ => 0))), (q6, .inl (cI, 4001, .inl (fun _ => 0))), (q7, .inl (cI, 4001, .inl (fun _ => 0)))] := hD
        exact W.vret hx hb hr (fun t ht hW => ⟨⟨adL [0, q1, q2, q3, q4, q5, q6, q7], rfl, trivial, by rw [ht]; exact hP.sub [0, 1, 2, 3, 4, 5, 6, 7] rfl, hD.sub [0, 1, 2, 3, 4, 5, 6, 7] (by decide) rfl⟩, hS.F ht⟩) hS.2.2 dX2_init_128
      · refine lv_iload_n hx hb dX2_init_107 rfl (lv_at hl 2 rfl) ?_
        refine lv_bipush (v := nI 16) hx hb dX2_init_108 (by decide +kernel) ?_
        refine lv_icmp_eq (tgt := 119) hx hb dX2_init_110 (by decide) (fun c110 => ?_) (fun c110 => ?_)
        · refine lv_iload_n hx hb dX2_init_119 rfl (lv_at hl 2 rfl) ?_
          refine lv_goto (tgt := 125) hx hb dX2_init_120 (by decide) ?_
          refine xk_top (y := nI B) (by rw [hBy]; unfold blk; rw [if_neg c104, if_pos c110]; exact c110) ?_
          refine va_put (D := D) (ci := 2) (v := .int (nI B)) (ty := .int) (C := RX2) (T := TX2) (N := 14) hx hb hts in_X2_init_X2 tyX2 tyX2_ok nmX2 hown hK hP hD hS 0 rfl rfl 2 (by decide) (hts (.fieldLink RX2 39 "OffsetHeapModel" "block" "I") (by decide +kernel)) (fun _ h9 => h9) rfl (by decide +kernel) rfl rfl (Nat.le_of_ble_eq_true rfl) dX2_init_125 (fun H locs hP hD hS => ?_)
          have hP : va_P D vwCl [(h1, .inr (2, [.int 0, .int (nI n), .int (nI B), .int (nI 1), .int 0, .int 0, .int 0, .ref q1, .ref q2, .ref q3, .ref q4, .ref q5, .ref q6, .ref q7])), (q1, .inl (cI, 4001, .inl (fun _ => 0))), (q2, .inl (cI, 4001, .inl (fun _ => 0))), (q3, .inl (cZ, 4002, .inl (fun _ => 0))), (q4, .inl (cZ, 4002, .inl (fun _ => 0))), (q5, .inl (cI, 8, .inl (fun _ => 0))), (q6, .inl (cI, 4001, .inl (fun _ => 0))), (q7, .inl (cI, 4001, .inl (fun _ => 0)))] H := hP
          have hD : va_D A [(h1, .inr (2, [.int 0, .int (nI n), .int (nI B), .int (nI 1), .int 0, .int 0, .int 0, .ref q1, .ref q2, .ref q3, .ref q4, .ref q5, .ref q6, .ref q7])), (q1, .inl (cI, 4001, .inl (fun _ => 0))), (q2, .inl (cI, 4001, .inl (fun _ => 0))), (q3, .inl (cZ, 4002, .inl (fun _ => 0))), (q4, .inl (cZ, 4002, .inl (fun _ => 0))), (q5, .inl (cI, 8, .inl (fun _ => 0))), (q6, .inl (cI, 4001, .inl (fun _ => 0))), (q7, .inl (cI, 4001, .inl (fun _ => 0)))] := hD
          exact W.vret hx hb hr (fun t ht hW => ⟨⟨adL [0, q1, q2, q3, q4, q5, q6, q7], rfl, trivial, by rw [ht]; exact hP.sub [0, 1, 2, 3, 4, 5, 6, 7] rfl, hD.sub [0, 1, 2, 3, 4, 5, 6, 7] (by decide) rfl⟩, hS.F ht⟩) hS.2.2 dX2_init_128
        · refine lv_iload_n hx hb dX2_init_113 rfl (lv_at hl 2 rfl) ?_
          refine lv_bipush (v := nI 64) hx hb dX2_init_114 (by decide +kernel) ?_
          refine lv_icmp_ne (tgt := 123) hx hb dX2_init_116 (by decide) (fun c116 => ?_) (fun c116 => ?_)
          · refine lv_bipush (v := nI 32) hx hb dX2_init_123 (by decide +kernel) ?_
            refine xk_top (y := nI B) (by rw [hBy]; unfold blk; rw [if_neg c104, if_neg c110, if_neg c116]) ?_
            refine va_put (D := D) (ci := 2) (v := .int (nI B)) (ty := .int) (C := RX2) (T := TX2) (N := 14) hx hb hts in_X2_init_X2 tyX2 tyX2_ok nmX2 hown hK hP hD hS 0 rfl rfl 2 (by decide) (hts (.fieldLink RX2 39 "OffsetHeapModel" "block" "I") (by decide +kernel)) (fun _ h9 => h9) rfl (by decide +kernel) rfl rfl (Nat.le_of_ble_eq_true rfl) dX2_init_125 (fun H locs hP hD hS => ?_)
            have hP : va_P D vwCl [(h1, .inr (2, [.int 0, .int (nI n), .int (nI B), .int (nI 1), .int 0, .int 0, .int 0, .ref q1, .ref q2, .ref q3, .ref q4, .ref q5, .ref q6, .ref q7])), (q1, .inl (cI, 4001, .inl (fun _ => 0))), (q2, .inl (cI, 4001, .inl (fun _ => 0))), (q3, .inl (cZ, 4002, .inl (fun _ => 0))), (q4, .inl (cZ, 4002, .inl (fun _ => 0))), (q5, .inl (cI, 8, .inl (fun _ => 0))), (q6, .inl (cI, 4001, .inl (fun _ => 0))), (q7, .inl (cI, 4001, .inl (fun _ => 0)))] H := hP
            have hD : va_D A [(h1, .inr (2, [.int 0, .int (nI n), .int (nI B), .int (nI 1), .int 0, .int 0, .int 0, .ref q1, .ref q2, .ref q3, .ref q4, .ref q5, .ref q6, .ref q7])), (q1, .inl (cI, 4001, .inl (fun _ => 0))), (q2, .inl (cI, 4001, .inl (fun _ => 0))), (q3, .inl (cZ, 4002, .inl (fun _ => 0))), (q4, .inl (cZ, 4002, .inl (fun _ => 0))), (q5, .inl (cI, 8, .inl (fun _ => 0))), (q6, .inl (cI, 4001, .inl (fun _ => 0))), (q7, .inl (cI, 4001, .inl (fun _ => 0)))] := hD
            exact W.vret hx hb hr (fun t ht hW => ⟨⟨adL [0, q1, q2, q3, q4, q5, q6, q7], rfl, trivial, by rw [ht]; exact hP.sub [0, 1, 2, 3, 4, 5, 6, 7] rfl, hD.sub [0, 1, 2, 3, 4, 5, 6, 7] (by decide) rfl⟩, hS.F ht⟩) hS.2.2 dX2_init_128
          · refine lv_iload_n hx hb dX2_init_119 rfl (lv_at hl 2 rfl) ?_
            refine lv_goto (tgt := 125) hx hb dX2_init_120 (by decide) ?_
            refine xk_top (y := nI B) (by rw [hBy]; unfold blk; rw [if_neg c104, if_neg c110, if_pos c116]; exact c116) ?_
            refine va_put (D := D) (ci := 2) (v := .int (nI B)) (ty := .int) (C := RX2) (T := TX2) (N := 14) hx hb hts in_X2_init_X2 tyX2 tyX2_ok nmX2 hown hK hP hD hS 0 rfl rfl 2 (by decide) (hts (.fieldLink RX2 39 "OffsetHeapModel" "block" "I") (by decide +kernel)) (fun _ h9 => h9) rfl (by decide +kernel) rfl rfl (Nat.le_of_ble_eq_true rfl) dX2_init_125 (fun H locs hP hD hS => ?_)
            have hP : va_P D vwCl [(h1, .inr (2, [.int 0, .int (nI n), .int (nI B), .int (nI 1), .int 0, .int 0, .int 0, .ref q1, .ref q2, .ref q3, .ref q4, .ref q5, .ref q6, .ref q7])), (q1, .inl (cI, 4001, .inl (fun _ => 0))), (q2, .inl (cI, 4001, .inl (fun _ => 0))), (q3, .inl (cZ, 4002, .inl (fun _ => 0))), (q4, .inl (cZ, 4002, .inl (fun _ => 0))), (q5, .inl (cI, 8, .inl (fun _ => 0))), (q6, .inl (cI, 4001, .inl (fun _ => 0))), (q7, .inl (cI, 4001, .inl (fun _ => 0)))] H := hP
            have hD : va_D A [(h1, .inr (2, [.int 0, .int (nI n), .int (nI B), .int (nI 1), .int 0, .int 0, .int 0, .ref q1, .ref q2, .ref q3, .ref q4, .ref q5, .ref q6, .ref q7])), (q1, .inl (cI, 4001, .inl (fun _ => 0))), (q2, .inl (cI, 4001, .inl (fun _ => 0))), (q3, .inl (cZ, 4002, .inl (fun _ => 0))), (q4, .inl (cZ, 4002, .inl (fun _ => 0))), (q5, .inl (cI, 8, .inl (fun _ => 0))), (q6, .inl (cI, 4001, .inl (fun _ => 0))), (q7, .inl (cI, 4001, .inl (fun _ => 0)))] := hD
            exact W.vret hx hb hr (fun t ht hW => ⟨⟨adL [0, q1, q2, q3, q4, q5, q6, q7], rfl, trivial, by rw [ht]; exact hP.sub [0, 1, 2, 3, 4, 5, 6, 7] rfl, hD.sub [0, 1, 2, 3, 4, 5, 6, 7] (by decide) rfl⟩, hS.F ht⟩) hS.2.2 dX2_init_128
  · refine lv_bipush (v := nI 16) hx hb dX2_init_78 (by decide +kernel) ?_
    refine lv_goto (tgt := 97) hx hb dX2_init_80 (by decide) ?_
    refine xk_top (y := nI n) (by rw [hnx, clp_lo c75]) ?_
    refine va_put (D := D) (ci := 2) (v := .int (nI n)) (ty := .int) (C := RX2) (T := TX2) (N := 14) hx hb hts in_X2_init_X2 tyX2 tyX2_ok nmX2 hown hK hP hD hS 0 rfl rfl 1 (by decide) (hts (.fieldLink RX2 36 "OffsetHeapModel" "most" "I") (by decide +kernel)) (fun _ h9 => h9) rfl (by decide +kernel) rfl rfl (Nat.le_of_ble_eq_true rfl) dX2_init_97 (fun H locs hP hD hS => ?_)
    have hP : va_P D vwCl [(h1, .inr (2, [.int 0, .int (nI n), .int 0, .int (nI 1), .int 0, .int 0, .int 0, .ref q1, .ref q2, .ref q3, .ref q4, .ref q5, .ref q6, .ref q7])), (q1, .inl (cI, 4001, .inl (fun _ => 0))), (q2, .inl (cI, 4001, .inl (fun _ => 0))), (q3, .inl (cZ, 4002, .inl (fun _ => 0))), (q4, .inl (cZ, 4002, .inl (fun _ => 0))), (q5, .inl (cI, 8, .inl (fun _ => 0))), (q6, .inl (cI, 4001, .inl (fun _ => 0))), (q7, .inl (cI, 4001, .inl (fun _ => 0)))] H := hP
    have hD : va_D A [(h1, .inr (2, [.int 0, .int (nI n), .int 0, .int (nI 1), .int 0, .int 0, .int 0, .ref q1, .ref q2, .ref q3, .ref q4, .ref q5, .ref q6, .ref q7])), (q1, .inl (cI, 4001, .inl (fun _ => 0))), (q2, .inl (cI, 4001, .inl (fun _ => 0))), (q3, .inl (cZ, 4002, .inl (fun _ => 0))), (q4, .inl (cZ, 4002, .inl (fun _ => 0))), (q5, .inl (cI, 8, .inl (fun _ => 0))), (q6, .inl (cI, 4001, .inl (fun _ => 0))), (q7, .inl (cI, 4001, .inl (fun _ => 0)))] := hD
    refine lv_aload_n hx hb dX2_init_100 rfl (lv_at hl 0 rfl) ?_
    refine lv_iload_n hx hb dX2_init_101 rfl (lv_at hl 2 rfl) ?_
    refine lv_bipush (v := nI 8) hx hb dX2_init_102 (by decide +kernel) ?_
    refine lv_icmp_eq (tgt := 119) hx hb dX2_init_104 (by decide) (fun c104 => ?_) (fun c104 => ?_)
    · refine lv_iload_n hx hb dX2_init_119 rfl (lv_at hl 2 rfl) ?_
      refine lv_goto (tgt := 125) hx hb dX2_init_120 (by decide) ?_
      refine xk_top (y := nI B) (by rw [hBy]; unfold blk; rw [if_pos c104]; exact c104) ?_
      refine va_put (D := D) (ci := 2) (v := .int (nI B)) (ty := .int) (C := RX2) (T := TX2) (N := 14) hx hb hts in_X2_init_X2 tyX2 tyX2_ok nmX2 hown hK hP hD hS 0 rfl rfl 2 (by decide) (hts (.fieldLink RX2 39 "OffsetHeapModel" "block" "I") (by decide +kernel)) (fun _ h9 => h9) rfl (by decide +kernel) rfl rfl (Nat.le_of_ble_eq_true rfl) dX2_init_125 (fun H locs hP hD hS => ?_)
      have hP : va_P D vwCl [(h1, .inr (2, [.int 0, .int (nI n), .int (nI B), .int (nI 1), .int 0, .int 0, .int 0, .ref q1, .ref q2, .ref q3, .ref q4, .ref q5, .ref q6, .ref q7])), (q1, .inl (cI, 4001, .inl (fun _ => 0))), (q2, .inl (cI, 4001, .inl (fun _ => 0))), (q3, .inl (cZ, 4002, .inl (fun _ => 0))), (q4, .inl (cZ, 4002, .inl (fun _ => 0))), (q5, .inl (cI, 8, .inl (fun _ => 0))), (q6, .inl (cI, 4001, .inl (fun _ => 0))), (q7, .inl (cI, 4001, .inl (fun _ => 0)))] H := hP
      have hD : va_D A [(h1, .inr (2, [.int 0, .int (nI n), .int (nI B), .int (nI 1), .int 0, .int 0, .int 0, .ref q1, .ref q2, .ref q3, .ref q4, .ref q5, .ref q6, .ref q7])), (q1, .inl (cI, 4001, .inl (fun _ => 0))), (q2, .inl (cI, 4001, .inl (fun _ => 0))), (q3, .inl (cZ, 4002, .inl (fun _ => 0))), (q4, .inl (cZ, 4002, .inl (fun _ => 0))), (q5, .inl (cI, 8, .inl (fun _ => 0))), (q6, .inl (cI, 4001, .inl (fun _ => 0))), (q7, .inl (cI, 4001, .inl (fun _ => 0)))] := hD
      exact W.vret hx hb hr (fun t ht hW => ⟨⟨adL [0, q1, q2, q3, q4, q5, q6, q7], rfl, trivial, by rw [ht]; exact hP.sub [0, 1, 2, 3, 4, 5, 6, 7] rfl, hD.sub [0, 1, 2, 3, 4, 5, 6, 7] (by decide) rfl⟩, hS.F ht⟩) hS.2.2 dX2_init_128
    · refine lv_iload_n hx hb dX2_init_107 rfl (lv_at hl 2 rfl) ?_
      refine lv_bipush (v := nI 16) hx hb dX2_init_108 (by decide +kernel) ?_
      refine lv_icmp_eq (tgt := 119) hx hb dX2_init_110 (by decide) (fun c110 => ?_) (fun c110 => ?_)
      · refine lv_iload_n hx hb dX2_init_119 rfl (lv_at hl 2 rfl) ?_
        refine lv_goto (tgt := 125) hx hb dX2_init_120 (by decide) ?_
        refine xk_top (y := nI B) (by rw [hBy]; unfold blk; rw [if_neg c104, if_pos c110]; exact c110) ?_
        refine va_put (D := D) (ci := 2) (v := .int (nI B)) (ty := .int) (C := RX2) (T := TX2) (N := 14) hx hb hts in_X2_init_X2 tyX2 tyX2_ok nmX2 hown hK hP hD hS 0 rfl rfl 2 (by decide) (hts (.fieldLink RX2 39 "OffsetHeapModel" "block" "I") (by decide +kernel)) (fun _ h9 => h9) rfl (by decide +kernel) rfl rfl (Nat.le_of_ble_eq_true rfl) dX2_init_125 (fun H locs hP hD hS => ?_)
        have hP : va_P D vwCl [(h1, .inr (2, [.int 0, .int (nI n), .int (nI B), .int (nI 1), .int 0, .int 0, .int 0, .ref q1, .ref q2, .ref q3, .ref q4, .ref q5, .ref q6, .ref q7])), (q1, .inl (cI, 4001, .inl (fun _ => 0))), (q2, .inl (cI, 4001, .inl (fun _ => 0))), (q3, .inl (cZ, 4002, .inl (fun _ => 0))), (q4, .inl (cZ, 4002, .inl (fun _ => 0))), (q5, .inl (cI, 8, .inl (fun _ => 0))), (q6, .inl (cI, 4001, .inl (fun _ => 0))), (q7, .inl (cI, 4001, .inl (fun _ => 0)))] H := hP
        have hD : va_D A [(h1, .inr (2, [.int 0, .int (nI n), .int (nI B), .int (nI 1), .int 0, .int 0, .int 0, .ref q1, .ref q2, .ref q3, .ref q4, .ref q5, .ref q6, .ref q7])), (q1, .inl (cI, 4001, .inl (fun _ => 0))), (q2, .inl (cI, 4001, .inl (fun _ => 0))), (q3, .inl (cZ, 4002, .inl (fun _ => 0))), (q4, .inl (cZ, 4002, .inl (fun _ => 0))), (q5, .inl (cI, 8, .inl (fun _ => 0))), (q6, .inl (cI, 4001, .inl (fun _ => 0))), (q7, .inl (cI, 4001, .inl (fun _ => 0)))] := hD
        exact W.vret hx hb hr (fun t ht hW => ⟨⟨adL [0, q1, q2, q3, q4, q5, q6, q7], rfl, trivial, by rw [ht]; exact hP.sub [0, 1, 2, 3, 4, 5, 6, 7] rfl, hD.sub [0, 1, 2, 3, 4, 5, 6, 7] (by decide) rfl⟩, hS.F ht⟩) hS.2.2 dX2_init_128
      · refine lv_iload_n hx hb dX2_init_113 rfl (lv_at hl 2 rfl) ?_
        refine lv_bipush (v := nI 64) hx hb dX2_init_114 (by decide +kernel) ?_
        refine lv_icmp_ne (tgt := 123) hx hb dX2_init_116 (by decide) (fun c116 => ?_) (fun c116 => ?_)
        · refine lv_bipush (v := nI 32) hx hb dX2_init_123 (by decide +kernel) ?_
          refine xk_top (y := nI B) (by rw [hBy]; unfold blk; rw [if_neg c104, if_neg c110, if_neg c116]) ?_
          refine va_put (D := D) (ci := 2) (v := .int (nI B)) (ty := .int) (C := RX2) (T := TX2) (N := 14) hx hb hts in_X2_init_X2 tyX2 tyX2_ok nmX2 hown hK hP hD hS 0 rfl rfl 2 (by decide) (hts (.fieldLink RX2 39 "OffsetHeapModel" "block" "I") (by decide +kernel)) (fun _ h9 => h9) rfl (by decide +kernel) rfl rfl (Nat.le_of_ble_eq_true rfl) dX2_init_125 (fun H locs hP hD hS => ?_)
          have hP : va_P D vwCl [(h1, .inr (2, [.int 0, .int (nI n), .int (nI B), .int (nI 1), .int 0, .int 0, .int 0, .ref q1, .ref q2, .ref q3, .ref q4, .ref q5, .ref q6, .ref q7])), (q1, .inl (cI, 4001, .inl (fun _ => 0))), (q2, .inl (cI, 4001, .inl (fun _ => 0))), (q3, .inl (cZ, 4002, .inl (fun _ => 0))), (q4, .inl (cZ, 4002, .inl (fun _ => 0))), (q5, .inl (cI, 8, .inl (fun _ => 0))), (q6, .inl (cI, 4001, .inl (fun _ => 0))), (q7, .inl (cI, 4001, .inl (fun _ => 0)))] H := hP
          have hD : va_D A [(h1, .inr (2, [.int 0, .int (nI n), .int (nI B), .int (nI 1), .int 0, .int 0, .int 0, .ref q1, .ref q2, .ref q3, .ref q4, .ref q5, .ref q6, .ref q7])), (q1, .inl (cI, 4001, .inl (fun _ => 0))), (q2, .inl (cI, 4001, .inl (fun _ => 0))), (q3, .inl (cZ, 4002, .inl (fun _ => 0))), (q4, .inl (cZ, 4002, .inl (fun _ => 0))), (q5, .inl (cI, 8, .inl (fun _ => 0))), (q6, .inl (cI, 4001, .inl (fun _ => 0))), (q7, .inl (cI, 4001, .inl (fun _ => 0)))] := hD
          exact W.vret hx hb hr (fun t ht hW => ⟨⟨adL [0, q1, q2, q3, q4, q5, q6, q7], rfl, trivial, by rw [ht]; exact hP.sub [0, 1, 2, 3, 4, 5, 6, 7] rfl, hD.sub [0, 1, 2, 3, 4, 5, 6, 7] (by decide) rfl⟩, hS.F ht⟩) hS.2.2 dX2_init_128
        · refine lv_iload_n hx hb dX2_init_119 rfl (lv_at hl 2 rfl) ?_
          refine lv_goto (tgt := 125) hx hb dX2_init_120 (by decide) ?_
          refine xk_top (y := nI B) (by rw [hBy]; unfold blk; rw [if_neg c104, if_neg c110, if_pos c116]; exact c116) ?_
          refine va_put (D := D) (ci := 2) (v := .int (nI B)) (ty := .int) (C := RX2) (T := TX2) (N := 14) hx hb hts in_X2_init_X2 tyX2 tyX2_ok nmX2 hown hK hP hD hS 0 rfl rfl 2 (by decide) (hts (.fieldLink RX2 39 "OffsetHeapModel" "block" "I") (by decide +kernel)) (fun _ h9 => h9) rfl (by decide +kernel) rfl rfl (Nat.le_of_ble_eq_true rfl) dX2_init_125 (fun H locs hP hD hS => ?_)
          have hP : va_P D vwCl [(h1, .inr (2, [.int 0, .int (nI n), .int (nI B), .int (nI 1), .int 0, .int 0, .int 0, .ref q1, .ref q2, .ref q3, .ref q4, .ref q5, .ref q6, .ref q7])), (q1, .inl (cI, 4001, .inl (fun _ => 0))), (q2, .inl (cI, 4001, .inl (fun _ => 0))), (q3, .inl (cZ, 4002, .inl (fun _ => 0))), (q4, .inl (cZ, 4002, .inl (fun _ => 0))), (q5, .inl (cI, 8, .inl (fun _ => 0))), (q6, .inl (cI, 4001, .inl (fun _ => 0))), (q7, .inl (cI, 4001, .inl (fun _ => 0)))] H := hP
          have hD : va_D A [(h1, .inr (2, [.int 0, .int (nI n), .int (nI B), .int (nI 1), .int 0, .int 0, .int 0, .ref q1, .ref q2, .ref q3, .ref q4, .ref q5, .ref q6, .ref q7])), (q1, .inl (cI, 4001, .inl (fun _ => 0))), (q2, .inl (cI, 4001, .inl (fun _ => 0))), (q3, .inl (cZ, 4002, .inl (fun _ => 0))), (q4, .inl (cZ, 4002, .inl (fun _ => 0))), (q5, .inl (cI, 8, .inl (fun _ => 0))), (q6, .inl (cI, 4001, .inl (fun _ => 0))), (q7, .inl (cI, 4001, .inl (fun _ => 0)))] := hD
          exact W.vret hx hb hr (fun t ht hW => ⟨⟨adL [0, q1, q2, q3, q4, q5, q6, q7], rfl, trivial, by rw [ht]; exact hP.sub [0, 1, 2, 3, 4, 5, 6, 7] rfl, hD.sub [0, 1, 2, 3, 4, 5, 6, 7] (by decide) rfl⟩, hS.F ht⟩) hS.2.2 dX2_init_128
end
