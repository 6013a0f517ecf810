section
theorem zz_wide (c : ClassId) (N h0 i : Nat) : Jvm.Free.Multi.outerC c N h0 i = Jvm.Free.Multi.outerC c N h0 i := rfl
end
section
-- ===== PART A: goes FIRST, ahead of the names: the tables' words, and 'selects' of the private methods out of them =====
/-- a private method of a class that the tables say can be made, by its rows of tables_1 -/
def lw_okq (q : MethodName × Nat) : Prop := (q.1.cls ≠ "java/lang/invoke/MethodHandle" ∧ q.1.cls ≠ "java/lang/invoke/VarHandle") ∧ Cond.instantiable q.1.cls q.2 ∈ tables_1 ∧ Cond.privateMethod q.1 ∈ tables_1 ∧ Cond.instanceMethod q.1 ∈ tables_1
theorem lw_p0 : lw_okq (⟨"LawRigging", "made", "(LLawRigging$Shelf;II)I"⟩, 12) := ⟨⟨by decide +kernel, by decide +kernel⟩, List.mem_of_getElem? (i := 11) (by decide +kernel), List.mem_of_getElem? (i := 172) (by decide +kernel), List.mem_of_getElem? (i := 173) (by decide +kernel)⟩
theorem lw_p1 : lw_okq (⟨"LawRigging", "found", "(I)I"⟩, 12) := ⟨⟨by decide +kernel, by decide +kernel⟩, List.mem_of_getElem? (i := 11) (by decide +kernel), List.mem_of_getElem? (i := 180) (by decide +kernel), List.mem_of_getElem? (i := 181) (by decide +kernel)⟩
theorem lw_p2 : lw_okq (⟨"LawRigging", "refusalOfPlace", "(LLawRigging$Shelf;II)I"⟩, 12) := ⟨⟨by decide +kernel, by decide +kernel⟩, List.mem_of_getElem? (i := 11) (by decide +kernel), List.mem_of_getElem? (i := 193) (by decide +kernel), List.mem_of_getElem? (i := 194) (by decide +kernel)⟩
theorem lw_p3 : lw_okq (⟨"LawRigging", "refusalOfMissing", "(LLawRigging$Shelf;I)I"⟩, 12) := ⟨⟨by decide +kernel, by decide +kernel⟩, List.mem_of_getElem? (i := 11) (by decide +kernel), List.mem_of_getElem? (i := 197) (by decide +kernel), List.mem_of_getElem? (i := 198) (by decide +kernel)⟩
theorem lw_p4 : lw_okq (⟨"LawRigging", "tell", "(I)I"⟩, 12) := ⟨⟨by decide +kernel, by decide +kernel⟩, List.mem_of_getElem? (i := 11) (by decide +kernel), List.mem_of_getElem? (i := 222) (by decide +kernel), List.mem_of_getElem? (i := 223) (by decide +kernel)⟩
theorem lw_p5 : lw_okq (⟨"LawRigging$Reader", "take", "(LLawRigging$Shelf;I)V"⟩, 5) := ⟨⟨by decide +kernel, by decide +kernel⟩, List.mem_of_getElem? (i := 45) (by decide +kernel), List.mem_of_getElem? (i := 238) (by decide +kernel), List.mem_of_getElem? (i := 239) (by decide +kernel)⟩
theorem lw_p6 : lw_okq (⟨"LawRigging$Reader", "isMoreAhead", "()Z"⟩, 5) := ⟨⟨by decide +kernel, by decide +kernel⟩, List.mem_of_getElem? (i := 45) (by decide +kernel), List.mem_of_getElem? (i := 251) (by decide +kernel), List.mem_of_getElem? (i := 252) (by decide +kernel)⟩
theorem lw_p7 : lw_okq (⟨"LawRigging$Reader", "sign", "()I"⟩, 5) := ⟨⟨by decide +kernel, by decide +kernel⟩, List.mem_of_getElem? (i := 45) (by decide +kernel), List.mem_of_getElem? (i := 255) (by decide +kernel), List.mem_of_getElem? (i := 256) (by decide +kernel)⟩
theorem lw_p8 : lw_okq (⟨"LawRigging$Reader", "readItem", "(LLawRigging$Rig;)V"⟩, 5) := ⟨⟨by decide +kernel, by decide +kernel⟩, List.mem_of_getElem? (i := 45) (by decide +kernel), List.mem_of_getElem? (i := 259) (by decide +kernel), List.mem_of_getElem? (i := 260) (by decide +kernel)⟩
theorem lw_p9 : lw_okq (⟨"LawRigging$Reader", "readHead", "(LLawRigging$Rig;)V"⟩, 5) := ⟨⟨by decide +kernel, by decide +kernel⟩, List.mem_of_getElem? (i := 45) (by decide +kernel), List.mem_of_getElem? (i := 266) (by decide +kernel), List.mem_of_getElem? (i := 267) (by decide +kernel)⟩
theorem lw_p10 : lw_okq (⟨"LawRigging$Reader", "figure", "(II)I"⟩, 5) := ⟨⟨by decide +kernel, by decide +kernel⟩, List.mem_of_getElem? (i := 45) (by decide +kernel), List.mem_of_getElem? (i := 270) (by decide +kernel), List.mem_of_getElem? (i := 271) (by decide +kernel)⟩
theorem lw_p11 : lw_okq (⟨"LawRigging$Reader", "readAct", "(LLawRigging$Rig;)V"⟩, 5) := ⟨⟨by decide +kernel, by decide +kernel⟩, List.mem_of_getElem? (i := 45) (by decide +kernel), List.mem_of_getElem? (i := 278) (by decide +kernel), List.mem_of_getElem? (i := 279) (by decide +kernel)⟩
theorem lw_p12 : lw_okq (⟨"LawRigging$Reader", "ropeSet", "()I"⟩, 5) := ⟨⟨by decide +kernel, by decide +kernel⟩, List.mem_of_getElem? (i := 45) (by decide +kernel), List.mem_of_getElem? (i := 282) (by decide +kernel), List.mem_of_getElem? (i := 283) (by decide +kernel)⟩
theorem lw_p13 : lw_okq (⟨"LawRigging$Reader", "readRope", "(LLawRigging$Rig;I)V"⟩, 5) := ⟨⟨by decide +kernel, by decide +kernel⟩, List.mem_of_getElem? (i := 45) (by decide +kernel), List.mem_of_getElem? (i := 290) (by decide +kernel), List.mem_of_getElem? (i := 291) (by decide +kernel)⟩
theorem lw_p14 : lw_okq (⟨"LawRigging", "refusalOfHaul", "(II)I"⟩, 12) := ⟨⟨by decide +kernel, by decide +kernel⟩, List.mem_of_getElem? (i := 11) (by decide +kernel), List.mem_of_getElem? (i := 311) (by decide +kernel), List.mem_of_getElem? (i := 312) (by decide +kernel)⟩
theorem lw_p15 : lw_okq (⟨"LawRigging", "refusalOfFast", "(I)I"⟩, 12) := ⟨⟨by decide +kernel, by decide +kernel⟩, List.mem_of_getElem? (i := 11) (by decide +kernel), List.mem_of_getElem? (i := 315) (by decide +kernel), List.mem_of_getElem? (i := 316) (by decide +kernel)⟩
def lw_privs_1 : List (MethodName × Nat) := [(⟨"LawRigging", "made", "(LLawRigging$Shelf;II)I"⟩, 12), (⟨"LawRigging", "found", "(I)I"⟩, 12), (⟨"LawRigging", "refusalOfPlace", "(LLawRigging$Shelf;II)I"⟩, 12), (⟨"LawRigging", "refusalOfMissing", "(LLawRigging$Shelf;I)I"⟩, 12), (⟨"LawRigging", "tell", "(I)I"⟩, 12), (⟨"LawRigging$Reader", "take", "(LLawRigging$Shelf;I)V"⟩, 5), (⟨"LawRigging$Reader", "isMoreAhead", "()Z"⟩, 5), (⟨"LawRigging$Reader", "sign", "()I"⟩, 5), (⟨"LawRigging$Reader", "readItem", "(LLawRigging$Rig;)V"⟩, 5), (⟨"LawRigging$Reader", "readHead", "(LLawRigging$Rig;)V"⟩, 5), (⟨"LawRigging$Reader", "figure", "(II)I"⟩, 5), (⟨"LawRigging$Reader", "readAct", "(LLawRigging$Rig;)V"⟩, 5), (⟨"LawRigging$Reader", "ropeSet", "()I"⟩, 5), (⟨"LawRigging$Reader", "readRope", "(LLawRigging$Rig;I)V"⟩, 5), (⟨"LawRigging", "refusalOfHaul", "(II)I"⟩, 12), (⟨"LawRigging", "refusalOfFast", "(I)I"⟩, 12)]
theorem lw_r1 : ∀ q ∈ lw_privs_1, lw_okq q := List.forall_mem_cons.mpr ⟨lw_p0, List.forall_mem_cons.mpr ⟨lw_p1, List.forall_mem_cons.mpr ⟨lw_p2, List.forall_mem_cons.mpr ⟨lw_p3, List.forall_mem_cons.mpr ⟨lw_p4, List.forall_mem_cons.mpr ⟨lw_p5, List.forall_mem_cons.mpr ⟨lw_p6, List.forall_mem_cons.mpr ⟨lw_p7, List.forall_mem_cons.mpr ⟨lw_p8, List.forall_mem_cons.mpr ⟨lw_p9, List.forall_mem_cons.mpr ⟨lw_p10, List.forall_mem_cons.mpr ⟨lw_p11, List.forall_mem_cons.mpr ⟨lw_p12, List.forall_mem_cons.mpr ⟨lw_p13, List.forall_mem_cons.mpr ⟨lw_p14, List.forall_mem_cons.mpr ⟨lw_p15, fun _ h => absurd h List.not_mem_nil⟩⟩⟩⟩⟩⟩⟩⟩⟩⟩⟩⟩⟩⟩⟩⟩
theorem lw_p16 : lw_okq (⟨"LawRigging$Rig", "canReach", "(JI)Z"⟩, 9) := ⟨⟨by decide +kernel, by decide +kernel⟩, List.mem_of_getElem? (i := 89) (by decide +kernel), List.mem_of_getElem? (i := 354) (by decide +kernel), List.mem_of_getElem? (i := 355) (by decide +kernel)⟩
theorem lw_p17 : lw_okq (⟨"LawRigging", "done", "(JI)I"⟩, 12) := ⟨⟨by decide +kernel, by decide +kernel⟩, List.mem_of_getElem? (i := 11) (by decide +kernel), List.mem_of_getElem? (i := 386) (by decide +kernel), List.mem_of_getElem? (i := 387) (by decide +kernel)⟩
theorem lw_p18 : lw_okq (⟨"LawRigging", "canFall", "(I)Z"⟩, 12) := ⟨⟨by decide +kernel, by decide +kernel⟩, List.mem_of_getElem? (i := 11) (by decide +kernel), List.mem_of_getElem? (i := 552) (by decide +kernel), List.mem_of_getElem? (i := 553) (by decide +kernel)⟩
theorem lw_p19 : lw_okq (⟨"LawRigging", "roomiest", "(I)I"⟩, 12) := ⟨⟨by decide +kernel, by decide +kernel⟩, List.mem_of_getElem? (i := 11) (by decide +kernel), List.mem_of_getElem? (i := 565) (by decide +kernel), List.mem_of_getElem? (i := 566) (by decide +kernel)⟩
theorem lw_p20 : lw_okq (⟨"LawRigging", "refusalOfPairs", "(I)I"⟩, 12) := ⟨⟨by decide +kernel, by decide +kernel⟩, List.mem_of_getElem? (i := 11) (by decide +kernel), List.mem_of_getElem? (i := 574) (by decide +kernel), List.mem_of_getElem? (i := 575) (by decide +kernel)⟩
theorem lw_p21 : lw_okq (⟨"LawRigging", "kindsThatFit", "(I)I"⟩, 12) := ⟨⟨by decide +kernel, by decide +kernel⟩, List.mem_of_getElem? (i := 11) (by decide +kernel), List.mem_of_getElem? (i := 579) (by decide +kernel), List.mem_of_getElem? (i := 580) (by decide +kernel)⟩
theorem lw_p22 : lw_okq (⟨"LawRigging", "blow", "(II)I"⟩, 12) := ⟨⟨by decide +kernel, by decide +kernel⟩, List.mem_of_getElem? (i := 11) (by decide +kernel), List.mem_of_getElem? (i := 610) (by decide +kernel), List.mem_of_getElem? (i := 611) (by decide +kernel)⟩
theorem lw_p23 : lw_okq (⟨"LawRigging", "tellPart", "(JJ)I"⟩, 12) := ⟨⟨by decide +kernel, by decide +kernel⟩, List.mem_of_getElem? (i := 11) (by decide +kernel), List.mem_of_getElem? (i := 617) (by decide +kernel), List.mem_of_getElem? (i := 618) (by decide +kernel)⟩
theorem lw_p24 : lw_okq (⟨"LawRigging", "detail", "(II)I"⟩, 12) := ⟨⟨by decide +kernel, by decide +kernel⟩, List.mem_of_getElem? (i := 11) (by decide +kernel), List.mem_of_getElem? (i := 689) (by decide +kernel), List.mem_of_getElem? (i := 690) (by decide +kernel)⟩
def lw_privs_2 : List (MethodName × Nat) := [(⟨"LawRigging$Rig", "canReach", "(JI)Z"⟩, 9), (⟨"LawRigging", "done", "(JI)I"⟩, 12), (⟨"LawRigging", "canFall", "(I)Z"⟩, 12), (⟨"LawRigging", "roomiest", "(I)I"⟩, 12), (⟨"LawRigging", "refusalOfPairs", "(I)I"⟩, 12), (⟨"LawRigging", "kindsThatFit", "(I)I"⟩, 12), (⟨"LawRigging", "blow", "(II)I"⟩, 12), (⟨"LawRigging", "tellPart", "(JJ)I"⟩, 12), (⟨"LawRigging", "detail", "(II)I"⟩, 12)]
theorem lw_r2 : ∀ q ∈ lw_privs_2, lw_okq q := List.forall_mem_cons.mpr ⟨lw_p16, List.forall_mem_cons.mpr ⟨lw_p17, List.forall_mem_cons.mpr ⟨lw_p18, List.forall_mem_cons.mpr ⟨lw_p19, List.forall_mem_cons.mpr ⟨lw_p20, List.forall_mem_cons.mpr ⟨lw_p21, List.forall_mem_cons.mpr ⟨lw_p22, List.forall_mem_cons.mpr ⟨lw_p23, List.forall_mem_cons.mpr ⟨lw_p24, fun _ h => absurd h List.not_mem_nil⟩⟩⟩⟩⟩⟩⟩⟩⟩
def lw_privs : List (MethodName × Nat) := lw_privs_1 ++ (lw_privs_2)
def lw_tbl : List Cond := k2_sels lw_privs ++ tables_1
theorem lw_privs_ok : ∀ q ∈ lw_privs, lw_okq q := by
  show ∀ q ∈ lw_privs_1 ++ (lw_privs_2), lw_okq q
  exact List.forall_mem_append.mpr ⟨lw_r1, lw_r2⟩

/-! ===== BEGIN printed: names, fields, word lists, decode rows ===== -/
def RX0 : String := "LawRigging$Log"
def TX0 : u_T := fun k => match k with
  | 0 => ("LawRigging$Log", "states", "[J", true)
  | 1 => ("LawRigging$Log", "size", "I", false)
  | 2 => ("LawRigging$Log", "keptStates", "[[J", true)
  | _ => ("LawRigging$Log", "keptSizes", "[I", true)
def tyX0 : Nat → FieldType := fun k => match k with
  | 0 => .array .long
  | 1 => .int
  | 2 => .array (.array .long)
  | _ => .array .int
theorem nmX0 : ∀ a, a < 4 → ∀ b, b < 4 → a ≠ b → (TX0 a).2.1 ≠ (TX0 b).2.1 := by decide +kernel
theorem tyX0_ok : ∀ k, k < 4 → parseFieldDescriptor (TX0 k).2.2.1 = some (tyX0 k) := by decide +kernel
abbrev cX0_init : ByteArray := prog_2_method_1_code
def yX0_init : MethodName := ⟨RX0, "<init>", "()V"⟩
abbrev cX0_begin : ByteArray := prog_2_method_2_code
def yX0_begin : MethodName := ⟨RX0, "begin", "(J)V"⟩
abbrev cX0_deeds : ByteArray := prog_2_method_3_code
def yX0_deeds : MethodName := ⟨RX0, "deeds", "()I"⟩
abbrev cX0_now : ByteArray := prog_2_method_4_code
def yX0_now : MethodName := ⟨RX0, "now", "()J"⟩
abbrev cX0_isFull : ByteArray := prog_2_method_5_code
def yX0_isFull : MethodName := ⟨RX0, "isFull", "(I)Z"⟩
abbrev cX0_add : ByteArray := prog_2_method_6_code
def yX0_add : MethodName := ⟨RX0, "add", "(J)V"⟩
abbrev cX0_goBack : ByteArray := prog_2_method_7_code
def yX0_goBack : MethodName := ⟨RX0, "goBack", "(I)V"⟩
abbrev cX0_isKeepingPlace : ByteArray := prog_2_method_8_code
def yX0_isKeepingPlace : MethodName := ⟨RX0, "isKeepingPlace", "(I)Z"⟩
abbrev cX0_deedsKept : ByteArray := prog_2_method_9_code
def yX0_deedsKept : MethodName := ⟨RX0, "deedsKept", "(I)I"⟩
abbrev cX0_countKept : ByteArray := prog_2_method_10_code
def yX0_countKept : MethodName := ⟨RX0, "countKept", "()I"⟩
abbrev cX0_store : ByteArray := prog_2_method_11_code
def yX0_store : MethodName := ⟨RX0, "store", "(I)V"⟩
abbrev cX0_restore : ByteArray := prog_2_method_12_code
def yX0_restore : MethodName := ⟨RX0, "restore", "(I)V"⟩
def RX1 : String := "LawRigging$Reader"
def TX1 : u_T := fun k => match k with
  | 0 => ("LawRigging$Reader", "signs", "[I", true)
  | 1 => ("LawRigging$Reader", "size", "I", false)
  | 2 => ("LawRigging$Reader", "place", "I", false)
  | 3 => ("LawRigging$Reader", "firstFault", "I", false)
  | _ => ("LawRigging$Reader", "headRead", "Z", false)
def tyX1 : Nat → FieldType := fun k => match k with
  | 0 => .array .int
  | 1 => .int
  | 2 => .int
  | 3 => .int
  | _ => .boolean
theorem nmX1 : ∀ a, a < 5 → ∀ b, b < 5 → a ≠ b → (TX1 a).2.1 ≠ (TX1 b).2.1 := by decide +kernel
theorem tyX1_ok : ∀ k, k < 5 → parseFieldDescriptor (TX1 k).2.2.1 = some (tyX1 k) := by decide +kernel
abbrev cX1_init : ByteArray := prog_3_method_1_code
def yX1_init : MethodName := ⟨RX1, "<init>", "()V"⟩
abbrev cX1_read : ByteArray := prog_3_method_2_code
def yX1_read : MethodName := ⟨RX1, "read", "(LLawRigging$Shelf;ILLawRigging$Rig;)I"⟩
abbrev cX1_take : ByteArray := prog_3_method_3_code
def yX1_take : MethodName := ⟨RX1, "take", "(LLawRigging$Shelf;I)V"⟩
abbrev cX1_isMoreAhead : ByteArray := prog_3_method_4_code
def yX1_isMoreAhead : MethodName := ⟨RX1, "isMoreAhead", "()Z"⟩
abbrev cX1_sign : ByteArray := prog_3_method_5_code
def yX1_sign : MethodName := ⟨RX1, "sign", "()I"⟩
abbrev cX1_readItem : ByteArray := prog_3_method_6_code
def yX1_readItem : MethodName := ⟨RX1, "readItem", "(LLawRigging$Rig;)V"⟩
abbrev cX1_readHead : ByteArray := prog_3_method_7_code
def yX1_readHead : MethodName := ⟨RX1, "readHead", "(LLawRigging$Rig;)V"⟩
abbrev cX1_readRope : ByteArray := prog_3_method_8_code
def yX1_readRope : MethodName := ⟨RX1, "readRope", "(LLawRigging$Rig;I)V"⟩
abbrev cX1_readAct : ByteArray := prog_3_method_9_code
def yX1_readAct : MethodName := ⟨RX1, "readAct", "(LLawRigging$Rig;)V"⟩
abbrev cX1_ropeSet : ByteArray := prog_3_method_10_code
def yX1_ropeSet : MethodName := ⟨RX1, "ropeSet", "()I"⟩
abbrev cX1_figure : ByteArray := prog_3_method_11_code
def yX1_figure : MethodName := ⟨RX1, "figure", "(II)I"⟩
abbrev cX1_kindOfLetter : ByteArray := prog_3_method_12_code
def yX1_kindOfLetter : MethodName := ⟨RX1, "kindOfLetter", "(I)I"⟩
def RX2 : String := "LawRigging$Rig"
def TX2 : u_T := fun k => match k with
  | 0 => ("LawRigging$Rig", "ropes", "I", false)
  | 1 => ("LawRigging$Rig", "acts", "I", false)
  | 2 => ("LawRigging$Rig", "start", "J", false)
  | 3 => ("LawRigging$Rig", "reached", "I", false)
  | 4 => ("LawRigging$Rig", "ropeKinds", "[I", true)
  | 5 => ("LawRigging$Rig", "strengths", "[I", true)
  | 6 => ("LawRigging$Rig", "moved", "[I", true)
  | 7 => ("LawRigging$Rig", "needs", "[I", true)
  | _ => ("LawRigging$Rig", "forbids", "[I", true)
def tyX2 : Nat → FieldType := fun k => match k with
  | 0 => .int
  | 1 => .int
  | 2 => .long
  | 3 => .int
  | 4 => .array .int
  | 5 => .array .int
  | 6 => .array .int
  | 7 => .array .int
  | _ => .array .int
theorem nmX2 : ∀ a, a < 9 → ∀ b, b < 9 → a ≠ b → (TX2 a).2.1 ≠ (TX2 b).2.1 := by decide +kernel
theorem tyX2_ok : ∀ k, k < 9 → parseFieldDescriptor (TX2 k).2.2.1 = some (tyX2 k) := by decide +kernel
abbrev cX2_init : ByteArray := prog_4_method_1_code
def yX2_init : MethodName := ⟨RX2, "<init>", "()V"⟩
abbrev cX2_clear : ByteArray := prog_4_method_2_code
def yX2_clear : MethodName := ⟨RX2, "clear", "()V"⟩
abbrev cX2_addRope : ByteArray := prog_4_method_3_code
def yX2_addRope : MethodName := ⟨RX2, "addRope", "(IIII)V"⟩
abbrev cX2_addAct : ByteArray := prog_4_method_4_code
def yX2_addAct : MethodName := ⟨RX2, "addAct", "(II)V"⟩
abbrev cX2_isEmpty : ByteArray := prog_4_method_5_code
def yX2_isEmpty : MethodName := ⟨RX2, "isEmpty", "()Z"⟩
abbrev cX2_allRopes : ByteArray := prog_4_method_6_code
def yX2_allRopes : MethodName := ⟨RX2, "allRopes", "()I"⟩
abbrev cX2_isRope : ByteArray := prog_4_method_7_code
def yX2_isRope : MethodName := ⟨RX2, "isRope", "(I)Z"⟩
abbrev cX2_isAct : ByteArray := prog_4_method_8_code
def yX2_isAct : MethodName := ⟨RX2, "isAct", "(I)Z"⟩
abbrev cX2_kind : ByteArray := prog_4_method_9_code
def yX2_kind : MethodName := ⟨RX2, "kind", "(I)I"⟩
abbrev cX2_holds : ByteArray := prog_4_method_10_code
def yX2_holds : MethodName := ⟨RX2, "holds", "(I)I"⟩
abbrev cX2_target : ByteArray := prog_4_method_11_code
def yX2_target : MethodName := ⟨RX2, "target", "(I)I"⟩
abbrev cX2_countOf : ByteArray := prog_4_method_13_code
def yX2_countOf : MethodName := ⟨RX2, "countOf", "(I)I"⟩
abbrev cX2_needed : ByteArray := prog_4_method_14_code
def yX2_needed : MethodName := ⟨RX2, "needed", "(I)I"⟩
abbrev cX2_forbidden : ByteArray := prog_4_method_15_code
def yX2_forbidden : MethodName := ⟨RX2, "forbidden", "(I)I"⟩
abbrev cX2_lawfulActs : ByteArray := prog_4_method_16_code
def yX2_lawfulActs : MethodName := ⟨RX2, "lawfulActs", "(J)I"⟩
abbrev cX2_hauled : ByteArray := prog_4_method_17_code
def yX2_hauled : MethodName := ⟨RX2, "hauled", "(JII)J"⟩
abbrev cX2_canReach : ByteArray := prog_4_method_18_code
def yX2_canReach : MethodName := ⟨RX2, "canReach", "(JI)Z"⟩
abbrev cX2_byLot : ByteArray := prog_4_method_19_code
def yX2_byLot : MethodName := ⟨RX2, "byLot", "(JI)J"⟩
def RX3 : String := "LawRigging$Search"
def TX3 : u_T := fun k => match k with
  | _ => ("", "", "", false)
def tyX3 : Nat → FieldType := fun k => match k with
  | _ => .int
theorem nmX3 : ∀ a, a < 0 → ∀ b, b < 0 → a ≠ b → (TX3 a).2.1 ≠ (TX3 b).2.1 := by decide +kernel
theorem tyX3_ok : ∀ k, k < 0 → parseFieldDescriptor (TX3 k).2.2.1 = some (tyX3 k) := by decide +kernel
abbrev cX3_fewest : ByteArray := prog_5_method_2_code
def yX3_fewest : MethodName := ⟨RX3, "fewest", "(LLawRigging$Rig;IJ[I)I"⟩
abbrev cX3_isReached : ByteArray := prog_5_method_3_code
def yX3_isReached : MethodName := ⟨RX3, "isReached", "(LLawRigging$Rig;IJ[III)Z"⟩
abbrev cX3_isTooFar : ByteArray := prog_5_method_4_code
def yX3_isTooFar : MethodName := ⟨RX3, "isTooFar", "(LLawRigging$Rig;IJI)Z"⟩
abbrev cX3_outcome : ByteArray := prog_5_method_5_code
def yX3_outcome : MethodName := ⟨RX3, "outcome", "(LLawRigging$Rig;JI)I"⟩
abbrev cX3_played : ByteArray := prog_5_method_6_code
def yX3_played : MethodName := ⟨RX3, "played", "(LLawRigging$Rig;JI)I"⟩
def RX4 : String := "LawRigging$Shelf"
def TX4 : u_T := fun k => match k with
  | 0 => ("LawRigging$Shelf", "most", "I", true)
  | 1 => ("LawRigging$Shelf", "blank", "I", true)
  | 2 => ("LawRigging$Shelf", "places", "[[I", true)
  | _ => ("LawRigging$Shelf", "sizes", "[I", true)
def tyX4 : Nat → FieldType := fun k => match k with
  | 0 => .int
  | 1 => .int
  | 2 => .array (.array .int)
  | _ => .array .int
theorem nmX4 : ∀ a, a < 4 → ∀ b, b < 4 → a ≠ b → (TX4 a).2.1 ≠ (TX4 b).2.1 := by decide +kernel
theorem tyX4_ok : ∀ k, k < 4 → parseFieldDescriptor (TX4 k).2.2.1 = some (tyX4 k) := by decide +kernel
abbrev cX4_init : ByteArray := prog_6_method_1_code
def yX4_init : MethodName := ⟨RX4, "<init>", "(III)V"⟩
abbrev cX4_isNumber : ByteArray := prog_6_method_2_code
def yX4_isNumber : MethodName := ⟨RX4, "isNumber", "(I)Z"⟩
abbrev cX4_isThere : ByteArray := prog_6_method_3_code
def yX4_isThere : MethodName := ⟨RX4, "isThere", "(I)Z"⟩
abbrev cX4_size : ByteArray := prog_6_method_4_code
def yX4_size : MethodName := ⟨RX4, "size", "(I)I"⟩
abbrev cX4_hasPlace : ByteArray := prog_6_method_5_code
def yX4_hasPlace : MethodName := ⟨RX4, "hasPlace", "(II)Z"⟩
abbrev cX4_get : ByteArray := prog_6_method_7_code
def yX4_get : MethodName := ⟨RX4, "get", "(II)I"⟩
abbrev cX4_set : ByteArray := prog_6_method_8_code
def yX4_set : MethodName := ⟨RX4, "set", "(III)V"⟩
abbrev cX4_make : ByteArray := prog_6_method_9_code
def yX4_make : MethodName := ⟨RX4, "make", "(II)V"⟩
abbrev cX4_countThere : ByteArray := prog_6_method_13_code
def yX4_countThere : MethodName := ⟨RX4, "countThere", "()I"⟩
abbrev cX4_digestFrom : ByteArray := prog_6_method_14_code
def yX4_digestFrom : MethodName := ⟨RX4, "digestFrom", "(J)J"⟩
def RX5 : String := "LawRigging$State"
def TX5 : u_T := fun k => match k with
  | _ => ("", "", "", false)
def tyX5 : Nat → FieldType := fun k => match k with
  | _ => .int
theorem nmX5 : ∀ a, a < 0 → ∀ b, b < 0 → a ≠ b → (TX5 a).2.1 ≠ (TX5 b).2.1 := by decide +kernel
theorem tyX5_ok : ∀ k, k < 0 → parseFieldDescriptor (TX5 k).2.2.1 = some (tyX5 k) := by decide +kernel
abbrev cX5_strain : ByteArray := prog_7_method_2_code
def yX5_strain : MethodName := ⟨RX5, "strain", "(JI)I"⟩
abbrev cX5_letGo : ByteArray := prog_7_method_3_code
def yX5_letGo : MethodName := ⟨RX5, "letGo", "(J)I"⟩
abbrev cX5_parted : ByteArray := prog_7_method_4_code
def yX5_parted : MethodName := ⟨RX5, "parted", "(J)I"⟩
abbrev cX5_frostIn : ByteArray := prog_7_method_5_code
def yX5_frostIn : MethodName := ⟨RX5, "frostIn", "(J)I"⟩
abbrev cX5_isLetGo : ByteArray := prog_7_method_6_code
def yX5_isLetGo : MethodName := ⟨RX5, "isLetGo", "(JI)Z"⟩
abbrev cX5_isParted : ByteArray := prog_7_method_7_code
def yX5_isParted : MethodName := ⟨RX5, "isParted", "(JI)Z"⟩
abbrev cX5_isFast : ByteArray := prog_7_method_8_code
def yX5_isFast : MethodName := ⟨RX5, "isFast", "(JI)Z"⟩
abbrev cX5_taut : ByteArray := prog_7_method_9_code
def yX5_taut : MethodName := ⟨RX5, "taut", "(J)I"⟩
abbrev cX5_allStrains : ByteArray := prog_7_method_10_code
def yX5_allStrains : MethodName := ⟨RX5, "allStrains", "(J)I"⟩
abbrev cX5_afterStrain : ByteArray := prog_7_method_11_code
def yX5_afterStrain : MethodName := ⟨RX5, "afterStrain", "(JII)J"⟩
abbrev cX5_afterLetGo : ByteArray := prog_7_method_12_code
def yX5_afterLetGo : MethodName := ⟨RX5, "afterLetGo", "(JI)J"⟩
abbrev cX5_afterMadeOff : ByteArray := prog_7_method_13_code
def yX5_afterMadeOff : MethodName := ⟨RX5, "afterMadeOff", "(JI)J"⟩
abbrev cX5_afterParted : ByteArray := prog_7_method_14_code
def yX5_afterParted : MethodName := ⟨RX5, "afterParted", "(JI)J"⟩
abbrev cX5_afterSpliced : ByteArray := prog_7_method_15_code
def yX5_afterSpliced : MethodName := ⟨RX5, "afterSpliced", "(JI)J"⟩
abbrev cX5_afterFrost : ByteArray := prog_7_method_16_code
def yX5_afterFrost : MethodName := ⟨RX5, "afterFrost", "(JI)J"⟩
def RX6 : String := "LawRigging"
def TX6 : u_T := fun k => match k with
  | 0 => ("LawRigging", "rows", "LLawRigging$Shelf;", true)
  | 1 => ("LawRigging", "texts", "LLawRigging$Shelf;", true)
  | 2 => ("LawRigging", "reader", "LLawRigging$Reader;", true)
  | 3 => ("LawRigging", "log", "LLawRigging$Log;", true)
  | 4 => ("LawRigging", "triedDeeds", "[I", true)
  | 5 => ("LawRigging", "findingCounts", "[I", true)
  | 6 => ("LawRigging", "rig", "LLawRigging$Rig;", false)
  | 7 => ("LawRigging", "draft", "LLawRigging$Rig;", false)
  | 8 => ("LawRigging", "latestFinding", "I", false)
  | 9 => ("LawRigging", "latestAsked", "I", false)
  | 10 => ("LawRigging", "upperTold", "J", false)
  | _ => ("LawRigging", "lowerTold", "J", false)
def tyX6 : Nat → FieldType := fun k => match k with
  | 0 => .object "LawRigging$Shelf"
  | 1 => .object "LawRigging$Shelf"
  | 2 => .object "LawRigging$Reader"
  | 3 => .object "LawRigging$Log"
  | 4 => .array .int
  | 5 => .array .int
  | 6 => .object "LawRigging$Rig"
  | 7 => .object "LawRigging$Rig"
  | 8 => .int
  | 9 => .int
  | 10 => .long
  | _ => .long
theorem nmX6 : ∀ a, a < 12 → ∀ b, b < 12 → a ≠ b → (TX6 a).2.1 ≠ (TX6 b).2.1 := by decide +kernel
theorem tyX6_ok : ∀ k, k < 12 → parseFieldDescriptor (TX6 k).2.2.1 = some (tyX6 k) := by decide +kernel
abbrev cX6_init : ByteArray := prog_1_method_1_code
def yX6_init : MethodName := ⟨RX6, "<init>", "()V"⟩
abbrev cX6_row : ByteArray := prog_1_method_2_code
def yX6_row : MethodName := ⟨RX6, "row", "(II)I"⟩
abbrev cX6_lay : ByteArray := prog_1_method_3_code
def yX6_lay : MethodName := ⟨RX6, "lay", "(III)I"⟩
abbrev cX6_at : ByteArray := prog_1_method_4_code
def yX6_at : MethodName := ⟨RX6, "at", "(II)I"⟩
abbrev cX6_text : ByteArray := prog_1_method_8_code
def yX6_text : MethodName := ⟨RX6, "text", "(II)I"⟩
abbrev cX6_put : ByteArray := prog_1_method_9_code
def yX6_put : MethodName := ⟨RX6, "put", "(III)I"⟩
abbrev cX6_court : ByteArray := prog_1_method_11_code
def yX6_court : MethodName := ⟨RX6, "court", "(I)I"⟩
abbrev cX6_rope : ByteArray := prog_1_method_12_code
def yX6_rope : MethodName := ⟨RX6, "rope", "(II)I"⟩
abbrev cX6_haul : ByteArray := prog_1_method_14_code
def yX6_haul : MethodName := ⟨RX6, "haul", "(II)I"⟩
abbrev cX6_slack : ByteArray := prog_1_method_15_code
def yX6_slack : MethodName := ⟨RX6, "slack", "(I)I"⟩
abbrev cX6_belay : ByteArray := prog_1_method_16_code
def yX6_belay : MethodName := ⟨RX6, "belay", "(I)I"⟩
abbrev cX6_cut : ByteArray := prog_1_method_17_code
def yX6_cut : MethodName := ⟨RX6, "cut", "(I)I"⟩
abbrev cX6_splice : ByteArray := prog_1_method_18_code
def yX6_splice : MethodName := ⟨RX6, "splice", "(I)I"⟩
abbrev cX6_frost : ByteArray := prog_1_method_19_code
def yX6_frost : MethodName := ⟨RX6, "frost", "(I)I"⟩
abbrev cX6_undo : ByteArray := prog_1_method_20_code
def yX6_undo : MethodName := ⟨RX6, "undo", "(I)I"⟩
abbrev cX6_keep : ByteArray := prog_1_method_21_code
def yX6_keep : MethodName := ⟨RX6, "keep", "(I)I"⟩
abbrev cX6_on : ByteArray := prog_1_method_22_code
def yX6_on : MethodName := ⟨RX6, "on", "(I)I"⟩
abbrev cX6_passes : ByteArray := prog_1_method_23_code
def yX6_passes : MethodName := ⟨RX6, "passes", "(II)I"⟩
abbrev cX6_moves : ByteArray := prog_1_method_24_code
def yX6_moves : MethodName := ⟨RX6, "moves", "(II)I"⟩
abbrev cX6_parts : ByteArray := prog_1_method_25_code
def yX6_parts : MethodName := ⟨RX6, "parts", "(I)I"⟩
abbrev cX6_lawful : ByteArray := prog_1_method_26_code
def yX6_lawful : MethodName := ⟨RX6, "lawful", "()I"⟩
abbrev cX6_least : ByteArray := prog_1_method_27_code
def yX6_least : MethodName := ⟨RX6, "least", "(II)I"⟩
abbrev cX6_fall : ByteArray := prog_1_method_28_code
def yX6_fall : MethodName := ⟨RX6, "fall", "()I"⟩
abbrev cX6_idle : ByteArray := prog_1_method_29_code
def yX6_idle : MethodName := ⟨RX6, "idle", "()I"⟩
abbrev cX6_share : ByteArray := prog_1_method_30_code
def yX6_share : MethodName := ⟨RX6, "share", "(II)I"⟩
abbrev cX6_who : ByteArray := prog_1_method_31_code
def yX6_who : MethodName := ⟨RX6, "who", "(I)I"⟩
abbrev cX6_kinds : ByteArray := prog_1_method_32_code
def yX6_kinds : MethodName := ⟨RX6, "kinds", "(I)I"⟩
abbrev cX6_test : ByteArray := prog_1_method_33_code
def yX6_test : MethodName := ⟨RX6, "test", "(I)I"⟩
abbrev cX6_duel : ByteArray := prog_1_method_34_code
def yX6_duel : MethodName := ⟨RX6, "duel", "(I)I"⟩
abbrev cX6_odds : ByteArray := prog_1_method_35_code
def yX6_odds : MethodName := ⟨RX6, "odds", "(II)I"⟩
abbrev cX6_mid : ByteArray := prog_1_method_36_code
def yX6_mid : MethodName := ⟨RX6, "mid", "(I)I"⟩
abbrev cX6_lots : ByteArray := prog_1_method_37_code
def yX6_lots : MethodName := ⟨RX6, "lots", "(II)I"⟩
abbrev cX6_asked : ByteArray := prog_1_method_38_code
def yX6_asked : MethodName := ⟨RX6, "asked", "()I"⟩
abbrev cX6_upper : ByteArray := prog_1_method_39_code
def yX6_upper : MethodName := ⟨RX6, "upper", "()J"⟩
abbrev cX6_lower : ByteArray := prog_1_method_40_code
def yX6_lower : MethodName := ⟨RX6, "lower", "()J"⟩
abbrev cX6_count : ByteArray := prog_1_method_41_code
def yX6_count : MethodName := ⟨RX6, "count", "(I)I"⟩
abbrev cX6_digest : ByteArray := prog_1_method_44_code
def yX6_digest : MethodName := ⟨RX6, "digest", "()J"⟩
abbrev cX6_tell : ByteArray := prog_1_method_45_code
def yX6_tell : MethodName := ⟨RX6, "tell", "(I)I"⟩
abbrev cX6_found : ByteArray := prog_1_method_46_code
def yX6_found : MethodName := ⟨RX6, "found", "(I)I"⟩
abbrev cX6_made : ByteArray := prog_1_method_47_code
def yX6_made : MethodName := ⟨RX6, "made", "(LLawRigging$Shelf;II)I"⟩
abbrev cX6_refusalOfMissing : ByteArray := prog_1_method_48_code
def yX6_refusalOfMissing : MethodName := ⟨RX6, "refusalOfMissing", "(LLawRigging$Shelf;I)I"⟩
abbrev cX6_refusalOfPlace : ByteArray := prog_1_method_49_code
def yX6_refusalOfPlace : MethodName := ⟨RX6, "refusalOfPlace", "(LLawRigging$Shelf;II)I"⟩
abbrev cX6_refusalOfFast : ByteArray := prog_1_method_50_code
def yX6_refusalOfFast : MethodName := ⟨RX6, "refusalOfFast", "(I)I"⟩
abbrev cX6_refusalOfHaul : ByteArray := prog_1_method_51_code
def yX6_refusalOfHaul : MethodName := ⟨RX6, "refusalOfHaul", "(II)I"⟩
abbrev cX6_done : ByteArray := prog_1_method_52_code
def yX6_done : MethodName := ⟨RX6, "done", "(JI)I"⟩
abbrev cX6_detail : ByteArray := prog_1_method_53_code
def yX6_detail : MethodName := ⟨RX6, "detail", "(II)I"⟩
abbrev cX6_firstParted : ByteArray := prog_1_method_54_code
def yX6_firstParted : MethodName := ⟨RX6, "firstParted", "(JJ)I"⟩
abbrev cX6_canFall : ByteArray := prog_1_method_55_code
def yX6_canFall : MethodName := ⟨RX6, "canFall", "(I)Z"⟩
abbrev cX6_roomiest : ByteArray := prog_1_method_56_code
def yX6_roomiest : MethodName := ⟨RX6, "roomiest", "(I)I"⟩
abbrev cX6_refusalOfPairs : ByteArray := prog_1_method_57_code
def yX6_refusalOfPairs : MethodName := ⟨RX6, "refusalOfPairs", "(I)I"⟩
abbrev cX6_kindsThatFit : ByteArray := prog_1_method_58_code
def yX6_kindsThatFit : MethodName := ⟨RX6, "kindsThatFit", "(I)I"⟩
abbrev cX6_greatestPart : ByteArray := prog_1_method_59_code
def yX6_greatestPart : MethodName := ⟨RX6, "greatestPart", "(II)I"⟩
abbrev cX6_blow : ByteArray := prog_1_method_60_code
def yX6_blow : MethodName := ⟨RX6, "blow", "(II)I"⟩
abbrev cX6_tellPart : ByteArray := prog_1_method_61_code
def yX6_tellPart : MethodName := ⟨RX6, "tellPart", "(JJ)I"⟩
abbrev cX6_greatestDivisor : ByteArray := prog_1_method_62_code
def yX6_greatestDivisor : MethodName := ⟨RX6, "greatestDivisor", "(JJ)J"⟩
abbrev cX6_power : ByteArray := prog_1_method_63_code
def yX6_power : MethodName := ⟨RX6, "power", "(II)J"⟩
abbrev cX6_isOf : ByteArray := prog_1_method_64_code
def yX6_isOf : MethodName := ⟨RX6, "isOf", "(II)Z"⟩
abbrev cX6_passed : ByteArray := prog_1_method_65_code
def yX6_passed : MethodName := ⟨RX6, "passed", "(II)I"⟩
def RX7 : String := "LawRiggingModel"
def TX7 : u_T := fun k => match k with
  | _ => ("", "", "", false)
def tyX7 : Nat → FieldType := fun k => match k with
  | _ => .int
theorem nmX7 : ∀ a, a < 0 → ∀ b, b < 0 → a ≠ b → (TX7 a).2.1 ≠ (TX7 b).2.1 := by decide +kernel
theorem tyX7_ok : ∀ k, k < 0 → parseFieldDescriptor (TX7 k).2.2.1 = some (tyX7 k) := by decide +kernel
def RJ6 : String := "java/lang/Integer"
def TJ6 : u_T := fun k => match k with
  | _ => ("", "", "", false)
def tyJ6 : Nat → FieldType := fun k => match k with
  | _ => .int
theorem nmJ6 : ∀ a, a < 0 → ∀ b, b < 0 → a ≠ b → (TJ6 a).2.1 ≠ (TJ6 b).2.1 := by decide +kernel
theorem tyJ6_ok : ∀ k, k < 0 → parseFieldDescriptor (TJ6 k).2.2.1 = some (tyJ6 k) := by decide +kernel
abbrev cJ6_numberOfTrailingZeros_0f7a4 : ByteArray := prog_10_method_48_code
def yJ6_numberOfTrailingZeros_0f7a4 : MethodName := ⟨RJ6, "numberOfTrailingZeros", "(I)I"⟩
abbrev cJ6_bitCount_0f7a4 : ByteArray := prog_10_method_49_code
def yJ6_bitCount_0f7a4 : MethodName := ⟨RJ6, "bitCount", "(I)I"⟩
def RJ9 : String := "java/lang/Math"
def TJ9 : u_T := fun k => match k with
  | _ => ("", "", "", false)
def tyJ9 : Nat → FieldType := fun k => match k with
  | _ => .int
theorem nmJ9 : ∀ a, a < 0 → ∀ b, b < 0 → a ≠ b → (TJ9 a).2.1 ≠ (TJ9 b).2.1 := by decide +kernel
theorem tyJ9_ok : ∀ k, k < 0 → parseFieldDescriptor (TJ9 k).2.2.1 = some (tyJ9 k) := by decide +kernel
abbrev cJ9_max_7cf53 : ByteArray := prog_11_method_65_code
def yJ9_max_7cf53 : MethodName := ⟨RJ9, "max", "(II)I"⟩
abbrev cJ9_min_7cf53 : ByteArray := prog_11_method_69_code
def yJ9_min_7cf53 : MethodName := ⟨RJ9, "min", "(II)I"⟩
def RL : String := "LawRiggingLaw"
abbrev cL_cell : ByteArray := method_2_code
def yL_cell : MethodName := ⟨RL, "cell", "([II)I"⟩
abbrev cL_up : ByteArray := method_3_code
def yL_up : MethodName := ⟨RL, "up", "(II)I"⟩
abbrev cL_lay : ByteArray := method_4_code
def yL_lay : MethodName := ⟨RL, "lay", "([I[I)V"⟩
abbrev cL_letter : ByteArray := method_5_code
def yL_letter : MethodName := ⟨RL, "letter", "(I)I"⟩
abbrev cL_sign : ByteArray := method_6_code
def yL_sign : MethodName := ⟨RL, "sign", "(LLawRigging;II)Z"⟩
abbrev cL_made : ByteArray := method_7_code
def yL_made : MethodName := ⟨RL, "made", "(LLawRigging;[I)Z"⟩
abbrev cL_bits : ByteArray := method_9_code
def yL_bits : MethodName := ⟨RL, "bits", "(I)I"⟩
abbrev cL_told : ByteArray := method_10_code
def yL_told : MethodName := ⟨RL, "told", "(LLawRigging;II)I"⟩
abbrev cL_law : ByteArray := code
def yL_law : MethodName := ⟨RL, "law", "([I)Z"⟩

abbrev vwCl : List vw_C := [(RX0, TX0, 4), (RX1, TX1, 5), (RX2, TX2, 9), (RX4, TX4, 4), (RX6, TX6, 12)]
/-- the tables' words that hold at every call: what a method's contract asks for -/
def lw_good : List Cond := lw_tbl.filter goodWord
theorem x_in {w : Cond} (i : Nat) (h : lw_tbl[i]? = some w) (hg : goodWord w = true) : w ∈ lw_good := List.mem_filter.mpr ⟨List.mem_of_getElem? h, hg⟩
theorem x_all {ws : List Cond} (h : ws.all (fun w => decide (w ∈ lw_tbl) && goodWord w) = true) : ∀ w ∈ ws, w ∈ lw_good := fun w hw => by
  have h1 := List.all_eq_true.mp h w hw
  simp only [Bool.and_eq_true, decide_eq_true_eq] at h1
  exact List.mem_filter.mpr h1
theorem x_goodIn (c : Cond) (h : c ∈ lw_good) : GoodIn lw_good (c :: lw_good) := fun w hw => by
  rcases List.mem_cons.mp hw with e | e
  · subst e
    exact ⟨h, good_of_word (List.mem_filter.mp h).2⟩
  · exact ⟨e, good_of_word (List.mem_filter.mp e).2⟩

theorem inX0 : ∀ w ∈ u_ws RX0 TX0 4, w ∈ lw_good := x_all (by decide +kernel)
theorem inX1 : ∀ w ∈ u_ws RX1 TX1 5, w ∈ lw_good := x_all (by decide +kernel)
theorem inX2 : ∀ w ∈ u_ws RX2 TX2 9, w ∈ lw_good := x_all (by decide +kernel)
theorem inX4 : ∀ w ∈ u_ws RX4 TX4 4, w ∈ lw_good := x_all (by decide +kernel)
theorem inX6 : ∀ w ∈ u_ws RX6 TX6 12, w ∈ lw_good := x_all (by decide +kernel)
theorem se_X6_made : Cond.selects RX6 yX6_made yX6_made ∈ lw_good := x_in 0 (by decide +kernel) (by decide +kernel)
theorem se_X6_found : Cond.selects RX6 yX6_found yX6_found ∈ lw_good := x_in 1 (by decide +kernel) (by decide +kernel)
theorem se_X6_refusalOfPlace : Cond.selects RX6 yX6_refusalOfPlace yX6_refusalOfPlace ∈ lw_good := x_in 2 (by decide +kernel) (by decide +kernel)
theorem se_X6_refusalOfMissing : Cond.selects RX6 yX6_refusalOfMissing yX6_refusalOfMissing ∈ lw_good := x_in 3 (by decide +kernel) (by decide +kernel)
theorem se_X6_tell : Cond.selects RX6 yX6_tell yX6_tell ∈ lw_good := x_in 4 (by decide +kernel) (by decide +kernel)
theorem se_X1_take : Cond.selects RX1 yX1_take yX1_take ∈ lw_good := x_in 5 (by decide +kernel) (by decide +kernel)
theorem se_X1_isMoreAhead : Cond.selects RX1 yX1_isMoreAhead yX1_isMoreAhead ∈ lw_good := x_in 6 (by decide +kernel) (by decide +kernel)
theorem se_X1_sign : Cond.selects RX1 yX1_sign yX1_sign ∈ lw_good := x_in 7 (by decide +kernel) (by decide +kernel)
theorem se_X1_readItem : Cond.selects RX1 yX1_readItem yX1_readItem ∈ lw_good := x_in 8 (by decide +kernel) (by decide +kernel)
theorem se_X1_readHead : Cond.selects RX1 yX1_readHead yX1_readHead ∈ lw_good := x_in 9 (by decide +kernel) (by decide +kernel)
theorem se_X1_figure : Cond.selects RX1 yX1_figure yX1_figure ∈ lw_good := x_in 10 (by decide +kernel) (by decide +kernel)
theorem se_X1_readAct : Cond.selects RX1 yX1_readAct yX1_readAct ∈ lw_good := x_in 11 (by decide +kernel) (by decide +kernel)
theorem se_X1_ropeSet : Cond.selects RX1 yX1_ropeSet yX1_ropeSet ∈ lw_good := x_in 12 (by decide +kernel) (by decide +kernel)
theorem se_X1_readRope : Cond.selects RX1 yX1_readRope yX1_readRope ∈ lw_good := x_in 13 (by decide +kernel) (by decide +kernel)
theorem se_X6_refusalOfHaul : Cond.selects RX6 yX6_refusalOfHaul yX6_refusalOfHaul ∈ lw_good := x_in 14 (by decide +kernel) (by decide +kernel)
theorem se_X6_refusalOfFast : Cond.selects RX6 yX6_refusalOfFast yX6_refusalOfFast ∈ lw_good := x_in 15 (by decide +kernel) (by decide +kernel)
theorem se_X2_canReach : Cond.selects RX2 yX2_canReach yX2_canReach ∈ lw_good := x_in 16 (by decide +kernel) (by decide +kernel)
theorem se_X6_done : Cond.selects RX6 yX6_done yX6_done ∈ lw_good := x_in 17 (by decide +kernel) (by decide +kernel)
theorem se_X6_canFall : Cond.selects RX6 yX6_canFall yX6_canFall ∈ lw_good := x_in 18 (by decide +kernel) (by decide +kernel)
theorem se_X6_roomiest : Cond.selects RX6 yX6_roomiest yX6_roomiest ∈ lw_good := x_in 19 (by decide +kernel) (by decide +kernel)
theorem se_X6_refusalOfPairs : Cond.selects RX6 yX6_refusalOfPairs yX6_refusalOfPairs ∈ lw_good := x_in 20 (by decide +kernel) (by decide +kernel)
theorem se_X6_kindsThatFit : Cond.selects RX6 yX6_kindsThatFit yX6_kindsThatFit ∈ lw_good := x_in 21 (by decide +kernel) (by decide +kernel)
theorem se_X6_blow : Cond.selects RX6 yX6_blow yX6_blow ∈ lw_good := x_in 22 (by decide +kernel) (by decide +kernel)
theorem se_X6_tellPart : Cond.selects RX6 yX6_tellPart yX6_tellPart ∈ lw_good := x_in 23 (by decide +kernel) (by decide +kernel)
theorem se_X6_detail : Cond.selects RX6 yX6_detail yX6_detail ∈ lw_good := x_in 24 (by decide +kernel) (by decide +kernel)
theorem ni_L : Cond.initialized RL ∈ lw_good := x_in 25 (by decide +kernel) (by decide +kernel)
theorem ni_X6 : Cond.initialized RX6 ∈ lw_good := x_in 26 (by decide +kernel) (by decide +kernel)
theorem ni_X4 : Cond.initialized RX4 ∈ lw_good := x_in 27 (by decide +kernel) (by decide +kernel)
theorem ni_J9 : Cond.initialized RJ9 ∈ lw_good := x_in 28 (by decide +kernel) (by decide +kernel)
theorem ni_X1 : Cond.initialized RX1 ∈ lw_good := x_in 29 (by decide +kernel) (by decide +kernel)
theorem ni_X0 : Cond.initialized RX0 ∈ lw_good := x_in 30 (by decide +kernel) (by decide +kernel)
theorem ni_X2 : Cond.initialized RX2 ∈ lw_good := x_in 31 (by decide +kernel) (by decide +kernel)
theorem ni_X5 : Cond.initialized RX5 ∈ lw_good := x_in 32 (by decide +kernel) (by decide +kernel)
theorem ni_J6 : Cond.initialized RJ6 ∈ lw_good := x_in 33 (by decide +kernel) (by decide +kernel)
theorem ni_X3 : Cond.initialized RX3 ∈ lw_good := x_in 34 (by decide +kernel) (by decide +kernel)
theorem cl_L_20 : Cond.classLink RL 20 RX6 ∈ lw_good := x_in 35 (by decide +kernel) (by decide +kernel)
theorem it_X6 : Cond.instantiable RX6 12 ∈ lw_good := x_in 36 (by decide +kernel) (by decide +kernel)
theorem ml_L_46 : Cond.methodLink RL 46 yX6_init ∈ lw_good := x_in 37 (by decide +kernel) (by decide +kernel)
theorem im_X6_init : Cond.instanceMethod yX6_init ∈ lw_good := x_in 38 (by decide +kernel) (by decide +kernel)
theorem co_X6_init : Cond.code yX6_init cX6_init 1 none ∈ lw_good := x_in 39 (by decide +kernel) (by decide +kernel)
theorem ml_X6_1 : Cond.methodLink RX6 1 objectInit ∈ lw_good := x_in 40 (by decide +kernel) (by decide +kernel)
theorem cl_X6_7 : Cond.classLink RX6 7 RX4 ∈ lw_good := x_in 43 (by decide +kernel) (by decide +kernel)
theorem it_X4 : Cond.instantiable RX4 4 ∈ lw_good := x_in 44 (by decide +kernel) (by decide +kernel)
theorem ml_X6_11 : Cond.methodLink RX6 11 yX4_init ∈ lw_good := x_in 45 (by decide +kernel) (by decide +kernel)
theorem im_X4_init : Cond.instanceMethod yX4_init ∈ lw_good := x_in 46 (by decide +kernel) (by decide +kernel)
theorem co_X4_init : Cond.code yX4_init cX4_init 5 none ∈ lw_good := x_in 47 (by decide +kernel) (by decide +kernel)
theorem ml_X4_3 : Cond.methodLink RX4 3 objectInit ∈ lw_good := x_in 48 (by decide +kernel) (by decide +kernel)
theorem ml_X4_18 : Cond.methodLink RX4 18 yJ9_max_7cf53 ∈ lw_good := x_in 49 (by decide +kernel) (by decide +kernel)
theorem sm_J9_max_7cf53 : Cond.static yJ9_max_7cf53 ∈ lw_good := x_in 50 (by decide +kernel) (by decide +kernel)
theorem co_J9_max_7cf53 : Cond.code yJ9_max_7cf53 cJ9_max_7cf53 2 (some .int) ∈ lw_good := x_in 51 (by decide +kernel) (by decide +kernel)
theorem cl_X4_24 : Cond.classLink RX4 24 "[[I" ∈ lw_good := x_in 52 (by decide +kernel) (by decide +kernel)
theorem fl_X4_9 : Cond.fieldLink RX4 9 "LawRigging$Shelf" "most" "I" ∈ lw_good := x_in 54 (by decide +kernel) (by decide +kernel)
theorem fl_X6_328 : Cond.fieldLink RX6 328 "LawRigging$Shelf" "most" "I" ∈ lw_good := x_in 55 (by decide +kernel) (by decide +kernel)
theorem fl_X4_15 : Cond.fieldLink RX4 15 "LawRigging$Shelf" "blank" "I" ∈ lw_good := x_in 56 (by decide +kernel) (by decide +kernel)
theorem fl_X4_26 : Cond.fieldLink RX4 26 "LawRigging$Shelf" "places" "[[I" ∈ lw_good := x_in 57 (by decide +kernel) (by decide +kernel)
theorem fl_X4_29 : Cond.fieldLink RX4 29 "LawRigging$Shelf" "sizes" "[I" ∈ lw_good := x_in 58 (by decide +kernel) (by decide +kernel)
theorem ac_int : Cond.arrayClass .int ∈ lw_good := x_in 68 (by decide +kernel) (by decide +kernel)
theorem cl_X6_21 : Cond.classLink RX6 21 RX1 ∈ lw_good := x_in 69 (by decide +kernel) (by decide +kernel)
theorem it_X1 : Cond.instantiable RX1 5 ∈ lw_good := x_in 70 (by decide +kernel) (by decide +kernel)
theorem im_X1_init : Cond.instanceMethod yX1_init ∈ lw_good := x_in 72 (by decide +kernel) (by decide +kernel)
theorem co_X1_init : Cond.code yX1_init cX1_init 1 none ∈ lw_good := x_in 73 (by decide +kernel) (by decide +kernel)
theorem ml_X1_3 : Cond.methodLink RX1 3 objectInit ∈ lw_good := x_in 74 (by decide +kernel) (by decide +kernel)
theorem fl_X1_9 : Cond.fieldLink RX1 9 "LawRigging$Reader" "signs" "[I" ∈ lw_good := x_in 75 (by decide +kernel) (by decide +kernel)
theorem fl_X1_15 : Cond.fieldLink RX1 15 "LawRigging$Reader" "size" "I" ∈ lw_good := x_in 76 (by decide +kernel) (by decide +kernel)
theorem fl_X1_19 : Cond.fieldLink RX1 19 "LawRigging$Reader" "place" "I" ∈ lw_good := x_in 77 (by decide +kernel) (by decide +kernel)
theorem fl_X1_22 : Cond.fieldLink RX1 22 "LawRigging$Reader" "firstFault" "I" ∈ lw_good := x_in 78 (by decide +kernel) (by decide +kernel)
theorem fl_X1_25 : Cond.fieldLink RX1 25 "LawRigging$Reader" "headRead" "Z" ∈ lw_good := x_in 79 (by decide +kernel) (by decide +kernel)
theorem cl_X6_28 : Cond.classLink RX6 28 RX0 ∈ lw_good := x_in 91 (by decide +kernel) (by decide +kernel)
theorem it_X0 : Cond.instantiable RX0 4 ∈ lw_good := x_in 92 (by decide +kernel) (by decide +kernel)
theorem ml_X6_30 : Cond.methodLink RX6 30 yX0_init ∈ lw_good := x_in 93 (by decide +kernel) (by decide +kernel)
theorem im_X0_init : Cond.instanceMethod yX0_init ∈ lw_good := x_in 94 (by decide +kernel) (by decide +kernel)
theorem co_X0_init : Cond.code yX0_init cX0_init 2 none ∈ lw_good := x_in 95 (by decide +kernel) (by decide +kernel)
theorem ml_X0_3 : Cond.methodLink RX0 3 objectInit ∈ lw_good := x_in 96 (by decide +kernel) (by decide +kernel)
theorem cl_X0_19 : Cond.classLink RX0 19 "[[J" ∈ lw_good := x_in 97 (by decide +kernel) (by decide +kernel)
theorem fl_X0_9 : Cond.fieldLink RX0 9 "LawRigging$Log" "states" "[J" ∈ lw_good := x_in 99 (by decide +kernel) (by decide +kernel)
theorem fl_X0_15 : Cond.fieldLink RX0 15 "LawRigging$Log" "size" "I" ∈ lw_good := x_in 100 (by decide +kernel) (by decide +kernel)
theorem fl_X0_21 : Cond.fieldLink RX0 21 "LawRigging$Log" "keptStates" "[[J" ∈ lw_good := x_in 101 (by decide +kernel) (by decide +kernel)
theorem fl_X0_24 : Cond.fieldLink RX0 24 "LawRigging$Log" "keptSizes" "[I" ∈ lw_good := x_in 102 (by decide +kernel) (by decide +kernel)
theorem ac_long : Cond.arrayClass .long ∈ lw_good := x_in 112 (by decide +kernel) (by decide +kernel)
theorem cl_X6_42 : Cond.classLink RX6 42 RX2 ∈ lw_good := x_in 113 (by decide +kernel) (by decide +kernel)
theorem it_X2 : Cond.instantiable RX2 9 ∈ lw_good := x_in 114 (by decide +kernel) (by decide +kernel)
theorem im_X2_init : Cond.instanceMethod yX2_init ∈ lw_good := x_in 116 (by decide +kernel) (by decide +kernel)
theorem co_X2_init : Cond.code yX2_init cX2_init 1 none ∈ lw_good := x_in 117 (by decide +kernel) (by decide +kernel)
theorem ml_X2_3 : Cond.methodLink RX2 3 objectInit ∈ lw_good := x_in 118 (by decide +kernel) (by decide +kernel)
theorem fl_X2_9 : Cond.fieldLink RX2 9 "LawRigging$Rig" "ropes" "I" ∈ lw_good := x_in 119 (by decide +kernel) (by decide +kernel)
theorem fl_X1_73 : Cond.fieldLink RX1 73 "LawRigging$Rig" "ropes" "I" ∈ lw_good := x_in 120 (by decide +kernel) (by decide +kernel)
theorem fl_X3_71 : Cond.fieldLink RX3 71 "LawRigging$Rig" "ropes" "I" ∈ lw_good := x_in 121 (by decide +kernel) (by decide +kernel)
theorem fl_X6_128 : Cond.fieldLink RX6 128 "LawRigging$Rig" "ropes" "I" ∈ lw_good := x_in 122 (by decide +kernel) (by decide +kernel)
theorem fl_X2_15 : Cond.fieldLink RX2 15 "LawRigging$Rig" "acts" "I" ∈ lw_good := x_in 123 (by decide +kernel) (by decide +kernel)
theorem fl_X1_46 : Cond.fieldLink RX1 46 "LawRigging$Rig" "acts" "I" ∈ lw_good := x_in 124 (by decide +kernel) (by decide +kernel)
theorem fl_X6_302 : Cond.fieldLink RX6 302 "LawRigging$Rig" "acts" "I" ∈ lw_good := x_in 125 (by decide +kernel) (by decide +kernel)
theorem fl_X2_18 : Cond.fieldLink RX2 18 "LawRigging$Rig" "start" "J" ∈ lw_good := x_in 126 (by decide +kernel) (by decide +kernel)
theorem fl_X1_86 : Cond.fieldLink RX1 86 "LawRigging$Rig" "start" "J" ∈ lw_good := x_in 127 (by decide +kernel) (by decide +kernel)
theorem fl_X6_121 : Cond.fieldLink RX6 121 "LawRigging$Rig" "start" "J" ∈ lw_good := x_in 128 (by decide +kernel) (by decide +kernel)
theorem fl_X2_22 : Cond.fieldLink RX2 22 "LawRigging$Rig" "reached" "I" ∈ lw_good := x_in 129 (by decide +kernel) (by decide +kernel)
theorem fl_X6_247 : Cond.fieldLink RX6 247 "LawRigging$Rig" "reached" "I" ∈ lw_good := x_in 130 (by decide +kernel) (by decide +kernel)
theorem fl_X2_25 : Cond.fieldLink RX2 25 "LawRigging$Rig" "ropeKinds" "[I" ∈ lw_good := x_in 131 (by decide +kernel) (by decide +kernel)
theorem fl_X2_29 : Cond.fieldLink RX2 29 "LawRigging$Rig" "strengths" "[I" ∈ lw_good := x_in 132 (by decide +kernel) (by decide +kernel)
theorem fl_X2_32 : Cond.fieldLink RX2 32 "LawRigging$Rig" "moved" "[I" ∈ lw_good := x_in 133 (by decide +kernel) (by decide +kernel)
theorem fl_X2_35 : Cond.fieldLink RX2 35 "LawRigging$Rig" "needs" "[I" ∈ lw_good := x_in 134 (by decide +kernel) (by decide +kernel)
theorem fl_X2_38 : Cond.fieldLink RX2 38 "LawRigging$Rig" "forbids" "[I" ∈ lw_good := x_in 135 (by decide +kernel) (by decide +kernel)
theorem fl_X6_14 : Cond.fieldLink RX6 14 "LawRigging" "rows" "LLawRigging$Shelf;" ∈ lw_good := x_in 155 (by decide +kernel) (by decide +kernel)
theorem fl_X6_18 : Cond.fieldLink RX6 18 "LawRigging" "texts" "LLawRigging$Shelf;" ∈ lw_good := x_in 156 (by decide +kernel) (by decide +kernel)
theorem fl_X6_24 : Cond.fieldLink RX6 24 "LawRigging" "reader" "LLawRigging$Reader;" ∈ lw_good := x_in 157 (by decide +kernel) (by decide +kernel)
theorem fl_X6_31 : Cond.fieldLink RX6 31 "LawRigging" "log" "LLawRigging$Log;" ∈ lw_good := x_in 158 (by decide +kernel) (by decide +kernel)
theorem fl_X6_35 : Cond.fieldLink RX6 35 "LawRigging" "triedDeeds" "[I" ∈ lw_good := x_in 159 (by decide +kernel) (by decide +kernel)
theorem fl_X6_39 : Cond.fieldLink RX6 39 "LawRigging" "findingCounts" "[I" ∈ lw_good := x_in 160 (by decide +kernel) (by decide +kernel)
theorem fl_X6_45 : Cond.fieldLink RX6 45 "LawRigging" "rig" "LLawRigging$Rig;" ∈ lw_good := x_in 161 (by decide +kernel) (by decide +kernel)
theorem fl_X6_49 : Cond.fieldLink RX6 49 "LawRigging" "draft" "LLawRigging$Rig;" ∈ lw_good := x_in 162 (by decide +kernel) (by decide +kernel)
theorem fl_X6_52 : Cond.fieldLink RX6 52 "LawRigging" "latestFinding" "I" ∈ lw_good := x_in 163 (by decide +kernel) (by decide +kernel)
theorem fl_X6_56 : Cond.fieldLink RX6 56 "LawRigging" "latestAsked" "I" ∈ lw_good := x_in 164 (by decide +kernel) (by decide +kernel)
theorem fl_X6_59 : Cond.fieldLink RX6 59 "LawRigging" "upperTold" "J" ∈ lw_good := x_in 165 (by decide +kernel) (by decide +kernel)
theorem fl_X6_63 : Cond.fieldLink RX6 63 "LawRigging" "lowerTold" "J" ∈ lw_good := x_in 166 (by decide +kernel) (by decide +kernel)
theorem ml_L_111 : Cond.methodLink RL 111 yX6_row ∈ lw_good := x_in 192 (by decide +kernel) (by decide +kernel)
theorem im_X6_row : Cond.instanceMethod yX6_row ∈ lw_good := x_in 193 (by decide +kernel) (by decide +kernel)
theorem se_X6_row : Cond.selects RX6 yX6_row yX6_row ∈ lw_good := x_in 194 (by decide +kernel) (by decide +kernel)
theorem co_X6_row : Cond.code yX6_row cX6_row 3 (some .int) ∈ lw_good := x_in 195 (by decide +kernel) (by decide +kernel)
theorem ml_X6_66 : Cond.methodLink RX6 66 yX6_made ∈ lw_good := x_in 196 (by decide +kernel) (by decide +kernel)
theorem im_X6_made : Cond.instanceMethod yX6_made ∈ lw_good := x_in 198 (by decide +kernel) (by decide +kernel)
theorem co_X6_made : Cond.code yX6_made cX6_made 4 (some .int) ∈ lw_good := x_in 199 (by decide +kernel) (by decide +kernel)
theorem ml_X6_92 : Cond.methodLink RX6 92 yX4_isNumber ∈ lw_good := x_in 200 (by decide +kernel) (by decide +kernel)
theorem im_X4_isNumber : Cond.instanceMethod yX4_isNumber ∈ lw_good := x_in 201 (by decide +kernel) (by decide +kernel)
theorem se_X4_isNumber : Cond.selects RX4 yX4_isNumber yX4_isNumber ∈ lw_good := x_in 202 (by decide +kernel) (by decide +kernel)
theorem co_X4_isNumber : Cond.code yX4_isNumber cX4_isNumber 2 (some .boolean) ∈ lw_good := x_in 203 (by decide +kernel) (by decide +kernel)
theorem ml_X6_96 : Cond.methodLink RX6 96 yX6_found ∈ lw_good := x_in 204 (by decide +kernel) (by decide +kernel)
theorem im_X6_found : Cond.instanceMethod yX6_found ∈ lw_good := x_in 206 (by decide +kernel) (by decide +kernel)
theorem co_X6_found : Cond.code yX6_found cX6_found 2 (some .int) ∈ lw_good := x_in 207 (by decide +kernel) (by decide +kernel)
theorem ml_X6_262 : Cond.methodLink RX6 262 yX4_make ∈ lw_good := x_in 208 (by decide +kernel) (by decide +kernel)
theorem im_X4_make : Cond.instanceMethod yX4_make ∈ lw_good := x_in 209 (by decide +kernel) (by decide +kernel)
theorem se_X4_make : Cond.selects RX4 yX4_make yX4_make ∈ lw_good := x_in 210 (by decide +kernel) (by decide +kernel)
theorem co_X4_make : Cond.code yX4_make cX4_make 4 none ∈ lw_good := x_in 211 (by decide +kernel) (by decide +kernel)
theorem ml_X4_37 : Cond.methodLink RX4 37 yX4_isNumber ∈ lw_good := x_in 212 (by decide +kernel) (by decide +kernel)
theorem ml_L_114 : Cond.methodLink RL 114 yX6_lay ∈ lw_good := x_in 213 (by decide +kernel) (by decide +kernel)
theorem im_X6_lay : Cond.instanceMethod yX6_lay ∈ lw_good := x_in 214 (by decide +kernel) (by decide +kernel)
theorem se_X6_lay : Cond.selects RX6 yX6_lay yX6_lay ∈ lw_good := x_in 215 (by decide +kernel) (by decide +kernel)
theorem co_X6_lay : Cond.code yX6_lay cX6_lay 6 (some .int) ∈ lw_good := x_in 216 (by decide +kernel) (by decide +kernel)
theorem ml_X6_70 : Cond.methodLink RX6 70 yX6_refusalOfPlace ∈ lw_good := x_in 217 (by decide +kernel) (by decide +kernel)
theorem im_X6_refusalOfPlace : Cond.instanceMethod yX6_refusalOfPlace ∈ lw_good := x_in 219 (by decide +kernel) (by decide +kernel)
theorem co_X6_refusalOfPlace : Cond.code yX6_refusalOfPlace cX6_refusalOfPlace 5 (some .int) ∈ lw_good := x_in 220 (by decide +kernel) (by decide +kernel)
theorem ml_X6_84 : Cond.methodLink RX6 84 yX6_refusalOfMissing ∈ lw_good := x_in 221 (by decide +kernel) (by decide +kernel)
theorem im_X6_refusalOfMissing : Cond.instanceMethod yX6_refusalOfMissing ∈ lw_good := x_in 223 (by decide +kernel) (by decide +kernel)
theorem co_X6_refusalOfMissing : Cond.code yX6_refusalOfMissing cX6_refusalOfMissing 3 (some .int) ∈ lw_good := x_in 224 (by decide +kernel) (by decide +kernel)
theorem ml_X6_99 : Cond.methodLink RX6 99 yX4_isThere ∈ lw_good := x_in 225 (by decide +kernel) (by decide +kernel)
theorem im_X4_isThere : Cond.instanceMethod yX4_isThere ∈ lw_good := x_in 226 (by decide +kernel) (by decide +kernel)
theorem se_X4_isThere : Cond.selects RX4 yX4_isThere yX4_isThere ∈ lw_good := x_in 227 (by decide +kernel) (by decide +kernel)
theorem co_X4_isThere : Cond.code yX4_isThere cX4_isThere 2 (some .boolean) ∈ lw_good := x_in 228 (by decide +kernel) (by decide +kernel)
theorem ml_X4_33 : Cond.methodLink RX4 33 yX4_size ∈ lw_good := x_in 229 (by decide +kernel) (by decide +kernel)
theorem im_X4_size : Cond.instanceMethod yX4_size ∈ lw_good := x_in 230 (by decide +kernel) (by decide +kernel)
theorem se_X4_size : Cond.selects RX4 yX4_size yX4_size ∈ lw_good := x_in 231 (by decide +kernel) (by decide +kernel)
theorem co_X4_size : Cond.code yX4_size cX4_size 2 (some .int) ∈ lw_good := x_in 232 (by decide +kernel) (by decide +kernel)
theorem ml_X6_331 : Cond.methodLink RX6 331 yX4_hasPlace ∈ lw_good := x_in 233 (by decide +kernel) (by decide +kernel)
theorem im_X4_hasPlace : Cond.instanceMethod yX4_hasPlace ∈ lw_good := x_in 234 (by decide +kernel) (by decide +kernel)
theorem se_X4_hasPlace : Cond.selects RX4 yX4_hasPlace yX4_hasPlace ∈ lw_good := x_in 235 (by decide +kernel) (by decide +kernel)
theorem co_X4_hasPlace : Cond.code yX4_hasPlace cX4_hasPlace 3 (some .boolean) ∈ lw_good := x_in 236 (by decide +kernel) (by decide +kernel)
theorem ml_X6_73 : Cond.methodLink RX6 73 yX4_get ∈ lw_good := x_in 237 (by decide +kernel) (by decide +kernel)
theorem im_X4_get : Cond.instanceMethod yX4_get ∈ lw_good := x_in 238 (by decide +kernel) (by decide +kernel)
theorem se_X4_get : Cond.selects RX4 yX4_get yX4_get ∈ lw_good := x_in 239 (by decide +kernel) (by decide +kernel)
theorem co_X4_get : Cond.code yX4_get cX4_get 3 (some .int) ∈ lw_good := x_in 240 (by decide +kernel) (by decide +kernel)
theorem ml_X4_41 : Cond.methodLink RX4 41 yX4_hasPlace ∈ lw_good := x_in 241 (by decide +kernel) (by decide +kernel)
theorem ml_X6_77 : Cond.methodLink RX6 77 yX4_set ∈ lw_good := x_in 242 (by decide +kernel) (by decide +kernel)
theorem im_X4_set : Cond.instanceMethod yX4_set ∈ lw_good := x_in 243 (by decide +kernel) (by decide +kernel)
theorem se_X4_set : Cond.selects RX4 yX4_set yX4_set ∈ lw_good := x_in 244 (by decide +kernel) (by decide +kernel)
theorem co_X4_set : Cond.code yX4_set cX4_set 4 none ∈ lw_good := x_in 245 (by decide +kernel) (by decide +kernel)
theorem ml_X6_80 : Cond.methodLink RX6 80 yX6_tell ∈ lw_good := x_in 246 (by decide +kernel) (by decide +kernel)
theorem im_X6_tell : Cond.instanceMethod yX6_tell ∈ lw_good := x_in 248 (by decide +kernel) (by decide +kernel)
theorem co_X6_tell : Cond.code yX6_tell cX6_tell 2 (some .int) ∈ lw_good := x_in 249 (by decide +kernel) (by decide +kernel)
theorem ml_L_87 : Cond.methodLink RL 87 yX6_at ∈ lw_good := x_in 250 (by decide +kernel) (by decide +kernel)
theorem im_X6_at : Cond.instanceMethod yX6_at ∈ lw_good := x_in 251 (by decide +kernel) (by decide +kernel)
theorem se_X6_at : Cond.selects RX6 yX6_at yX6_at ∈ lw_good := x_in 252 (by decide +kernel) (by decide +kernel)
theorem co_X6_at : Cond.code yX6_at cX6_at 4 (some .int) ∈ lw_good := x_in 253 (by decide +kernel) (by decide +kernel)
theorem ml_L_36 : Cond.methodLink RL 36 yX6_court ∈ lw_good := x_in 254 (by decide +kernel) (by decide +kernel)
theorem im_X6_court : Cond.instanceMethod yX6_court ∈ lw_good := x_in 255 (by decide +kernel) (by decide +kernel)
theorem se_X6_court : Cond.selects RX6 yX6_court yX6_court ∈ lw_good := x_in 256 (by decide +kernel) (by decide +kernel)
theorem co_X6_court : Cond.code yX6_court cX6_court 4 (some .int) ∈ lw_good := x_in 257 (by decide +kernel) (by decide +kernel)
theorem ml_X6_117 : Cond.methodLink RX6 117 yX1_read ∈ lw_good := x_in 258 (by decide +kernel) (by decide +kernel)
theorem im_X1_read : Cond.instanceMethod yX1_read ∈ lw_good := x_in 259 (by decide +kernel) (by decide +kernel)
theorem se_X1_read : Cond.selects RX1 yX1_read yX1_read ∈ lw_good := x_in 260 (by decide +kernel) (by decide +kernel)
theorem co_X1_read : Cond.code yX1_read cX1_read 5 (some .int) ∈ lw_good := x_in 261 (by decide +kernel) (by decide +kernel)
theorem ml_X1_29 : Cond.methodLink RX1 29 yX1_take ∈ lw_good := x_in 262 (by decide +kernel) (by decide +kernel)
theorem im_X1_take : Cond.instanceMethod yX1_take ∈ lw_good := x_in 264 (by decide +kernel) (by decide +kernel)
theorem co_X1_take : Cond.code yX1_take cX1_take 4 none ∈ lw_good := x_in 265 (by decide +kernel) (by decide +kernel)
theorem ml_X1_49 : Cond.methodLink RX1 49 yX4_size ∈ lw_good := x_in 266 (by decide +kernel) (by decide +kernel)
theorem ml_X1_54 : Cond.methodLink RX1 54 yJ9_min_7cf53 ∈ lw_good := x_in 267 (by decide +kernel) (by decide +kernel)
theorem sm_J9_min_7cf53 : Cond.static yJ9_min_7cf53 ∈ lw_good := x_in 268 (by decide +kernel) (by decide +kernel)
theorem co_J9_min_7cf53 : Cond.code yJ9_min_7cf53 cJ9_min_7cf53 2 (some .int) ∈ lw_good := x_in 269 (by decide +kernel) (by decide +kernel)
theorem ml_X1_60 : Cond.methodLink RX1 60 yX4_get ∈ lw_good := x_in 270 (by decide +kernel) (by decide +kernel)
theorem ml_X1_33 : Cond.methodLink RX1 33 yX2_clear ∈ lw_good := x_in 271 (by decide +kernel) (by decide +kernel)
theorem im_X2_clear : Cond.instanceMethod yX2_clear ∈ lw_good := x_in 272 (by decide +kernel) (by decide +kernel)
theorem se_X2_clear : Cond.selects RX2 yX2_clear yX2_clear ∈ lw_good := x_in 273 (by decide +kernel) (by decide +kernel)
theorem co_X2_clear : Cond.code yX2_clear cX2_clear 1 none ∈ lw_good := x_in 274 (by decide +kernel) (by decide +kernel)
theorem ml_X1_38 : Cond.methodLink RX1 38 yX1_isMoreAhead ∈ lw_good := x_in 275 (by decide +kernel) (by decide +kernel)
theorem im_X1_isMoreAhead : Cond.instanceMethod yX1_isMoreAhead ∈ lw_good := x_in 277 (by decide +kernel) (by decide +kernel)
theorem co_X1_isMoreAhead : Cond.code yX1_isMoreAhead cX1_isMoreAhead 1 (some .boolean) ∈ lw_good := x_in 278 (by decide +kernel) (by decide +kernel)
theorem ml_X1_63 : Cond.methodLink RX1 63 yX1_sign ∈ lw_good := x_in 279 (by decide +kernel) (by decide +kernel)
theorem im_X1_sign : Cond.instanceMethod yX1_sign ∈ lw_good := x_in 281 (by decide +kernel) (by decide +kernel)
theorem co_X1_sign : Cond.code yX1_sign cX1_sign 1 (some .int) ∈ lw_good := x_in 282 (by decide +kernel) (by decide +kernel)
theorem ml_X1_42 : Cond.methodLink RX1 42 yX1_readItem ∈ lw_good := x_in 283 (by decide +kernel) (by decide +kernel)
theorem im_X1_readItem : Cond.instanceMethod yX1_readItem ∈ lw_good := x_in 285 (by decide +kernel) (by decide +kernel)
theorem co_X1_readItem : Cond.code yX1_readItem cX1_readItem 4 none ∈ lw_good := x_in 286 (by decide +kernel) (by decide +kernel)
theorem ml_X1_67 : Cond.methodLink RX1 67 yX1_kindOfLetter ∈ lw_good := x_in 287 (by decide +kernel) (by decide +kernel)
theorem sm_X1_kindOfLetter : Cond.static yX1_kindOfLetter ∈ lw_good := x_in 288 (by decide +kernel) (by decide +kernel)
theorem co_X1_kindOfLetter : Cond.code yX1_kindOfLetter cX1_kindOfLetter 1 (some .int) ∈ lw_good := x_in 289 (by decide +kernel) (by decide +kernel)
theorem ml_X1_70 : Cond.methodLink RX1 70 yX1_readHead ∈ lw_good := x_in 290 (by decide +kernel) (by decide +kernel)
theorem im_X1_readHead : Cond.instanceMethod yX1_readHead ∈ lw_good := x_in 292 (by decide +kernel) (by decide +kernel)
theorem co_X1_readHead : Cond.code yX1_readHead cX1_readHead 3 none ∈ lw_good := x_in 293 (by decide +kernel) (by decide +kernel)
theorem ml_X1_83 : Cond.methodLink RX1 83 yX1_figure ∈ lw_good := x_in 294 (by decide +kernel) (by decide +kernel)
theorem im_X1_figure : Cond.instanceMethod yX1_figure ∈ lw_good := x_in 296 (by decide +kernel) (by decide +kernel)
theorem co_X1_figure : Cond.code yX1_figure cX1_figure 4 (some .int) ∈ lw_good := x_in 297 (by decide +kernel) (by decide +kernel)
theorem ml_X1_90 : Cond.methodLink RX1 90 yX5_afterFrost ∈ lw_good := x_in 298 (by decide +kernel) (by decide +kernel)
theorem sm_X5_afterFrost : Cond.static yX5_afterFrost ∈ lw_good := x_in 299 (by decide +kernel) (by decide +kernel)
theorem co_X5_afterFrost : Cond.code yX5_afterFrost cX5_afterFrost 3 (some .long) ∈ lw_good := x_in 300 (by decide +kernel) (by decide +kernel)
theorem kl_X5_41 : Cond.constantLong RX5 41 (-68719476737) ∈ lw_good := x_in 301 (by decide +kernel) (by decide +kernel)
theorem ml_X1_76 : Cond.methodLink RX1 76 yX1_readAct ∈ lw_good := x_in 302 (by decide +kernel) (by decide +kernel)
theorem im_X1_readAct : Cond.instanceMethod yX1_readAct ∈ lw_good := x_in 304 (by decide +kernel) (by decide +kernel)
theorem co_X1_readAct : Cond.code yX1_readAct cX1_readAct 4 none ∈ lw_good := x_in 305 (by decide +kernel) (by decide +kernel)
theorem ml_X1_100 : Cond.methodLink RX1 100 yX1_ropeSet ∈ lw_good := x_in 306 (by decide +kernel) (by decide +kernel)
theorem im_X1_ropeSet : Cond.instanceMethod yX1_ropeSet ∈ lw_good := x_in 308 (by decide +kernel) (by decide +kernel)
theorem co_X1_ropeSet : Cond.code yX1_ropeSet cX1_ropeSet 4 (some .int) ∈ lw_good := x_in 309 (by decide +kernel) (by decide +kernel)
theorem ml_X1_103 : Cond.methodLink RX1 103 yX2_addAct ∈ lw_good := x_in 310 (by decide +kernel) (by decide +kernel)
theorem im_X2_addAct : Cond.instanceMethod yX2_addAct ∈ lw_good := x_in 311 (by decide +kernel) (by decide +kernel)
theorem se_X2_addAct : Cond.selects RX2 yX2_addAct yX2_addAct ∈ lw_good := x_in 312 (by decide +kernel) (by decide +kernel)
theorem co_X2_addAct : Cond.code yX2_addAct cX2_addAct 3 none ∈ lw_good := x_in 313 (by decide +kernel) (by decide +kernel)
theorem ml_X1_79 : Cond.methodLink RX1 79 yX1_readRope ∈ lw_good := x_in 314 (by decide +kernel) (by decide +kernel)
theorem im_X1_readRope : Cond.instanceMethod yX1_readRope ∈ lw_good := x_in 316 (by decide +kernel) (by decide +kernel)
theorem co_X1_readRope : Cond.code yX1_readRope cX1_readRope 6 none ∈ lw_good := x_in 317 (by decide +kernel) (by decide +kernel)
theorem ml_X1_96 : Cond.methodLink RX1 96 yX2_addRope ∈ lw_good := x_in 318 (by decide +kernel) (by decide +kernel)
theorem im_X2_addRope : Cond.instanceMethod yX2_addRope ∈ lw_good := x_in 319 (by decide +kernel) (by decide +kernel)
theorem se_X2_addRope : Cond.selects RX2 yX2_addRope yX2_addRope ∈ lw_good := x_in 320 (by decide +kernel) (by decide +kernel)
theorem co_X2_addRope : Cond.code yX2_addRope cX2_addRope 5 none ∈ lw_good := x_in 321 (by decide +kernel) (by decide +kernel)
theorem ml_X2_41 : Cond.methodLink RX2 41 yX5_afterStrain ∈ lw_good := x_in 322 (by decide +kernel) (by decide +kernel)
theorem sm_X5_afterStrain : Cond.static yX5_afterStrain ∈ lw_good := x_in 323 (by decide +kernel) (by decide +kernel)
theorem co_X5_afterStrain : Cond.code yX5_afterStrain cX5_afterStrain 4 (some .long) ∈ lw_good := x_in 324 (by decide +kernel) (by decide +kernel)
theorem kl_X5_29 : Cond.constantLong RX5 29 (15) ∈ lw_good := x_in 325 (by decide +kernel) (by decide +kernel)
theorem kl_X5_31 : Cond.constantLong RX5 31 (-1) ∈ lw_good := x_in 326 (by decide +kernel) (by decide +kernel)
theorem ml_X6_124 : Cond.methodLink RX6 124 yX0_begin ∈ lw_good := x_in 327 (by decide +kernel) (by decide +kernel)
theorem im_X0_begin : Cond.instanceMethod yX0_begin ∈ lw_good := x_in 328 (by decide +kernel) (by decide +kernel)
theorem se_X0_begin : Cond.selects RX0 yX0_begin yX0_begin ∈ lw_good := x_in 329 (by decide +kernel) (by decide +kernel)
theorem co_X0_begin : Cond.code yX0_begin cX0_begin 4 none ∈ lw_good := x_in 330 (by decide +kernel) (by decide +kernel)
theorem ml_L_75 : Cond.methodLink RL 75 yX6_haul ∈ lw_good := x_in 331 (by decide +kernel) (by decide +kernel)
theorem im_X6_haul : Cond.instanceMethod yX6_haul ∈ lw_good := x_in 332 (by decide +kernel) (by decide +kernel)
theorem se_X6_haul : Cond.selects RX6 yX6_haul yX6_haul ∈ lw_good := x_in 333 (by decide +kernel) (by decide +kernel)
theorem co_X6_haul : Cond.code yX6_haul cX6_haul 8 (some .int) ∈ lw_good := x_in 334 (by decide +kernel) (by decide +kernel)
theorem ml_X6_175 : Cond.methodLink RX6 175 yX6_refusalOfHaul ∈ lw_good := x_in 335 (by decide +kernel) (by decide +kernel)
theorem im_X6_refusalOfHaul : Cond.instanceMethod yX6_refusalOfHaul ∈ lw_good := x_in 337 (by decide +kernel) (by decide +kernel)
theorem co_X6_refusalOfHaul : Cond.code yX6_refusalOfHaul cX6_refusalOfHaul 3 (some .int) ∈ lw_good := x_in 338 (by decide +kernel) (by decide +kernel)
theorem ml_X6_189 : Cond.methodLink RX6 189 yX6_refusalOfFast ∈ lw_good := x_in 339 (by decide +kernel) (by decide +kernel)
theorem im_X6_refusalOfFast : Cond.instanceMethod yX6_refusalOfFast ∈ lw_good := x_in 341 (by decide +kernel) (by decide +kernel)
theorem co_X6_refusalOfFast : Cond.code yX6_refusalOfFast cX6_refusalOfFast 2 (some .int) ∈ lw_good := x_in 342 (by decide +kernel) (by decide +kernel)
theorem ml_X6_131 : Cond.methodLink RX6 131 yX2_isRope ∈ lw_good := x_in 343 (by decide +kernel) (by decide +kernel)
theorem im_X2_isRope : Cond.instanceMethod yX2_isRope ∈ lw_good := x_in 344 (by decide +kernel) (by decide +kernel)
theorem se_X2_isRope : Cond.selects RX2 yX2_isRope yX2_isRope ∈ lw_good := x_in 345 (by decide +kernel) (by decide +kernel)
theorem co_X2_isRope : Cond.code yX2_isRope cX2_isRope 2 (some .boolean) ∈ lw_good := x_in 346 (by decide +kernel) (by decide +kernel)
theorem ml_X6_144 : Cond.methodLink RX6 144 yX0_now ∈ lw_good := x_in 347 (by decide +kernel) (by decide +kernel)
theorem im_X0_now : Cond.instanceMethod yX0_now ∈ lw_good := x_in 348 (by decide +kernel) (by decide +kernel)
theorem se_X0_now : Cond.selects RX0 yX0_now yX0_now ∈ lw_good := x_in 349 (by decide +kernel) (by decide +kernel)
theorem co_X0_now : Cond.code yX0_now cX0_now 1 (some .long) ∈ lw_good := x_in 350 (by decide +kernel) (by decide +kernel)
theorem ml_X6_334 : Cond.methodLink RX6 334 yX5_isFast ∈ lw_good := x_in 351 (by decide +kernel) (by decide +kernel)
theorem sm_X5_isFast : Cond.static yX5_isFast ∈ lw_good := x_in 352 (by decide +kernel) (by decide +kernel)
theorem co_X5_isFast : Cond.code yX5_isFast cX5_isFast 3 (some .boolean) ∈ lw_good := x_in 353 (by decide +kernel) (by decide +kernel)
theorem ml_X5_18 : Cond.methodLink RX5 18 yX5_isLetGo ∈ lw_good := x_in 354 (by decide +kernel) (by decide +kernel)
theorem sm_X5_isLetGo : Cond.static yX5_isLetGo ∈ lw_good := x_in 355 (by decide +kernel) (by decide +kernel)
theorem co_X5_isLetGo : Cond.code yX5_isLetGo cX5_isLetGo 3 (some .boolean) ∈ lw_good := x_in 356 (by decide +kernel) (by decide +kernel)
theorem ml_X5_11 : Cond.methodLink RX5 11 yX5_letGo ∈ lw_good := x_in 357 (by decide +kernel) (by decide +kernel)
theorem sm_X5_letGo : Cond.static yX5_letGo ∈ lw_good := x_in 358 (by decide +kernel) (by decide +kernel)
theorem co_X5_letGo : Cond.code yX5_letGo cX5_letGo 2 (some .int) ∈ lw_good := x_in 359 (by decide +kernel) (by decide +kernel)
theorem ml_X5_22 : Cond.methodLink RX5 22 yX5_isParted ∈ lw_good := x_in 360 (by decide +kernel) (by decide +kernel)
theorem sm_X5_isParted : Cond.static yX5_isParted ∈ lw_good := x_in 361 (by decide +kernel) (by decide +kernel)
theorem co_X5_isParted : Cond.code yX5_isParted cX5_isParted 3 (some .boolean) ∈ lw_good := x_in 362 (by decide +kernel) (by decide +kernel)
theorem ml_X5_15 : Cond.methodLink RX5 15 yX5_parted ∈ lw_good := x_in 363 (by decide +kernel) (by decide +kernel)
theorem sm_X5_parted : Cond.static yX5_parted ∈ lw_good := x_in 364 (by decide +kernel) (by decide +kernel)
theorem co_X5_parted : Cond.code yX5_parted cX5_parted 2 (some .int) ∈ lw_good := x_in 365 (by decide +kernel) (by decide +kernel)
theorem ml_X6_178 : Cond.methodLink RX6 178 yX2_hauled ∈ lw_good := x_in 366 (by decide +kernel) (by decide +kernel)
theorem im_X2_hauled : Cond.instanceMethod yX2_hauled ∈ lw_good := x_in 367 (by decide +kernel) (by decide +kernel)
theorem se_X2_hauled : Cond.selects RX2 yX2_hauled yX2_hauled ∈ lw_good := x_in 368 (by decide +kernel) (by decide +kernel)
theorem co_X2_hauled : Cond.code yX2_hauled cX2_hauled 11 (some .long) ∈ lw_good := x_in 369 (by decide +kernel) (by decide +kernel)
theorem ml_X2_79 : Cond.methodLink RX2 79 yX5_frostIn ∈ lw_good := x_in 370 (by decide +kernel) (by decide +kernel)
theorem sm_X5_frostIn : Cond.static yX5_frostIn ∈ lw_good := x_in 371 (by decide +kernel) (by decide +kernel)
theorem co_X5_frostIn : Cond.code yX5_frostIn cX5_frostIn 2 (some .int) ∈ lw_good := x_in 372 (by decide +kernel) (by decide +kernel)
theorem ml_X2_51 : Cond.methodLink RX2 51 yX2_kind ∈ lw_good := x_in 373 (by decide +kernel) (by decide +kernel)
theorem im_X2_kind : Cond.instanceMethod yX2_kind ∈ lw_good := x_in 374 (by decide +kernel) (by decide +kernel)
theorem se_X2_kind : Cond.selects RX2 yX2_kind yX2_kind ∈ lw_good := x_in 375 (by decide +kernel) (by decide +kernel)
theorem co_X2_kind : Cond.code yX2_kind cX2_kind 2 (some .int) ∈ lw_good := x_in 376 (by decide +kernel) (by decide +kernel)
theorem ml_X2_47 : Cond.methodLink RX2 47 yX2_isRope ∈ lw_good := x_in 377 (by decide +kernel) (by decide +kernel)
theorem ml_X2_82 : Cond.methodLink RX2 82 yX2_canReach ∈ lw_good := x_in 378 (by decide +kernel) (by decide +kernel)
theorem im_X2_canReach : Cond.instanceMethod yX2_canReach ∈ lw_good := x_in 380 (by decide +kernel) (by decide +kernel)
theorem co_X2_canReach : Cond.code yX2_canReach cX2_canReach 4 (some .boolean) ∈ lw_good := x_in 381 (by decide +kernel) (by decide +kernel)
theorem ml_X2_101 : Cond.methodLink RX2 101 yX5_isFast ∈ lw_good := x_in 382 (by decide +kernel) (by decide +kernel)
theorem ml_X2_86 : Cond.methodLink RX2 86 yX5_strain ∈ lw_good := x_in 383 (by decide +kernel) (by decide +kernel)
theorem sm_X5_strain : Cond.static yX5_strain ∈ lw_good := x_in 384 (by decide +kernel) (by decide +kernel)
theorem co_X5_strain : Cond.code yX5_strain cX5_strain 3 (some .int) ∈ lw_good := x_in 385 (by decide +kernel) (by decide +kernel)
theorem ml_X2_90 : Cond.methodLink RX2 90 yX2_holds ∈ lw_good := x_in 386 (by decide +kernel) (by decide +kernel)
theorem im_X2_holds : Cond.instanceMethod yX2_holds ∈ lw_good := x_in 387 (by decide +kernel) (by decide +kernel)
theorem se_X2_holds : Cond.selects RX2 yX2_holds yX2_holds ∈ lw_good := x_in 388 (by decide +kernel) (by decide +kernel)
theorem co_X2_holds : Cond.code yX2_holds cX2_holds 2 (some .int) ∈ lw_good := x_in 389 (by decide +kernel) (by decide +kernel)
theorem ml_X2_93 : Cond.methodLink RX2 93 yX5_afterParted ∈ lw_good := x_in 390 (by decide +kernel) (by decide +kernel)
theorem sm_X5_afterParted : Cond.static yX5_afterParted ∈ lw_good := x_in 391 (by decide +kernel) (by decide +kernel)
theorem co_X5_afterParted : Cond.code yX5_afterParted cX5_afterParted 6 (some .long) ∈ lw_good := x_in 392 (by decide +kernel) (by decide +kernel)
theorem ml_X5_33 : Cond.methodLink RX5 33 yX5_afterStrain ∈ lw_good := x_in 393 (by decide +kernel) (by decide +kernel)
theorem sm_X6_passed : Cond.static yX6_passed ∈ lw_good := x_in 395 (by decide +kernel) (by decide +kernel)
theorem co_X6_passed : Cond.code yX6_passed cX6_passed 2 (some .int) ∈ lw_good := x_in 396 (by decide +kernel) (by decide +kernel)
theorem ml_X6_343 : Cond.methodLink RX6 343 yJ9_max_7cf53 ∈ lw_good := x_in 397 (by decide +kernel) (by decide +kernel)
theorem ml_X2_55 : Cond.methodLink RX2 55 yX2_target ∈ lw_good := x_in 398 (by decide +kernel) (by decide +kernel)
theorem im_X2_target : Cond.instanceMethod yX2_target ∈ lw_good := x_in 399 (by decide +kernel) (by decide +kernel)
theorem se_X2_target : Cond.selects RX2 yX2_target yX2_target ∈ lw_good := x_in 400 (by decide +kernel) (by decide +kernel)
theorem co_X2_target : Cond.code yX2_target cX2_target 2 (some .int) ∈ lw_good := x_in 401 (by decide +kernel) (by decide +kernel)
theorem ml_X6_182 : Cond.methodLink RX6 182 yX6_firstParted ∈ lw_good := x_in 402 (by decide +kernel) (by decide +kernel)
theorem sm_X6_firstParted : Cond.static yX6_firstParted ∈ lw_good := x_in 403 (by decide +kernel) (by decide +kernel)
theorem co_X6_firstParted : Cond.code yX6_firstParted cX6_firstParted 5 (some .int) ∈ lw_good := x_in 404 (by decide +kernel) (by decide +kernel)
theorem ml_X6_212 : Cond.methodLink RX6 212 yX5_parted ∈ lw_good := x_in 405 (by decide +kernel) (by decide +kernel)
theorem ml_X6_337 : Cond.methodLink RX6 337 yJ6_numberOfTrailingZeros_0f7a4 ∈ lw_good := x_in 406 (by decide +kernel) (by decide +kernel)
theorem sm_J6_numberOfTrailingZeros_0f7a4 : Cond.static yJ6_numberOfTrailingZeros_0f7a4 ∈ lw_good := x_in 407 (by decide +kernel) (by decide +kernel)
theorem co_J6_numberOfTrailingZeros_0f7a4 : Cond.code yJ6_numberOfTrailingZeros_0f7a4 cJ6_numberOfTrailingZeros_0f7a4 2 (some .int) ∈ lw_good := x_in 408 (by decide +kernel) (by decide +kernel)
theorem kc_J6_264 : Cond.constant RJ6 264 (65536) ∈ lw_good := x_in 409 (by decide +kernel) (by decide +kernel)
theorem ml_X6_186 : Cond.methodLink RX6 186 yX6_done ∈ lw_good := x_in 410 (by decide +kernel) (by decide +kernel)
theorem im_X6_done : Cond.instanceMethod yX6_done ∈ lw_good := x_in 412 (by decide +kernel) (by decide +kernel)
theorem co_X6_done : Cond.code yX6_done cX6_done 4 (some .int) ∈ lw_good := x_in 413 (by decide +kernel) (by decide +kernel)
theorem ml_X6_289 : Cond.methodLink RX6 289 yX0_isFull ∈ lw_good := x_in 414 (by decide +kernel) (by decide +kernel)
theorem im_X0_isFull : Cond.instanceMethod yX0_isFull ∈ lw_good := x_in 415 (by decide +kernel) (by decide +kernel)
theorem se_X0_isFull : Cond.selects RX0 yX0_isFull yX0_isFull ∈ lw_good := x_in 416 (by decide +kernel) (by decide +kernel)
theorem co_X0_isFull : Cond.code yX0_isFull cX0_isFull 2 (some .boolean) ∈ lw_good := x_in 417 (by decide +kernel) (by decide +kernel)
theorem ml_X6_299 : Cond.methodLink RX6 299 yX0_add ∈ lw_good := x_in 418 (by decide +kernel) (by decide +kernel)
theorem im_X0_add : Cond.instanceMethod yX0_add ∈ lw_good := x_in 419 (by decide +kernel) (by decide +kernel)
theorem se_X0_add : Cond.selects RX0 yX0_add yX0_add ∈ lw_good := x_in 420 (by decide +kernel) (by decide +kernel)
theorem co_X0_add : Cond.code yX0_add cX0_add 3 none ∈ lw_good := x_in 421 (by decide +kernel) (by decide +kernel)
theorem ml_L_90 : Cond.methodLink RL 90 yX6_slack ∈ lw_good := x_in 422 (by decide +kernel) (by decide +kernel)
theorem im_X6_slack : Cond.instanceMethod yX6_slack ∈ lw_good := x_in 423 (by decide +kernel) (by decide +kernel)
theorem se_X6_slack : Cond.selects RX6 yX6_slack yX6_slack ∈ lw_good := x_in 424 (by decide +kernel) (by decide +kernel)
theorem co_X6_slack : Cond.code yX6_slack cX6_slack 5 (some .int) ∈ lw_good := x_in 425 (by decide +kernel) (by decide +kernel)
theorem ml_X6_192 : Cond.methodLink RX6 192 yX5_afterLetGo ∈ lw_good := x_in 426 (by decide +kernel) (by decide +kernel)
theorem sm_X5_afterLetGo : Cond.static yX5_afterLetGo ∈ lw_good := x_in 427 (by decide +kernel) (by decide +kernel)
theorem co_X5_afterLetGo : Cond.code yX5_afterLetGo cX5_afterLetGo 3 (some .long) ∈ lw_good := x_in 428 (by decide +kernel) (by decide +kernel)
theorem ml_X6_151 : Cond.methodLink RX6 151 yX5_strain ∈ lw_good := x_in 429 (by decide +kernel) (by decide +kernel)
theorem ml_L_144 : Cond.methodLink RL 144 yX6_belay ∈ lw_good := x_in 430 (by decide +kernel) (by decide +kernel)
theorem im_X6_belay : Cond.instanceMethod yX6_belay ∈ lw_good := x_in 431 (by decide +kernel) (by decide +kernel)
theorem se_X6_belay : Cond.selects RX6 yX6_belay yX6_belay ∈ lw_good := x_in 432 (by decide +kernel) (by decide +kernel)
theorem co_X6_belay : Cond.code yX6_belay cX6_belay 6 (some .int) ∈ lw_good := x_in 433 (by decide +kernel) (by decide +kernel)
theorem ml_X6_196 : Cond.methodLink RX6 196 yX5_isParted ∈ lw_good := x_in 434 (by decide +kernel) (by decide +kernel)
theorem ml_X6_200 : Cond.methodLink RX6 200 yX5_isLetGo ∈ lw_good := x_in 435 (by decide +kernel) (by decide +kernel)
theorem ml_X6_203 : Cond.methodLink RX6 203 yX5_afterMadeOff ∈ lw_good := x_in 436 (by decide +kernel) (by decide +kernel)
theorem sm_X5_afterMadeOff : Cond.static yX5_afterMadeOff ∈ lw_good := x_in 437 (by decide +kernel) (by decide +kernel)
theorem co_X5_afterMadeOff : Cond.code yX5_afterMadeOff cX5_afterMadeOff 3 (some .long) ∈ lw_good := x_in 438 (by decide +kernel) (by decide +kernel)
theorem ml_X6_206 : Cond.methodLink RX6 206 yX5_letGo ∈ lw_good := x_in 439 (by decide +kernel) (by decide +kernel)
theorem ml_X6_170 : Cond.methodLink RX6 170 yJ6_bitCount_0f7a4 ∈ lw_good := x_in 440 (by decide +kernel) (by decide +kernel)
theorem sm_J6_bitCount_0f7a4 : Cond.static yJ6_bitCount_0f7a4 ∈ lw_good := x_in 441 (by decide +kernel) (by decide +kernel)
theorem co_J6_bitCount_0f7a4 : Cond.code yJ6_bitCount_0f7a4 cJ6_bitCount_0f7a4 1 (some .int) ∈ lw_good := x_in 442 (by decide +kernel) (by decide +kernel)
theorem kc_J6_265 : Cond.constant RJ6 265 (1431655765) ∈ lw_good := x_in 443 (by decide +kernel) (by decide +kernel)
theorem kc_J6_266 : Cond.constant RJ6 266 (858993459) ∈ lw_good := x_in 444 (by decide +kernel) (by decide +kernel)
theorem kc_J6_267 : Cond.constant RJ6 267 (252645135) ∈ lw_good := x_in 445 (by decide +kernel) (by decide +kernel)
theorem ml_L_105 : Cond.methodLink RL 105 yX6_cut ∈ lw_good := x_in 446 (by decide +kernel) (by decide +kernel)
theorem im_X6_cut : Cond.instanceMethod yX6_cut ∈ lw_good := x_in 447 (by decide +kernel) (by decide +kernel)
theorem se_X6_cut : Cond.selects RX6 yX6_cut yX6_cut ∈ lw_good := x_in 448 (by decide +kernel) (by decide +kernel)
theorem co_X6_cut : Cond.code yX6_cut cX6_cut 6 (some .int) ∈ lw_good := x_in 449 (by decide +kernel) (by decide +kernel)
theorem ml_X6_209 : Cond.methodLink RX6 209 yX5_afterParted ∈ lw_good := x_in 450 (by decide +kernel) (by decide +kernel)
theorem ml_L_147 : Cond.methodLink RL 147 yX6_splice ∈ lw_good := x_in 451 (by decide +kernel) (by decide +kernel)
theorem im_X6_splice : Cond.instanceMethod yX6_splice ∈ lw_good := x_in 452 (by decide +kernel) (by decide +kernel)
theorem se_X6_splice : Cond.selects RX6 yX6_splice yX6_splice ∈ lw_good := x_in 453 (by decide +kernel) (by decide +kernel)
theorem co_X6_splice : Cond.code yX6_splice cX6_splice 6 (some .int) ∈ lw_good := x_in 454 (by decide +kernel) (by decide +kernel)
theorem ml_X6_215 : Cond.methodLink RX6 215 yX5_afterSpliced ∈ lw_good := x_in 455 (by decide +kernel) (by decide +kernel)
theorem sm_X5_afterSpliced : Cond.static yX5_afterSpliced ∈ lw_good := x_in 456 (by decide +kernel) (by decide +kernel)
theorem co_X5_afterSpliced : Cond.code yX5_afterSpliced cX5_afterSpliced 3 (some .long) ∈ lw_good := x_in 457 (by decide +kernel) (by decide +kernel)
theorem ml_X5_37 : Cond.methodLink RX5 37 yX5_afterMadeOff ∈ lw_good := x_in 458 (by decide +kernel) (by decide +kernel)
theorem ml_L_150 : Cond.methodLink RL 150 yX6_frost ∈ lw_good := x_in 459 (by decide +kernel) (by decide +kernel)
theorem im_X6_frost : Cond.instanceMethod yX6_frost ∈ lw_good := x_in 460 (by decide +kernel) (by decide +kernel)
theorem se_X6_frost : Cond.selects RX6 yX6_frost yX6_frost ∈ lw_good := x_in 461 (by decide +kernel) (by decide +kernel)
theorem co_X6_frost : Cond.code yX6_frost cX6_frost 4 (some .int) ∈ lw_good := x_in 462 (by decide +kernel) (by decide +kernel)
theorem ml_X6_218 : Cond.methodLink RX6 218 yX2_isEmpty ∈ lw_good := x_in 463 (by decide +kernel) (by decide +kernel)
theorem im_X2_isEmpty : Cond.instanceMethod yX2_isEmpty ∈ lw_good := x_in 464 (by decide +kernel) (by decide +kernel)
theorem se_X2_isEmpty : Cond.selects RX2 yX2_isEmpty yX2_isEmpty ∈ lw_good := x_in 465 (by decide +kernel) (by decide +kernel)
theorem co_X2_isEmpty : Cond.code yX2_isEmpty cX2_isEmpty 1 (some .boolean) ∈ lw_good := x_in 466 (by decide +kernel) (by decide +kernel)
theorem ml_X6_222 : Cond.methodLink RX6 222 yX5_frostIn ∈ lw_good := x_in 467 (by decide +kernel) (by decide +kernel)
theorem ml_X6_225 : Cond.methodLink RX6 225 yX5_afterFrost ∈ lw_good := x_in 468 (by decide +kernel) (by decide +kernel)
theorem ml_L_81 : Cond.methodLink RL 81 yX6_undo ∈ lw_good := x_in 469 (by decide +kernel) (by decide +kernel)
theorem im_X6_undo : Cond.instanceMethod yX6_undo ∈ lw_good := x_in 470 (by decide +kernel) (by decide +kernel)
theorem se_X6_undo : Cond.selects RX6 yX6_undo yX6_undo ∈ lw_good := x_in 471 (by decide +kernel) (by decide +kernel)
theorem co_X6_undo : Cond.code yX6_undo cX6_undo 3 (some .int) ∈ lw_good := x_in 472 (by decide +kernel) (by decide +kernel)
theorem ml_X6_228 : Cond.methodLink RX6 228 yX0_deeds ∈ lw_good := x_in 473 (by decide +kernel) (by decide +kernel)
theorem im_X0_deeds : Cond.instanceMethod yX0_deeds ∈ lw_good := x_in 474 (by decide +kernel) (by decide +kernel)
theorem se_X0_deeds : Cond.selects RX0 yX0_deeds yX0_deeds ∈ lw_good := x_in 475 (by decide +kernel) (by decide +kernel)
theorem co_X0_deeds : Cond.code yX0_deeds cX0_deeds 1 (some .int) ∈ lw_good := x_in 476 (by decide +kernel) (by decide +kernel)
theorem ml_X6_232 : Cond.methodLink RX6 232 yX0_goBack ∈ lw_good := x_in 477 (by decide +kernel) (by decide +kernel)
theorem im_X0_goBack : Cond.instanceMethod yX0_goBack ∈ lw_good := x_in 478 (by decide +kernel) (by decide +kernel)
theorem se_X0_goBack : Cond.selects RX0 yX0_goBack yX0_goBack ∈ lw_good := x_in 479 (by decide +kernel) (by decide +kernel)
theorem co_X0_goBack : Cond.code yX0_goBack cX0_goBack 2 none ∈ lw_good := x_in 480 (by decide +kernel) (by decide +kernel)
theorem ml_L_59 : Cond.methodLink RL 59 yX6_keep ∈ lw_good := x_in 481 (by decide +kernel) (by decide +kernel)
theorem im_X6_keep : Cond.instanceMethod yX6_keep ∈ lw_good := x_in 482 (by decide +kernel) (by decide +kernel)
theorem se_X6_keep : Cond.selects RX6 yX6_keep yX6_keep ∈ lw_good := x_in 483 (by decide +kernel) (by decide +kernel)
theorem co_X6_keep : Cond.code yX6_keep cX6_keep 2 (some .int) ∈ lw_good := x_in 484 (by decide +kernel) (by decide +kernel)
theorem ml_X6_235 : Cond.methodLink RX6 235 yX0_isKeepingPlace ∈ lw_good := x_in 485 (by decide +kernel) (by decide +kernel)
theorem im_X0_isKeepingPlace : Cond.instanceMethod yX0_isKeepingPlace ∈ lw_good := x_in 486 (by decide +kernel) (by decide +kernel)
theorem se_X0_isKeepingPlace : Cond.selects RX0 yX0_isKeepingPlace yX0_isKeepingPlace ∈ lw_good := x_in 487 (by decide +kernel) (by decide +kernel)
theorem co_X0_isKeepingPlace : Cond.code yX0_isKeepingPlace cX0_isKeepingPlace 2 (some .boolean) ∈ lw_good := x_in 488 (by decide +kernel) (by decide +kernel)
theorem ml_X6_238 : Cond.methodLink RX6 238 yX0_store ∈ lw_good := x_in 489 (by decide +kernel) (by decide +kernel)
theorem im_X0_store : Cond.instanceMethod yX0_store ∈ lw_good := x_in 490 (by decide +kernel) (by decide +kernel)
theorem se_X0_store : Cond.selects RX0 yX0_store yX0_store ∈ lw_good := x_in 491 (by decide +kernel) (by decide +kernel)
theorem co_X0_store : Cond.code yX0_store cX0_store 3 none ∈ lw_good := x_in 492 (by decide +kernel) (by decide +kernel)
theorem ml_X0_28 : Cond.methodLink RX0 28 yX0_isKeepingPlace ∈ lw_good := x_in 493 (by decide +kernel) (by decide +kernel)
theorem ml_L_93 : Cond.methodLink RL 93 yX6_on ∈ lw_good := x_in 494 (by decide +kernel) (by decide +kernel)
theorem im_X6_on : Cond.instanceMethod yX6_on ∈ lw_good := x_in 495 (by decide +kernel) (by decide +kernel)
theorem se_X6_on : Cond.selects RX6 yX6_on yX6_on ∈ lw_good := x_in 496 (by decide +kernel) (by decide +kernel)
theorem co_X6_on : Cond.code yX6_on cX6_on 2 (some .int) ∈ lw_good := x_in 497 (by decide +kernel) (by decide +kernel)
theorem ml_X6_241 : Cond.methodLink RX6 241 yX0_deedsKept ∈ lw_good := x_in 498 (by decide +kernel) (by decide +kernel)
theorem im_X0_deedsKept : Cond.instanceMethod yX0_deedsKept ∈ lw_good := x_in 499 (by decide +kernel) (by decide +kernel)
theorem se_X0_deedsKept : Cond.selects RX0 yX0_deedsKept yX0_deedsKept ∈ lw_good := x_in 500 (by decide +kernel) (by decide +kernel)
theorem co_X0_deedsKept : Cond.code yX0_deedsKept cX0_deedsKept 2 (some .int) ∈ lw_good := x_in 501 (by decide +kernel) (by decide +kernel)
theorem ml_X6_244 : Cond.methodLink RX6 244 yX0_restore ∈ lw_good := x_in 502 (by decide +kernel) (by decide +kernel)
theorem im_X0_restore : Cond.instanceMethod yX0_restore ∈ lw_good := x_in 503 (by decide +kernel) (by decide +kernel)
theorem se_X0_restore : Cond.selects RX0 yX0_restore yX0_restore ∈ lw_good := x_in 504 (by decide +kernel) (by decide +kernel)
theorem co_X0_restore : Cond.code yX0_restore cX0_restore 3 none ∈ lw_good := x_in 505 (by decide +kernel) (by decide +kernel)
theorem ml_L_116 : Cond.methodLink RL 116 yX6_passes ∈ lw_good := x_in 506 (by decide +kernel) (by decide +kernel)
theorem im_X6_passes : Cond.instanceMethod yX6_passes ∈ lw_good := x_in 507 (by decide +kernel) (by decide +kernel)
theorem se_X6_passes : Cond.selects RX6 yX6_passes yX6_passes ∈ lw_good := x_in 508 (by decide +kernel) (by decide +kernel)
theorem co_X6_passes : Cond.code yX6_passes cX6_passes 3 (some .int) ∈ lw_good := x_in 509 (by decide +kernel) (by decide +kernel)
theorem ml_X6_137 : Cond.methodLink RX6 137 yX2_kind ∈ lw_good := x_in 510 (by decide +kernel) (by decide +kernel)
theorem ml_X6_163 : Cond.methodLink RX6 163 yX6_passed ∈ lw_good := x_in 511 (by decide +kernel) (by decide +kernel)
theorem ml_L_72 : Cond.methodLink RL 72 yX6_moves ∈ lw_good := x_in 512 (by decide +kernel) (by decide +kernel)
theorem im_X6_moves : Cond.instanceMethod yX6_moves ∈ lw_good := x_in 513 (by decide +kernel) (by decide +kernel)
theorem se_X6_moves : Cond.selects RX6 yX6_moves yX6_moves ∈ lw_good := x_in 514 (by decide +kernel) (by decide +kernel)
theorem co_X6_moves : Cond.code yX6_moves cX6_moves 6 (some .int) ∈ lw_good := x_in 515 (by decide +kernel) (by decide +kernel)
theorem ml_L_78 : Cond.methodLink RL 78 yX6_parts ∈ lw_good := x_in 516 (by decide +kernel) (by decide +kernel)
theorem im_X6_parts : Cond.instanceMethod yX6_parts ∈ lw_good := x_in 517 (by decide +kernel) (by decide +kernel)
theorem se_X6_parts : Cond.selects RX6 yX6_parts yX6_parts ∈ lw_good := x_in 518 (by decide +kernel) (by decide +kernel)
theorem co_X6_parts : Cond.code yX6_parts cX6_parts 7 (some .int) ∈ lw_good := x_in 519 (by decide +kernel) (by decide +kernel)
theorem ml_L_65 : Cond.methodLink RL 65 yX6_lawful ∈ lw_good := x_in 520 (by decide +kernel) (by decide +kernel)
theorem im_X6_lawful : Cond.instanceMethod yX6_lawful ∈ lw_good := x_in 521 (by decide +kernel) (by decide +kernel)
theorem se_X6_lawful : Cond.selects RX6 yX6_lawful yX6_lawful ∈ lw_good := x_in 522 (by decide +kernel) (by decide +kernel)
theorem co_X6_lawful : Cond.code yX6_lawful cX6_lawful 1 (some .int) ∈ lw_good := x_in 523 (by decide +kernel) (by decide +kernel)
theorem ml_X6_250 : Cond.methodLink RX6 250 yX2_lawfulActs ∈ lw_good := x_in 524 (by decide +kernel) (by decide +kernel)
theorem im_X2_lawfulActs : Cond.instanceMethod yX2_lawfulActs ∈ lw_good := x_in 525 (by decide +kernel) (by decide +kernel)
theorem se_X2_lawfulActs : Cond.selects RX2 yX2_lawfulActs yX2_lawfulActs ∈ lw_good := x_in 526 (by decide +kernel) (by decide +kernel)
theorem co_X2_lawfulActs : Cond.code yX2_lawfulActs cX2_lawfulActs 6 (some .int) ∈ lw_good := x_in 527 (by decide +kernel) (by decide +kernel)
theorem ml_X2_69 : Cond.methodLink RX2 69 yX5_taut ∈ lw_good := x_in 528 (by decide +kernel) (by decide +kernel)
theorem sm_X5_taut : Cond.static yX5_taut ∈ lw_good := x_in 529 (by decide +kernel) (by decide +kernel)
theorem co_X5_taut : Cond.code yX5_taut cX5_taut 4 (some .int) ∈ lw_good := x_in 530 (by decide +kernel) (by decide +kernel)
theorem ml_X5_25 : Cond.methodLink RX5 25 yX5_strain ∈ lw_good := x_in 531 (by decide +kernel) (by decide +kernel)
theorem ml_X2_73 : Cond.methodLink RX2 73 yX2_needed ∈ lw_good := x_in 532 (by decide +kernel) (by decide +kernel)
theorem im_X2_needed : Cond.instanceMethod yX2_needed ∈ lw_good := x_in 533 (by decide +kernel) (by decide +kernel)
theorem se_X2_needed : Cond.selects RX2 yX2_needed yX2_needed ∈ lw_good := x_in 534 (by decide +kernel) (by decide +kernel)
theorem co_X2_needed : Cond.code yX2_needed cX2_needed 2 (some .int) ∈ lw_good := x_in 535 (by decide +kernel) (by decide +kernel)
theorem ml_X2_62 : Cond.methodLink RX2 62 yX2_isAct ∈ lw_good := x_in 536 (by decide +kernel) (by decide +kernel)
theorem im_X2_isAct : Cond.instanceMethod yX2_isAct ∈ lw_good := x_in 537 (by decide +kernel) (by decide +kernel)
theorem se_X2_isAct : Cond.selects RX2 yX2_isAct yX2_isAct ∈ lw_good := x_in 538 (by decide +kernel) (by decide +kernel)
theorem co_X2_isAct : Cond.code yX2_isAct cX2_isAct 2 (some .boolean) ∈ lw_good := x_in 539 (by decide +kernel) (by decide +kernel)
theorem ml_X2_65 : Cond.methodLink RX2 65 yX2_allRopes ∈ lw_good := x_in 540 (by decide +kernel) (by decide +kernel)
theorem im_X2_allRopes : Cond.instanceMethod yX2_allRopes ∈ lw_good := x_in 541 (by decide +kernel) (by decide +kernel)
theorem se_X2_allRopes : Cond.selects RX2 yX2_allRopes yX2_allRopes ∈ lw_good := x_in 542 (by decide +kernel) (by decide +kernel)
theorem co_X2_allRopes : Cond.code yX2_allRopes cX2_allRopes 1 (some .int) ∈ lw_good := x_in 543 (by decide +kernel) (by decide +kernel)
theorem ml_X2_76 : Cond.methodLink RX2 76 yX2_forbidden ∈ lw_good := x_in 544 (by decide +kernel) (by decide +kernel)
theorem im_X2_forbidden : Cond.instanceMethod yX2_forbidden ∈ lw_good := x_in 545 (by decide +kernel) (by decide +kernel)
theorem se_X2_forbidden : Cond.selects RX2 yX2_forbidden yX2_forbidden ∈ lw_good := x_in 546 (by decide +kernel) (by decide +kernel)
theorem co_X2_forbidden : Cond.code yX2_forbidden cX2_forbidden 2 (some .int) ∈ lw_good := x_in 547 (by decide +kernel) (by decide +kernel)
theorem ml_L_84 : Cond.methodLink RL 84 yX6_least ∈ lw_good := x_in 548 (by decide +kernel) (by decide +kernel)
theorem im_X6_least : Cond.instanceMethod yX6_least ∈ lw_good := x_in 549 (by decide +kernel) (by decide +kernel)
theorem se_X6_least : Cond.selects RX6 yX6_least yX6_least ∈ lw_good := x_in 550 (by decide +kernel) (by decide +kernel)
theorem co_X6_least : Cond.code yX6_least cX6_least 5 (some .int) ∈ lw_good := x_in 551 (by decide +kernel) (by decide +kernel)
theorem ml_X6_253 : Cond.methodLink RX6 253 yX2_isAct ∈ lw_good := x_in 552 (by decide +kernel) (by decide +kernel)
theorem ml_X6_256 : Cond.methodLink RX6 256 yX3_fewest ∈ lw_good := x_in 553 (by decide +kernel) (by decide +kernel)
theorem sm_X3_fewest : Cond.static yX3_fewest ∈ lw_good := x_in 554 (by decide +kernel) (by decide +kernel)
theorem co_X3_fewest : Cond.code yX3_fewest cX3_fewest 6 (some .int) ∈ lw_good := x_in 555 (by decide +kernel) (by decide +kernel)
theorem ml_X3_9 : Cond.methodLink RX3 9 yX3_isReached ∈ lw_good := x_in 556 (by decide +kernel) (by decide +kernel)
theorem sm_X3_isReached : Cond.static yX3_isReached ∈ lw_good := x_in 557 (by decide +kernel) (by decide +kernel)
theorem co_X3_isReached : Cond.code yX3_isReached cX3_isReached 12 (some .boolean) ∈ lw_good := x_in 558 (by decide +kernel) (by decide +kernel)
theorem ml_X3_15 : Cond.methodLink RX3 15 yX3_isTooFar ∈ lw_good := x_in 559 (by decide +kernel) (by decide +kernel)
theorem sm_X3_isTooFar : Cond.static yX3_isTooFar ∈ lw_good := x_in 560 (by decide +kernel) (by decide +kernel)
theorem co_X3_isTooFar : Cond.code yX3_isTooFar cX3_isTooFar 9 (some .boolean) ∈ lw_good := x_in 561 (by decide +kernel) (by decide +kernel)
theorem ml_X3_43 : Cond.methodLink RX3 43 yX5_taut ∈ lw_good := x_in 562 (by decide +kernel) (by decide +kernel)
theorem ml_X3_46 : Cond.methodLink RX3 46 yX5_letGo ∈ lw_good := x_in 563 (by decide +kernel) (by decide +kernel)
theorem ml_X3_39 : Cond.methodLink RX3 39 yX5_parted ∈ lw_good := x_in 564 (by decide +kernel) (by decide +kernel)
theorem ml_X3_49 : Cond.methodLink RX3 49 yX2_needed ∈ lw_good := x_in 565 (by decide +kernel) (by decide +kernel)
theorem ml_X3_53 : Cond.methodLink RX3 53 yX2_forbidden ∈ lw_good := x_in 566 (by decide +kernel) (by decide +kernel)
theorem ml_X3_56 : Cond.methodLink RX3 56 yJ6_bitCount_0f7a4 ∈ lw_good := x_in 567 (by decide +kernel) (by decide +kernel)
theorem ml_X3_19 : Cond.methodLink RX3 19 yX2_isRope ∈ lw_good := x_in 568 (by decide +kernel) (by decide +kernel)
theorem ml_X3_25 : Cond.methodLink RX3 25 yX5_isFast ∈ lw_good := x_in 569 (by decide +kernel) (by decide +kernel)
theorem ml_X3_31 : Cond.methodLink RX3 31 yX2_hauled ∈ lw_good := x_in 570 (by decide +kernel) (by decide +kernel)
theorem ml_X3_35 : Cond.methodLink RX3 35 yX5_afterLetGo ∈ lw_good := x_in 571 (by decide +kernel) (by decide +kernel)
theorem ml_L_96 : Cond.methodLink RL 96 yX6_fall ∈ lw_good := x_in 572 (by decide +kernel) (by decide +kernel)
theorem im_X6_fall : Cond.instanceMethod yX6_fall ∈ lw_good := x_in 573 (by decide +kernel) (by decide +kernel)
theorem se_X6_fall : Cond.selects RX6 yX6_fall yX6_fall ∈ lw_good := x_in 574 (by decide +kernel) (by decide +kernel)
theorem co_X6_fall : Cond.code yX6_fall cX6_fall 4 (some .int) ∈ lw_good := x_in 575 (by decide +kernel) (by decide +kernel)
theorem ml_X6_266 : Cond.methodLink RX6 266 yX6_canFall ∈ lw_good := x_in 576 (by decide +kernel) (by decide +kernel)
theorem im_X6_canFall : Cond.instanceMethod yX6_canFall ∈ lw_good := x_in 578 (by decide +kernel) (by decide +kernel)
theorem co_X6_canFall : Cond.code yX6_canFall cX6_canFall 2 (some .boolean) ∈ lw_good := x_in 579 (by decide +kernel) (by decide +kernel)
theorem ml_X6_340 : Cond.methodLink RX6 340 yX2_allRopes ∈ lw_good := x_in 580 (by decide +kernel) (by decide +kernel)
theorem ml_L_99 : Cond.methodLink RL 99 yX6_idle ∈ lw_good := x_in 581 (by decide +kernel) (by decide +kernel)
theorem im_X6_idle : Cond.instanceMethod yX6_idle ∈ lw_good := x_in 582 (by decide +kernel) (by decide +kernel)
theorem se_X6_idle : Cond.selects RX6 yX6_idle yX6_idle ∈ lw_good := x_in 583 (by decide +kernel) (by decide +kernel)
theorem co_X6_idle : Cond.code yX6_idle cX6_idle 6 (some .int) ∈ lw_good := x_in 584 (by decide +kernel) (by decide +kernel)
theorem ml_L_108 : Cond.methodLink RL 108 yX6_share ∈ lw_good := x_in 585 (by decide +kernel) (by decide +kernel)
theorem im_X6_share : Cond.instanceMethod yX6_share ∈ lw_good := x_in 586 (by decide +kernel) (by decide +kernel)
theorem se_X6_share : Cond.selects RX6 yX6_share yX6_share ∈ lw_good := x_in 587 (by decide +kernel) (by decide +kernel)
theorem co_X6_share : Cond.code yX6_share cX6_share 5 (some .int) ∈ lw_good := x_in 588 (by decide +kernel) (by decide +kernel)
theorem ml_X6_269 : Cond.methodLink RX6 269 yX6_roomiest ∈ lw_good := x_in 589 (by decide +kernel) (by decide +kernel)
theorem im_X6_roomiest : Cond.instanceMethod yX6_roomiest ∈ lw_good := x_in 591 (by decide +kernel) (by decide +kernel)
theorem co_X6_roomiest : Cond.code yX6_roomiest cX6_roomiest 8 (some .int) ∈ lw_good := x_in 592 (by decide +kernel) (by decide +kernel)
theorem ml_X6_148 : Cond.methodLink RX6 148 yX2_holds ∈ lw_good := x_in 593 (by decide +kernel) (by decide +kernel)
theorem ml_L_125 : Cond.methodLink RL 125 yX6_who ∈ lw_good := x_in 594 (by decide +kernel) (by decide +kernel)
theorem im_X6_who : Cond.instanceMethod yX6_who ∈ lw_good := x_in 595 (by decide +kernel) (by decide +kernel)
theorem se_X6_who : Cond.selects RX6 yX6_who yX6_who ∈ lw_good := x_in 596 (by decide +kernel) (by decide +kernel)
theorem co_X6_who : Cond.code yX6_who cX6_who 6 (some .int) ∈ lw_good := x_in 597 (by decide +kernel) (by decide +kernel)
theorem ml_X6_272 : Cond.methodLink RX6 272 yX6_refusalOfPairs ∈ lw_good := x_in 598 (by decide +kernel) (by decide +kernel)
theorem im_X6_refusalOfPairs : Cond.instanceMethod yX6_refusalOfPairs ∈ lw_good := x_in 600 (by decide +kernel) (by decide +kernel)
theorem co_X6_refusalOfPairs : Cond.code yX6_refusalOfPairs cX6_refusalOfPairs 5 (some .int) ∈ lw_good := x_in 601 (by decide +kernel) (by decide +kernel)
theorem ml_X6_110 : Cond.methodLink RX6 110 yX4_size ∈ lw_good := x_in 602 (by decide +kernel) (by decide +kernel)
theorem ml_X6_275 : Cond.methodLink RX6 275 yX6_kindsThatFit ∈ lw_good := x_in 603 (by decide +kernel) (by decide +kernel)
theorem im_X6_kindsThatFit : Cond.instanceMethod yX6_kindsThatFit ∈ lw_good := x_in 605 (by decide +kernel) (by decide +kernel)
theorem co_X6_kindsThatFit : Cond.code yX6_kindsThatFit cX6_kindsThatFit 6 (some .int) ∈ lw_good := x_in 606 (by decide +kernel) (by decide +kernel)
theorem ml_L_119 : Cond.methodLink RL 119 yX6_kinds ∈ lw_good := x_in 607 (by decide +kernel) (by decide +kernel)
theorem im_X6_kinds : Cond.instanceMethod yX6_kinds ∈ lw_good := x_in 608 (by decide +kernel) (by decide +kernel)
theorem se_X6_kinds : Cond.selects RX6 yX6_kinds yX6_kinds ∈ lw_good := x_in 609 (by decide +kernel) (by decide +kernel)
theorem co_X6_kinds : Cond.code yX6_kinds cX6_kinds 3 (some .int) ∈ lw_good := x_in 610 (by decide +kernel) (by decide +kernel)
theorem ml_L_122 : Cond.methodLink RL 122 yX6_test ∈ lw_good := x_in 611 (by decide +kernel) (by decide +kernel)
theorem im_X6_test : Cond.instanceMethod yX6_test ∈ lw_good := x_in 612 (by decide +kernel) (by decide +kernel)
theorem se_X6_test : Cond.selects RX6 yX6_test yX6_test ∈ lw_good := x_in 613 (by decide +kernel) (by decide +kernel)
theorem co_X6_test : Cond.code yX6_test cX6_test 6 (some .int) ∈ lw_good := x_in 614 (by decide +kernel) (by decide +kernel)
theorem ml_X6_278 : Cond.methodLink RX6 278 yX6_greatestPart ∈ lw_good := x_in 615 (by decide +kernel) (by decide +kernel)
theorem sm_X6_greatestPart : Cond.static yX6_greatestPart ∈ lw_good := x_in 616 (by decide +kernel) (by decide +kernel)
theorem co_X6_greatestPart : Cond.code yX6_greatestPart cX6_greatestPart 6 (some .int) ∈ lw_good := x_in 617 (by decide +kernel) (by decide +kernel)
theorem ml_L_128 : Cond.methodLink RL 128 yX6_duel ∈ lw_good := x_in 618 (by decide +kernel) (by decide +kernel)
theorem im_X6_duel : Cond.instanceMethod yX6_duel ∈ lw_good := x_in 619 (by decide +kernel) (by decide +kernel)
theorem se_X6_duel : Cond.selects RX6 yX6_duel yX6_duel ∈ lw_good := x_in 620 (by decide +kernel) (by decide +kernel)
theorem co_X6_duel : Cond.code yX6_duel cX6_duel 2 (some .int) ∈ lw_good := x_in 621 (by decide +kernel) (by decide +kernel)
theorem ml_X6_281 : Cond.methodLink RX6 281 yX3_outcome ∈ lw_good := x_in 622 (by decide +kernel) (by decide +kernel)
theorem sm_X3_outcome : Cond.static yX3_outcome ∈ lw_good := x_in 623 (by decide +kernel) (by decide +kernel)
theorem co_X3_outcome : Cond.code yX3_outcome cX3_outcome 4 (some .int) ∈ lw_good := x_in 624 (by decide +kernel) (by decide +kernel)
theorem ml_X3_61 : Cond.methodLink RX3 61 yJ9_min_7cf53 ∈ lw_good := x_in 625 (by decide +kernel) (by decide +kernel)
theorem ml_X3_67 : Cond.methodLink RX3 67 yX3_played ∈ lw_good := x_in 626 (by decide +kernel) (by decide +kernel)
theorem sm_X3_played : Cond.static yX3_played ∈ lw_good := x_in 627 (by decide +kernel) (by decide +kernel)
theorem co_X3_played : Cond.code yX3_played cX3_played 8 (some .int) ∈ lw_good := x_in 628 (by decide +kernel) (by decide +kernel)
theorem ml_X3_75 : Cond.methodLink RX3 75 yJ9_max_7cf53 ∈ lw_good := x_in 629 (by decide +kernel) (by decide +kernel)
theorem ml_L_131 : Cond.methodLink RL 131 yX6_odds ∈ lw_good := x_in 630 (by decide +kernel) (by decide +kernel)
theorem im_X6_odds : Cond.instanceMethod yX6_odds ∈ lw_good := x_in 631 (by decide +kernel) (by decide +kernel)
theorem se_X6_odds : Cond.selects RX6 yX6_odds yX6_odds ∈ lw_good := x_in 632 (by decide +kernel) (by decide +kernel)
theorem co_X6_odds : Cond.code yX6_odds cX6_odds 3 (some .int) ∈ lw_good := x_in 633 (by decide +kernel) (by decide +kernel)
theorem ml_X6_285 : Cond.methodLink RX6 285 yX6_blow ∈ lw_good := x_in 634 (by decide +kernel) (by decide +kernel)
theorem im_X6_blow : Cond.instanceMethod yX6_blow ∈ lw_good := x_in 636 (by decide +kernel) (by decide +kernel)
theorem co_X6_blow : Cond.code yX6_blow cX6_blow 13 (some .int) ∈ lw_good := x_in 637 (by decide +kernel) (by decide +kernel)
theorem ml_X6_348 : Cond.methodLink RX6 348 yX6_power ∈ lw_good := x_in 638 (by decide +kernel) (by decide +kernel)
theorem sm_X6_power : Cond.static yX6_power ∈ lw_good := x_in 639 (by decide +kernel) (by decide +kernel)
theorem co_X6_power : Cond.code yX6_power cX6_power 5 (some .long) ∈ lw_good := x_in 640 (by decide +kernel) (by decide +kernel)
theorem ml_X6_352 : Cond.methodLink RX6 352 yX6_tellPart ∈ lw_good := x_in 641 (by decide +kernel) (by decide +kernel)
theorem im_X6_tellPart : Cond.instanceMethod yX6_tellPart ∈ lw_good := x_in 643 (by decide +kernel) (by decide +kernel)
theorem co_X6_tellPart : Cond.code yX6_tellPart cX6_tellPart 7 (some .int) ∈ lw_good := x_in 644 (by decide +kernel) (by decide +kernel)
theorem ml_X6_355 : Cond.methodLink RX6 355 yX6_greatestDivisor ∈ lw_good := x_in 645 (by decide +kernel) (by decide +kernel)
theorem sm_X6_greatestDivisor : Cond.static yX6_greatestDivisor ∈ lw_good := x_in 646 (by decide +kernel) (by decide +kernel)
theorem co_X6_greatestDivisor : Cond.code yX6_greatestDivisor cX6_greatestDivisor 11 (some .long) ∈ lw_good := x_in 647 (by decide +kernel) (by decide +kernel)
theorem ml_L_141 : Cond.methodLink RL 141 yX6_mid ∈ lw_good := x_in 648 (by decide +kernel) (by decide +kernel)
theorem im_X6_mid : Cond.instanceMethod yX6_mid ∈ lw_good := x_in 649 (by decide +kernel) (by decide +kernel)
theorem se_X6_mid : Cond.selects RX6 yX6_mid yX6_mid ∈ lw_good := x_in 650 (by decide +kernel) (by decide +kernel)
theorem co_X6_mid : Cond.code yX6_mid cX6_mid 2 (some .int) ∈ lw_good := x_in 651 (by decide +kernel) (by decide +kernel)
theorem ml_L_56 : Cond.methodLink RL 56 yX6_lots ∈ lw_good := x_in 652 (by decide +kernel) (by decide +kernel)
theorem im_X6_lots : Cond.instanceMethod yX6_lots ∈ lw_good := x_in 653 (by decide +kernel) (by decide +kernel)
theorem se_X6_lots : Cond.selects RX6 yX6_lots yX6_lots ∈ lw_good := x_in 654 (by decide +kernel) (by decide +kernel)
theorem co_X6_lots : Cond.code yX6_lots cX6_lots 5 (some .int) ∈ lw_good := x_in 655 (by decide +kernel) (by decide +kernel)
theorem kc_X6_288 : Cond.constant RX6 288 (2147483646) ∈ lw_good := x_in 656 (by decide +kernel) (by decide +kernel)
theorem kl_X6_292 : Cond.constantLong RX6 292 (48271) ∈ lw_good := x_in 657 (by decide +kernel) (by decide +kernel)
theorem kl_X6_294 : Cond.constantLong RX6 294 (2147483647) ∈ lw_good := x_in 658 (by decide +kernel) (by decide +kernel)
theorem ml_X6_296 : Cond.methodLink RX6 296 yX2_byLot ∈ lw_good := x_in 659 (by decide +kernel) (by decide +kernel)
theorem im_X2_byLot : Cond.instanceMethod yX2_byLot ∈ lw_good := x_in 660 (by decide +kernel) (by decide +kernel)
theorem se_X2_byLot : Cond.selects RX2 yX2_byLot yX2_byLot ∈ lw_good := x_in 661 (by decide +kernel) (by decide +kernel)
theorem co_X2_byLot : Cond.code yX2_byLot cX2_byLot 6 (some .long) ∈ lw_good := x_in 662 (by decide +kernel) (by decide +kernel)
theorem ml_X2_104 : Cond.methodLink RX2 104 yX5_isParted ∈ lw_good := x_in 663 (by decide +kernel) (by decide +kernel)
theorem ml_X2_107 : Cond.methodLink RX2 107 yX5_isLetGo ∈ lw_good := x_in 664 (by decide +kernel) (by decide +kernel)
theorem ml_X2_110 : Cond.methodLink RX2 110 yX5_afterMadeOff ∈ lw_good := x_in 665 (by decide +kernel) (by decide +kernel)
theorem ml_X2_113 : Cond.methodLink RX2 113 yX5_afterLetGo ∈ lw_good := x_in 666 (by decide +kernel) (by decide +kernel)
theorem ml_X2_116 : Cond.methodLink RX2 116 yX5_afterSpliced ∈ lw_good := x_in 667 (by decide +kernel) (by decide +kernel)
theorem ml_X2_119 : Cond.methodLink RX2 119 yX5_afterFrost ∈ lw_good := x_in 668 (by decide +kernel) (by decide +kernel)
theorem ml_X2_122 : Cond.methodLink RX2 122 yX2_hauled ∈ lw_good := x_in 669 (by decide +kernel) (by decide +kernel)
theorem ml_L_42 : Cond.methodLink RL 42 yX6_asked ∈ lw_good := x_in 670 (by decide +kernel) (by decide +kernel)
theorem im_X6_asked : Cond.instanceMethod yX6_asked ∈ lw_good := x_in 671 (by decide +kernel) (by decide +kernel)
theorem se_X6_asked : Cond.selects RX6 yX6_asked yX6_asked ∈ lw_good := x_in 672 (by decide +kernel) (by decide +kernel)
theorem co_X6_asked : Cond.code yX6_asked cX6_asked 1 (some .int) ∈ lw_good := x_in 673 (by decide +kernel) (by decide +kernel)
theorem ml_L_134 : Cond.methodLink RL 134 yX6_upper ∈ lw_good := x_in 674 (by decide +kernel) (by decide +kernel)
theorem im_X6_upper : Cond.instanceMethod yX6_upper ∈ lw_good := x_in 675 (by decide +kernel) (by decide +kernel)
theorem se_X6_upper : Cond.selects RX6 yX6_upper yX6_upper ∈ lw_good := x_in 676 (by decide +kernel) (by decide +kernel)
theorem co_X6_upper : Cond.code yX6_upper cX6_upper 1 (some .long) ∈ lw_good := x_in 677 (by decide +kernel) (by decide +kernel)
theorem ml_L_138 : Cond.methodLink RL 138 yX6_lower ∈ lw_good := x_in 678 (by decide +kernel) (by decide +kernel)
theorem im_X6_lower : Cond.instanceMethod yX6_lower ∈ lw_good := x_in 679 (by decide +kernel) (by decide +kernel)
theorem se_X6_lower : Cond.selects RX6 yX6_lower yX6_lower ∈ lw_good := x_in 680 (by decide +kernel) (by decide +kernel)
theorem co_X6_lower : Cond.code yX6_lower cX6_lower 1 (some .long) ∈ lw_good := x_in 681 (by decide +kernel) (by decide +kernel)
theorem ml_L_62 : Cond.methodLink RL 62 yX6_count ∈ lw_good := x_in 682 (by decide +kernel) (by decide +kernel)
theorem im_X6_count : Cond.instanceMethod yX6_count ∈ lw_good := x_in 683 (by decide +kernel) (by decide +kernel)
theorem se_X6_count : Cond.selects RX6 yX6_count yX6_count ∈ lw_good := x_in 684 (by decide +kernel) (by decide +kernel)
theorem co_X6_count : Cond.code yX6_count cX6_count 4 (some .int) ∈ lw_good := x_in 685 (by decide +kernel) (by decide +kernel)
theorem ml_X6_166 : Cond.methodLink RX6 166 yX5_taut ∈ lw_good := x_in 686 (by decide +kernel) (by decide +kernel)
theorem ml_X6_305 : Cond.methodLink RX6 305 yX5_allStrains ∈ lw_good := x_in 687 (by decide +kernel) (by decide +kernel)
theorem sm_X5_allStrains : Cond.static yX5_allStrains ∈ lw_good := x_in 688 (by decide +kernel) (by decide +kernel)
theorem co_X5_allStrains : Cond.code yX5_allStrains cX5_allStrains 4 (some .int) ∈ lw_good := x_in 689 (by decide +kernel) (by decide +kernel)
theorem ml_X6_308 : Cond.methodLink RX6 308 yX2_countOf ∈ lw_good := x_in 690 (by decide +kernel) (by decide +kernel)
theorem im_X2_countOf : Cond.instanceMethod yX2_countOf ∈ lw_good := x_in 691 (by decide +kernel) (by decide +kernel)
theorem se_X2_countOf : Cond.selects RX2 yX2_countOf yX2_countOf ∈ lw_good := x_in 692 (by decide +kernel) (by decide +kernel)
theorem co_X2_countOf : Cond.code yX2_countOf cX2_countOf 4 (some .int) ∈ lw_good := x_in 693 (by decide +kernel) (by decide +kernel)
theorem sm_X6_isOf : Cond.static yX6_isOf ∈ lw_good := x_in 695 (by decide +kernel) (by decide +kernel)
theorem co_X6_isOf : Cond.code yX6_isOf cX6_isOf 2 (some .boolean) ∈ lw_good := x_in 696 (by decide +kernel) (by decide +kernel)
theorem ml_X6_311 : Cond.methodLink RX6 311 yX4_countThere ∈ lw_good := x_in 697 (by decide +kernel) (by decide +kernel)
theorem im_X4_countThere : Cond.instanceMethod yX4_countThere ∈ lw_good := x_in 698 (by decide +kernel) (by decide +kernel)
theorem se_X4_countThere : Cond.selects RX4 yX4_countThere yX4_countThere ∈ lw_good := x_in 699 (by decide +kernel) (by decide +kernel)
theorem co_X4_countThere : Cond.code yX4_countThere cX4_countThere 3 (some .int) ∈ lw_good := x_in 700 (by decide +kernel) (by decide +kernel)
theorem ml_X4_58 : Cond.methodLink RX4 58 yX4_isThere ∈ lw_good := x_in 701 (by decide +kernel) (by decide +kernel)
theorem ml_X6_314 : Cond.methodLink RX6 314 yX0_countKept ∈ lw_good := x_in 702 (by decide +kernel) (by decide +kernel)
theorem im_X0_countKept : Cond.instanceMethod yX0_countKept ∈ lw_good := x_in 703 (by decide +kernel) (by decide +kernel)
theorem se_X0_countKept : Cond.selects RX0 yX0_countKept yX0_countKept ∈ lw_good := x_in 704 (by decide +kernel) (by decide +kernel)
theorem co_X0_countKept : Cond.code yX0_countKept cX0_countKept 3 (some .int) ∈ lw_good := x_in 705 (by decide +kernel) (by decide +kernel)
theorem ml_L_153 : Cond.methodLink RL 153 yX6_digest ∈ lw_good := x_in 706 (by decide +kernel) (by decide +kernel)
theorem im_X6_digest : Cond.instanceMethod yX6_digest ∈ lw_good := x_in 707 (by decide +kernel) (by decide +kernel)
theorem se_X6_digest : Cond.selects RX6 yX6_digest yX6_digest ∈ lw_good := x_in 708 (by decide +kernel) (by decide +kernel)
theorem co_X6_digest : Cond.code yX6_digest cX6_digest 5 (some .long) ∈ lw_good := x_in 709 (by decide +kernel) (by decide +kernel)
theorem kl_X6_317 : Cond.constantLong RX6 317 (17) ∈ lw_good := x_in 710 (by decide +kernel) (by decide +kernel)
theorem kl_X6_319 : Cond.constantLong RX6 319 (31) ∈ lw_good := x_in 711 (by decide +kernel) (by decide +kernel)
theorem ml_X6_321 : Cond.methodLink RX6 321 yX6_count ∈ lw_good := x_in 712 (by decide +kernel) (by decide +kernel)
theorem ml_X6_134 : Cond.methodLink RX6 134 yX6_detail ∈ lw_good := x_in 713 (by decide +kernel) (by decide +kernel)
theorem im_X6_detail : Cond.instanceMethod yX6_detail ∈ lw_good := x_in 715 (by decide +kernel) (by decide +kernel)
theorem co_X6_detail : Cond.code yX6_detail cX6_detail 5 (some .int) ∈ lw_good := x_in 716 (by decide +kernel) (by decide +kernel)
theorem ml_X6_157 : Cond.methodLink RX6 157 yX2_target ∈ lw_good := x_in 717 (by decide +kernel) (by decide +kernel)
theorem ml_X6_324 : Cond.methodLink RX6 324 yX4_digestFrom ∈ lw_good := x_in 718 (by decide +kernel) (by decide +kernel)
theorem im_X4_digestFrom : Cond.instanceMethod yX4_digestFrom ∈ lw_good := x_in 719 (by decide +kernel) (by decide +kernel)
theorem se_X4_digestFrom : Cond.selects RX4 yX4_digestFrom yX4_digestFrom ∈ lw_good := x_in 720 (by decide +kernel) (by decide +kernel)
theorem co_X4_digestFrom : Cond.code yX4_digestFrom cX4_digestFrom 7 (some .long) ∈ lw_good := x_in 721 (by decide +kernel) (by decide +kernel)
theorem kl_X4_61 : Cond.constantLong RX4 61 (31) ∈ lw_good := x_in 722 (by decide +kernel) (by decide +kernel)
theorem ml_X4_55 : Cond.methodLink RX4 55 yX4_get ∈ lw_good := x_in 723 (by decide +kernel) (by decide +kernel)
theorem ml_L_9 : Cond.methodLink RL 9 yL_cell ∈ lw_good := x_in 724 (by decide +kernel) (by decide +kernel)
theorem sm_L_cell : Cond.static yL_cell ∈ lw_good := x_in 725 (by decide +kernel) (by decide +kernel)
theorem co_L_cell : Cond.code yL_cell cL_cell 2 (some .int) ∈ lw_good := x_in 726 (by decide +kernel) (by decide +kernel)
theorem kc_L_7 : Cond.constant RL 7 (-779700025) ∈ lw_good := x_in 727 (by decide +kernel) (by decide +kernel)
theorem ml_L_15 : Cond.methodLink RL 15 yL_up ∈ lw_good := x_in 728 (by decide +kernel) (by decide +kernel)
theorem sm_L_up : Cond.static yL_up ∈ lw_good := x_in 729 (by decide +kernel) (by decide +kernel)
theorem co_L_up : Cond.code yL_up cL_up 2 (some .int) ∈ lw_good := x_in 730 (by decide +kernel) (by decide +kernel)
theorem kc_L_8 : Cond.constant RL 8 (2147483647) ∈ lw_good := x_in 731 (by decide +kernel) (by decide +kernel)
theorem ml_L_47 : Cond.methodLink RL 47 yL_lay ∈ lw_good := x_in 732 (by decide +kernel) (by decide +kernel)
theorem sm_L_lay : Cond.static yL_lay ∈ lw_good := x_in 733 (by decide +kernel) (by decide +kernel)
theorem co_L_lay : Cond.code yL_lay cL_lay 4 none ∈ lw_good := x_in 734 (by decide +kernel) (by decide +kernel)
theorem ml_L_51 : Cond.methodLink RL 51 yL_made ∈ lw_good := x_in 735 (by decide +kernel) (by decide +kernel)
theorem sm_L_made : Cond.static yL_made ∈ lw_good := x_in 736 (by decide +kernel) (by decide +kernel)
theorem co_L_made : Cond.code yL_made cL_made 6 (some .boolean) ∈ lw_good := x_in 737 (by decide +kernel) (by decide +kernel)
theorem ml_L_25 : Cond.methodLink RL 25 yX6_text ∈ lw_good := x_in 738 (by decide +kernel) (by decide +kernel)
theorem im_X6_text : Cond.instanceMethod yX6_text ∈ lw_good := x_in 739 (by decide +kernel) (by decide +kernel)
theorem se_X6_text : Cond.selects RX6 yX6_text yX6_text ∈ lw_good := x_in 740 (by decide +kernel) (by decide +kernel)
theorem co_X6_text : Cond.code yX6_text cX6_text 3 (some .int) ∈ lw_good := x_in 741 (by decide +kernel) (by decide +kernel)
theorem ml_L_28 : Cond.methodLink RL 28 yL_sign ∈ lw_good := x_in 742 (by decide +kernel) (by decide +kernel)
theorem sm_L_sign : Cond.static yL_sign ∈ lw_good := x_in 743 (by decide +kernel) (by decide +kernel)
theorem co_L_sign : Cond.code yL_sign cL_sign 3 (some .boolean) ∈ lw_good := x_in 744 (by decide +kernel) (by decide +kernel)
theorem ml_L_19 : Cond.methodLink RL 19 yX6_put ∈ lw_good := x_in 745 (by decide +kernel) (by decide +kernel)
theorem im_X6_put : Cond.instanceMethod yX6_put ∈ lw_good := x_in 746 (by decide +kernel) (by decide +kernel)
theorem se_X6_put : Cond.selects RX6 yX6_put yX6_put ∈ lw_good := x_in 747 (by decide +kernel) (by decide +kernel)
theorem co_X6_put : Cond.code yX6_put cX6_put 6 (some .int) ∈ lw_good := x_in 748 (by decide +kernel) (by decide +kernel)
theorem ml_L_32 : Cond.methodLink RL 32 yL_letter ∈ lw_good := x_in 749 (by decide +kernel) (by decide +kernel)
theorem sm_L_letter : Cond.static yL_letter ∈ lw_good := x_in 750 (by decide +kernel) (by decide +kernel)
theorem co_L_letter : Cond.code yL_letter cL_letter 1 (some .int) ∈ lw_good := x_in 751 (by decide +kernel) (by decide +kernel)
theorem ml_L_102 : Cond.methodLink RL 102 yL_bits ∈ lw_good := x_in 752 (by decide +kernel) (by decide +kernel)
theorem sm_L_bits : Cond.static yL_bits ∈ lw_good := x_in 753 (by decide +kernel) (by decide +kernel)
theorem co_L_bits : Cond.code yL_bits cL_bits 3 (some .int) ∈ lw_good := x_in 754 (by decide +kernel) (by decide +kernel)
theorem ml_L_68 : Cond.methodLink RL 68 yL_told ∈ lw_good := x_in 755 (by decide +kernel) (by decide +kernel)
theorem sm_L_told : Cond.static yL_told ∈ lw_good := x_in 756 (by decide +kernel) (by decide +kernel)
theorem co_L_told : Cond.code yL_told cL_told 3 (some .int) ∈ lw_good := x_in 757 (by decide +kernel) (by decide +kernel)
theorem ml_L_39 : Cond.methodLink RL 39 yX6_rope ∈ lw_good := x_in 758 (by decide +kernel) (by decide +kernel)
theorem im_X6_rope : Cond.instanceMethod yX6_rope ∈ lw_good := x_in 759 (by decide +kernel) (by decide +kernel)
theorem se_X6_rope : Cond.selects RX6 yX6_rope yX6_rope ∈ lw_good := x_in 760 (by decide +kernel) (by decide +kernel)
theorem co_X6_rope : Cond.code yX6_rope cX6_rope 3 (some .int) ∈ lw_good := x_in 761 (by decide +kernel) (by decide +kernel)
theorem kc_L_55 : Cond.constant RL 55 (2000000) ∈ lw_good := x_in 762 (by decide +kernel) (by decide +kernel)
theorem ob_im : Cond.instanceMethod objectInit ∈ lw_good := x_in 41 (by decide +kernel) (by decide +kernel)
theorem ob_co : Cond.code objectInit ⟨#[0xb1]⟩ 1 none ∈ lw_good := x_in 42 (by decide +kernel) (by decide +kernel)
end
section
theorem dX0_init_0 : decode cX0_init 0 = .ok (.aload_n 0, 1) := by decide +kernel
theorem dX0_init_1 : decode cX0_init 1 = .ok (.invokespecial 3, 3) := by decide +kernel
theorem dX0_init_4 : decode cX0_init 4 = .ok (.aload_n 0, 1) := by decide +kernel
theorem dX0_init_5 : decode cX0_init 5 = .ok (.bipush 41, 2) := by decide +kernel
theorem dX0_init_7 : decode cX0_init 7 = .ok (.newarray .long, 2) := by decide +kernel
theorem dX0_init_9 : decode cX0_init 9 = .ok (.putfield 9, 3) := by decide +kernel
theorem dX0_init_12 : decode cX0_init 12 = .ok (.aload_n 0, 1) := by decide +kernel
theorem dX0_init_13 : decode cX0_init 13 = .ok (.iconst 0, 1) := by decide +kernel
theorem dX0_init_14 : decode cX0_init 14 = .ok (.putfield 15, 3) := by decide +kernel
theorem dX0_init_17 : decode cX0_init 17 = .ok (.aload_n 0, 1) := by decide +kernel
theorem dX0_init_18 : decode cX0_init 18 = .ok (.iconst 3, 1) := by decide +kernel
theorem dX0_init_19 : decode cX0_init 19 = .ok (.bipush 41, 2) := by decide +kernel
theorem dX0_init_21 : decode cX0_init 21 = .ok (.multianewarray 19 2, 4) := by decide +kernel
theorem dX0_init_25 : decode cX0_init 25 = .ok (.putfield 21, 3) := by decide +kernel
theorem dX0_init_28 : decode cX0_init 28 = .ok (.aload_n 0, 1) := by decide +kernel
theorem dX0_init_29 : decode cX0_init 29 = .ok (.iconst 3, 1) := by decide +kernel
theorem dX0_init_30 : decode cX0_init 30 = .ok (.newarray .int, 2) := by decide +kernel
theorem dX0_init_32 : decode cX0_init 32 = .ok (.putfield 24, 3) := by decide +kernel
theorem dX0_init_35 : decode cX0_init 35 = .ok (.iconst 0, 1) := by decide +kernel
theorem dX0_init_36 : decode cX0_init 36 = .ok (.istore_n 1, 1) := by decide +kernel
theorem dX0_init_37 : decode cX0_init 37 = .ok (.iload_n 1, 1) := by decide +kernel
theorem dX0_init_38 : decode cX0_init 38 = .ok (.iconst 3, 1) := by decide +kernel
theorem dX0_init_39 : decode cX0_init 39 = .ok (.if_icmp .ge 16, 3) := by decide +kernel
theorem dX0_init_42 : decode cX0_init 42 = .ok (.aload_n 0, 1) := by decide +kernel
theorem dX0_init_43 : decode cX0_init 43 = .ok (.getfield 24, 3) := by decide +kernel
theorem dX0_init_46 : decode cX0_init 46 = .ok (.iload_n 1, 1) := by decide +kernel
theorem dX0_init_47 : decode cX0_init 47 = .ok (.iconst (-1), 1) := by decide +kernel
theorem dX0_init_48 : decode cX0_init 48 = .ok (.iastore, 1) := by decide +kernel
theorem dX0_init_49 : decode cX0_init 49 = .ok (.iinc 1 1, 3) := by decide +kernel
theorem dX0_init_52 : decode cX0_init 52 = .ok (.goto (-15), 3) := by decide +kernel
theorem dX0_init_55 : decode cX0_init 55 = .ok (.return_, 1) := by decide +kernel
theorem dX0_begin_0 : decode cX0_begin 0 = .ok (.aload_n 0, 1) := by decide +kernel
theorem dX0_begin_1 : decode cX0_begin 1 = .ok (.iconst 0, 1) := by decide +kernel
theorem dX0_begin_2 : decode cX0_begin 2 = .ok (.putfield 15, 3) := by decide +kernel
theorem dX0_begin_5 : decode cX0_begin 5 = .ok (.aload_n 0, 1) := by decide +kernel
theorem dX0_begin_6 : decode cX0_begin 6 = .ok (.getfield 9, 3) := by decide +kernel
theorem dX0_begin_9 : decode cX0_begin 9 = .ok (.iconst 0, 1) := by decide +kernel
theorem dX0_begin_10 : decode cX0_begin 10 = .ok (.lload_n 1, 1) := by decide +kernel
theorem dX0_begin_11 : decode cX0_begin 11 = .ok (.lastore, 1) := by decide +kernel
theorem dX0_begin_12 : decode cX0_begin 12 = .ok (.iconst 0, 1) := by decide +kernel
theorem dX0_begin_13 : decode cX0_begin 13 = .ok (.istore_n 3, 1) := by decide +kernel
theorem dX0_begin_14 : decode cX0_begin 14 = .ok (.iload_n 3, 1) := by decide +kernel
theorem dX0_begin_15 : decode cX0_begin 15 = .ok (.iconst 3, 1) := by decide +kernel
theorem dX0_begin_16 : decode cX0_begin 16 = .ok (.if_icmp .ge 16, 3) := by decide +kernel
theorem dX0_begin_19 : decode cX0_begin 19 = .ok (.aload_n 0, 1) := by decide +kernel
theorem dX0_begin_20 : decode cX0_begin 20 = .ok (.getfield 24, 3) := by decide +kernel
theorem dX0_begin_23 : decode cX0_begin 23 = .ok (.iload_n 3, 1) := by decide +kernel
theorem dX0_begin_24 : decode cX0_begin 24 = .ok (.iconst (-1), 1) := by decide +kernel
theorem dX0_begin_25 : decode cX0_begin 25 = .ok (.iastore, 1) := by decide +kernel
theorem dX0_begin_26 : decode cX0_begin 26 = .ok (.iinc 3 1, 3) := by decide +kernel
theorem dX0_begin_29 : decode cX0_begin 29 = .ok (.goto (-15), 3) := by decide +kernel
theorem dX0_begin_32 : decode cX0_begin 32 = .ok (.return_, 1) := by decide +kernel
theorem dX0_deeds_0 : decode cX0_deeds 0 = .ok (.aload_n 0, 1) := by decide +kernel
theorem dX0_deeds_1 : decode cX0_deeds 1 = .ok (.getfield 15, 3) := by decide +kernel
theorem dX0_deeds_4 : decode cX0_deeds 4 = .ok (.ireturn, 1) := by decide +kernel
theorem dX0_now_0 : decode cX0_now 0 = .ok (.aload_n 0, 1) := by decide +kernel
theorem dX0_now_1 : decode cX0_now 1 = .ok (.getfield 15, 3) := by decide +kernel
theorem dX0_now_4 : decode cX0_now 4 = .ok (.ifCond .lt 24, 3) := by decide +kernel
theorem dX0_now_7 : decode cX0_now 7 = .ok (.aload_n 0, 1) := by decide +kernel
theorem dX0_now_8 : decode cX0_now 8 = .ok (.getfield 15, 3) := by decide +kernel
theorem dX0_now_11 : decode cX0_now 11 = .ok (.bipush 40, 2) := by decide +kernel
theorem dX0_now_13 : decode cX0_now 13 = .ok (.if_icmp .gt 15, 3) := by decide +kernel
theorem dX0_now_16 : decode cX0_now 16 = .ok (.aload_n 0, 1) := by decide +kernel
theorem dX0_now_17 : decode cX0_now 17 = .ok (.getfield 9, 3) := by decide +kernel
theorem dX0_now_20 : decode cX0_now 20 = .ok (.aload_n 0, 1) := by decide +kernel
theorem dX0_now_21 : decode cX0_now 21 = .ok (.getfield 15, 3) := by decide +kernel
theorem dX0_now_24 : decode cX0_now 24 = .ok (.laload, 1) := by decide +kernel
theorem dX0_now_25 : decode cX0_now 25 = .ok (.goto 4, 3) := by decide +kernel
theorem dX0_now_28 : decode cX0_now 28 = .ok (.lconst 0, 1) := by decide +kernel
theorem dX0_now_29 : decode cX0_now 29 = .ok (.lreturn, 1) := by decide +kernel
theorem dX0_isFull_0 : decode cX0_isFull 0 = .ok (.aload_n 0, 1) := by decide +kernel
theorem dX0_isFull_1 : decode cX0_isFull 1 = .ok (.getfield 15, 3) := by decide +kernel
theorem dX0_isFull_4 : decode cX0_isFull 4 = .ok (.iload_n 1, 1) := by decide +kernel
theorem dX0_isFull_5 : decode cX0_isFull 5 = .ok (.iadd, 1) := by decide +kernel
theorem dX0_isFull_6 : decode cX0_isFull 6 = .ok (.bipush 40, 2) := by decide +kernel
theorem dX0_isFull_8 : decode cX0_isFull 8 = .ok (.if_icmp .le 7, 3) := by decide +kernel
theorem dX0_isFull_11 : decode cX0_isFull 11 = .ok (.iconst 1, 1) := by decide +kernel
theorem dX0_isFull_12 : decode cX0_isFull 12 = .ok (.goto 4, 3) := by decide +kernel
theorem dX0_isFull_15 : decode cX0_isFull 15 = .ok (.iconst 0, 1) := by decide +kernel
theorem dX0_isFull_16 : decode cX0_isFull 16 = .ok (.ireturn, 1) := by decide +kernel
theorem dX0_add_0 : decode cX0_add 0 = .ok (.aload_n 0, 1) := by decide +kernel
theorem dX0_add_1 : decode cX0_add 1 = .ok (.getfield 15, 3) := by decide +kernel
theorem dX0_add_4 : decode cX0_add 4 = .ok (.ifCond .lt 32, 3) := by decide +kernel
theorem dX0_add_7 : decode cX0_add 7 = .ok (.aload_n 0, 1) := by decide +kernel
theorem dX0_add_8 : decode cX0_add 8 = .ok (.getfield 15, 3) := by decide +kernel
theorem dX0_add_11 : decode cX0_add 11 = .ok (.bipush 40, 2) := by decide +kernel
theorem dX0_add_13 : decode cX0_add 13 = .ok (.if_icmp .ge 23, 3) := by decide +kernel
theorem dX0_add_16 : decode cX0_add 16 = .ok (.aload_n 0, 1) := by decide +kernel
theorem dX0_add_17 : decode cX0_add 17 = .ok (.dup, 1) := by decide +kernel
theorem dX0_add_18 : decode cX0_add 18 = .ok (.getfield 15, 3) := by decide +kernel
theorem dX0_add_21 : decode cX0_add 21 = .ok (.iconst 1, 1) := by decide +kernel
theorem dX0_add_22 : decode cX0_add 22 = .ok (.iadd, 1) := by decide +kernel
theorem dX0_add_23 : decode cX0_add 23 = .ok (.putfield 15, 3) := by decide +kernel
theorem dX0_add_26 : decode cX0_add 26 = .ok (.aload_n 0, 1) := by decide +kernel
theorem dX0_add_27 : decode cX0_add 27 = .ok (.getfield 9, 3) := by decide +kernel
theorem dX0_add_30 : decode cX0_add 30 = .ok (.aload_n 0, 1) := by decide +kernel
theorem dX0_add_31 : decode cX0_add 31 = .ok (.getfield 15, 3) := by decide +kernel
theorem dX0_add_34 : decode cX0_add 34 = .ok (.lload_n 1, 1) := by decide +kernel
theorem dX0_add_35 : decode cX0_add 35 = .ok (.lastore, 1) := by decide +kernel
theorem dX0_add_36 : decode cX0_add 36 = .ok (.return_, 1) := by decide +kernel
theorem dX0_goBack_0 : decode cX0_goBack 0 = .ok (.iload_n 1, 1) := by decide +kernel
theorem dX0_goBack_1 : decode cX0_goBack 1 = .ok (.ifCond .lt 16, 3) := by decide +kernel
theorem dX0_goBack_4 : decode cX0_goBack 4 = .ok (.iload_n 1, 1) := by decide +kernel
theorem dX0_goBack_5 : decode cX0_goBack 5 = .ok (.aload_n 0, 1) := by decide +kernel
theorem dX0_goBack_6 : decode cX0_goBack 6 = .ok (.getfield 15, 3) := by decide +kernel
theorem dX0_goBack_9 : decode cX0_goBack 9 = .ok (.if_icmp .gt 8, 3) := by decide +kernel
theorem dX0_goBack_12 : decode cX0_goBack 12 = .ok (.aload_n 0, 1) := by decide +kernel
theorem dX0_goBack_13 : decode cX0_goBack 13 = .ok (.iload_n 1, 1) := by decide +kernel
theorem dX0_goBack_14 : decode cX0_goBack 14 = .ok (.putfield 15, 3) := by decide +kernel
theorem dX0_goBack_17 : decode cX0_goBack 17 = .ok (.return_, 1) := by decide +kernel
theorem dX0_isKeepingPlace_0 : decode cX0_isKeepingPlace 0 = .ok (.iload_n 1, 1) := by decide +kernel
theorem dX0_isKeepingPlace_1 : decode cX0_isKeepingPlace 1 = .ok (.ifCond .lt 12, 3) := by decide +kernel
theorem dX0_isKeepingPlace_4 : decode cX0_isKeepingPlace 4 = .ok (.iload_n 1, 1) := by decide +kernel
theorem dX0_isKeepingPlace_5 : decode cX0_isKeepingPlace 5 = .ok (.iconst 3, 1) := by decide +kernel
theorem dX0_isKeepingPlace_6 : decode cX0_isKeepingPlace 6 = .ok (.if_icmp .ge 7, 3) := by decide +kernel
theorem dX0_isKeepingPlace_9 : decode cX0_isKeepingPlace 9 = .ok (.iconst 1, 1) := by decide +kernel
theorem dX0_isKeepingPlace_10 : decode cX0_isKeepingPlace 10 = .ok (.goto 4, 3) := by decide +kernel
theorem dX0_isKeepingPlace_13 : decode cX0_isKeepingPlace 13 = .ok (.iconst 0, 1) := by decide +kernel
theorem dX0_isKeepingPlace_14 : decode cX0_isKeepingPlace 14 = .ok (.ireturn, 1) := by decide +kernel
theorem dX0_deedsKept_0 : decode cX0_deedsKept 0 = .ok (.aload_n 0, 1) := by decide +kernel
theorem dX0_deedsKept_1 : decode cX0_deedsKept 1 = .ok (.iload_n 1, 1) := by decide +kernel
theorem dX0_deedsKept_2 : decode cX0_deedsKept 2 = .ok (.invokevirtual 28, 3) := by decide +kernel
theorem dX0_deedsKept_5 : decode cX0_deedsKept 5 = .ok (.ifCond .eq 12, 3) := by decide +kernel
theorem dX0_deedsKept_8 : decode cX0_deedsKept 8 = .ok (.aload_n 0, 1) := by decide +kernel
theorem dX0_deedsKept_9 : decode cX0_deedsKept 9 = .ok (.getfield 24, 3) := by decide +kernel
theorem dX0_deedsKept_12 : decode cX0_deedsKept 12 = .ok (.iload_n 1, 1) := by decide +kernel
theorem dX0_deedsKept_13 : decode cX0_deedsKept 13 = .ok (.iaload, 1) := by decide +kernel
theorem dX0_deedsKept_14 : decode cX0_deedsKept 14 = .ok (.goto 4, 3) := by decide +kernel
theorem dX0_deedsKept_17 : decode cX0_deedsKept 17 = .ok (.iconst (-1), 1) := by decide +kernel
theorem dX0_deedsKept_18 : decode cX0_deedsKept 18 = .ok (.ireturn, 1) := by decide +kernel
theorem dX0_countKept_0 : decode cX0_countKept 0 = .ok (.iconst 0, 1) := by decide +kernel
theorem dX0_countKept_1 : decode cX0_countKept 1 = .ok (.istore_n 1, 1) := by decide +kernel
theorem dX0_countKept_2 : decode cX0_countKept 2 = .ok (.iconst 0, 1) := by decide +kernel
theorem dX0_countKept_3 : decode cX0_countKept 3 = .ok (.istore_n 2, 1) := by decide +kernel
theorem dX0_countKept_4 : decode cX0_countKept 4 = .ok (.iload_n 2, 1) := by decide +kernel
theorem dX0_countKept_5 : decode cX0_countKept 5 = .ok (.iconst 3, 1) := by decide +kernel
theorem dX0_countKept_6 : decode cX0_countKept 6 = .ok (.if_icmp .ge 22, 3) := by decide +kernel
theorem dX0_countKept_9 : decode cX0_countKept 9 = .ok (.aload_n 0, 1) := by decide +kernel
theorem dX0_countKept_10 : decode cX0_countKept 10 = .ok (.getfield 24, 3) := by decide +kernel
theorem dX0_countKept_13 : decode cX0_countKept 13 = .ok (.iload_n 2, 1) := by decide +kernel
theorem dX0_countKept_14 : decode cX0_countKept 14 = .ok (.iaload, 1) := by decide +kernel
theorem dX0_countKept_15 : decode cX0_countKept 15 = .ok (.iconst (-1), 1) := by decide +kernel
theorem dX0_countKept_16 : decode cX0_countKept 16 = .ok (.if_icmp .eq 6, 3) := by decide +kernel
theorem dX0_countKept_19 : decode cX0_countKept 19 = .ok (.iinc 1 1, 3) := by decide +kernel
theorem dX0_countKept_22 : decode cX0_countKept 22 = .ok (.iinc 2 1, 3) := by decide +kernel
theorem dX0_countKept_25 : decode cX0_countKept 25 = .ok (.goto (-21), 3) := by decide +kernel
theorem dX0_countKept_28 : decode cX0_countKept 28 = .ok (.iload_n 1, 1) := by decide +kernel
theorem dX0_countKept_29 : decode cX0_countKept 29 = .ok (.ireturn, 1) := by decide +kernel
theorem dX0_store_0 : decode cX0_store 0 = .ok (.aload_n 0, 1) := by decide +kernel
theorem dX0_store_1 : decode cX0_store 1 = .ok (.iload_n 1, 1) := by decide +kernel
theorem dX0_store_2 : decode cX0_store 2 = .ok (.invokevirtual 28, 3) := by decide +kernel
theorem dX0_store_5 : decode cX0_store 5 = .ok (.ifCond .eq 49, 3) := by decide +kernel
theorem dX0_store_8 : decode cX0_store 8 = .ok (.iconst 0, 1) := by decide +kernel
theorem dX0_store_9 : decode cX0_store 9 = .ok (.istore_n 2, 1) := by decide +kernel
theorem dX0_store_10 : decode cX0_store 10 = .ok (.iload_n 2, 1) := by decide +kernel
theorem dX0_store_11 : decode cX0_store 11 = .ok (.aload_n 0, 1) := by decide +kernel
theorem dX0_store_12 : decode cX0_store 12 = .ok (.getfield 15, 3) := by decide +kernel
theorem dX0_store_15 : decode cX0_store 15 = .ok (.if_icmp .gt 29, 3) := by decide +kernel
theorem dX0_store_18 : decode cX0_store 18 = .ok (.iload_n 2, 1) := by decide +kernel
theorem dX0_store_19 : decode cX0_store 19 = .ok (.bipush 40, 2) := by decide +kernel
theorem dX0_store_21 : decode cX0_store 21 = .ok (.if_icmp .gt 23, 3) := by decide +kernel
theorem dX0_store_24 : decode cX0_store 24 = .ok (.aload_n 0, 1) := by decide +kernel
theorem dX0_store_25 : decode cX0_store 25 = .ok (.getfield 21, 3) := by decide +kernel
theorem dX0_store_28 : decode cX0_store 28 = .ok (.iload_n 1, 1) := by decide +kernel
theorem dX0_store_29 : decode cX0_store 29 = .ok (.aaload, 1) := by decide +kernel
theorem dX0_store_30 : decode cX0_store 30 = .ok (.iload_n 2, 1) := by decide +kernel
theorem dX0_store_31 : decode cX0_store 31 = .ok (.aload_n 0, 1) := by decide +kernel
theorem dX0_store_32 : decode cX0_store 32 = .ok (.getfield 9, 3) := by decide +kernel
theorem dX0_store_35 : decode cX0_store 35 = .ok (.iload_n 2, 1) := by decide +kernel
theorem dX0_store_36 : decode cX0_store 36 = .ok (.laload, 1) := by decide +kernel
theorem dX0_store_37 : decode cX0_store 37 = .ok (.lastore, 1) := by decide +kernel
theorem dX0_store_38 : decode cX0_store 38 = .ok (.iinc 2 1, 3) := by decide +kernel
theorem dX0_store_41 : decode cX0_store 41 = .ok (.goto (-31), 3) := by decide +kernel
theorem dX0_store_44 : decode cX0_store 44 = .ok (.aload_n 0, 1) := by decide +kernel
theorem dX0_store_45 : decode cX0_store 45 = .ok (.getfield 24, 3) := by decide +kernel
theorem dX0_store_48 : decode cX0_store 48 = .ok (.iload_n 1, 1) := by decide +kernel
theorem dX0_store_49 : decode cX0_store 49 = .ok (.aload_n 0, 1) := by decide +kernel
theorem dX0_store_50 : decode cX0_store 50 = .ok (.getfield 15, 3) := by decide +kernel
theorem dX0_store_53 : decode cX0_store 53 = .ok (.iastore, 1) := by decide +kernel
theorem dX0_store_54 : decode cX0_store 54 = .ok (.return_, 1) := by decide +kernel
theorem dX0_restore_0 : decode cX0_restore 0 = .ok (.aload_n 0, 1) := by decide +kernel
theorem dX0_restore_1 : decode cX0_restore 1 = .ok (.iload_n 1, 1) := by decide +kernel
theorem dX0_restore_2 : decode cX0_restore 2 = .ok (.invokevirtual 28, 3) := by decide +kernel
theorem dX0_restore_5 : decode cX0_restore 5 = .ok (.ifCond .eq 59, 3) := by decide +kernel
theorem dX0_restore_8 : decode cX0_restore 8 = .ok (.aload_n 0, 1) := by decide +kernel
theorem dX0_restore_9 : decode cX0_restore 9 = .ok (.getfield 24, 3) := by decide +kernel
theorem dX0_restore_12 : decode cX0_restore 12 = .ok (.iload_n 1, 1) := by decide +kernel
theorem dX0_restore_13 : decode cX0_restore 13 = .ok (.iaload, 1) := by decide +kernel
theorem dX0_restore_14 : decode cX0_restore 14 = .ok (.iconst (-1), 1) := by decide +kernel
theorem dX0_restore_15 : decode cX0_restore 15 = .ok (.if_icmp .eq 49, 3) := by decide +kernel
theorem dX0_restore_18 : decode cX0_restore 18 = .ok (.aload_n 0, 1) := by decide +kernel
theorem dX0_restore_19 : decode cX0_restore 19 = .ok (.aload_n 0, 1) := by decide +kernel
theorem dX0_restore_20 : decode cX0_restore 20 = .ok (.getfield 24, 3) := by decide +kernel
theorem dX0_restore_23 : decode cX0_restore 23 = .ok (.iload_n 1, 1) := by decide +kernel
theorem dX0_restore_24 : decode cX0_restore 24 = .ok (.iaload, 1) := by decide +kernel
theorem dX0_restore_25 : decode cX0_restore 25 = .ok (.putfield 15, 3) := by decide +kernel
theorem dX0_restore_28 : decode cX0_restore 28 = .ok (.iconst 0, 1) := by decide +kernel
theorem dX0_restore_29 : decode cX0_restore 29 = .ok (.istore_n 2, 1) := by decide +kernel
theorem dX0_restore_30 : decode cX0_restore 30 = .ok (.iload_n 2, 1) := by decide +kernel
theorem dX0_restore_31 : decode cX0_restore 31 = .ok (.aload_n 0, 1) := by decide +kernel
theorem dX0_restore_32 : decode cX0_restore 32 = .ok (.getfield 15, 3) := by decide +kernel
theorem dX0_restore_35 : decode cX0_restore 35 = .ok (.if_icmp .gt 29, 3) := by decide +kernel
theorem dX0_restore_38 : decode cX0_restore 38 = .ok (.iload_n 2, 1) := by decide +kernel
theorem dX0_restore_39 : decode cX0_restore 39 = .ok (.bipush 40, 2) := by decide +kernel
theorem dX0_restore_41 : decode cX0_restore 41 = .ok (.if_icmp .gt 23, 3) := by decide +kernel
theorem dX0_restore_44 : decode cX0_restore 44 = .ok (.aload_n 0, 1) := by decide +kernel
theorem dX0_restore_45 : decode cX0_restore 45 = .ok (.getfield 9, 3) := by decide +kernel
theorem dX0_restore_48 : decode cX0_restore 48 = .ok (.iload_n 2, 1) := by decide +kernel
theorem dX0_restore_49 : decode cX0_restore 49 = .ok (.aload_n 0, 1) := by decide +kernel
theorem dX0_restore_50 : decode cX0_restore 50 = .ok (.getfield 21, 3) := by decide +kernel
theorem dX0_restore_53 : decode cX0_restore 53 = .ok (.iload_n 1, 1) := by decide +kernel
theorem dX0_restore_54 : decode cX0_restore 54 = .ok (.aaload, 1) := by decide +kernel
theorem dX0_restore_55 : decode cX0_restore 55 = .ok (.iload_n 2, 1) := by decide +kernel
theorem dX0_restore_56 : decode cX0_restore 56 = .ok (.laload, 1) := by decide +kernel
theorem dX0_restore_57 : decode cX0_restore 57 = .ok (.lastore, 1) := by decide +kernel
theorem dX0_restore_58 : decode cX0_restore 58 = .ok (.iinc 2 1, 3) := by decide +kernel
theorem dX0_restore_61 : decode cX0_restore 61 = .ok (.goto (-31), 3) := by decide +kernel
theorem dX0_restore_64 : decode cX0_restore 64 = .ok (.return_, 1) := by decide +kernel
theorem dX1_init_0 : decode cX1_init 0 = .ok (.aload_n 0, 1) := by decide +kernel
theorem dX1_init_1 : decode cX1_init 1 = .ok (.invokespecial 3, 3) := by decide +kernel
theorem dX1_init_4 : decode cX1_init 4 = .ok (.aload_n 0, 1) := by decide +kernel
theorem dX1_init_5 : decode cX1_init 5 = .ok (.bipush 60, 2) := by decide +kernel
theorem dX1_init_7 : decode cX1_init 7 = .ok (.newarray .int, 2) := by decide +kernel
theorem dX1_init_9 : decode cX1_init 9 = .ok (.putfield 9, 3) := by decide +kernel
theorem dX1_init_12 : decode cX1_init 12 = .ok (.aload_n 0, 1) := by decide +kernel
theorem dX1_init_13 : decode cX1_init 13 = .ok (.iconst 0, 1) := by decide +kernel
theorem dX1_init_14 : decode cX1_init 14 = .ok (.putfield 15, 3) := by decide +kernel
theorem dX1_init_17 : decode cX1_init 17 = .ok (.aload_n 0, 1) := by decide +kernel
theorem dX1_init_18 : decode cX1_init 18 = .ok (.iconst 0, 1) := by decide +kernel
theorem dX1_init_19 : decode cX1_init 19 = .ok (.putfield 19, 3) := by decide +kernel
theorem dX1_init_22 : decode cX1_init 22 = .ok (.aload_n 0, 1) := by decide +kernel
theorem dX1_init_23 : decode cX1_init 23 = .ok (.bipush (-9), 2) := by decide +kernel
theorem dX1_init_25 : decode cX1_init 25 = .ok (.putfield 22, 3) := by decide +kernel
theorem dX1_init_28 : decode cX1_init 28 = .ok (.aload_n 0, 1) := by decide +kernel
theorem dX1_init_29 : decode cX1_init 29 = .ok (.iconst 0, 1) := by decide +kernel
theorem dX1_init_30 : decode cX1_init 30 = .ok (.putfield 25, 3) := by decide +kernel
theorem dX1_init_33 : decode cX1_init 33 = .ok (.return_, 1) := by decide +kernel
theorem dX1_read_0 : decode cX1_read 0 = .ok (.aload_n 0, 1) := by decide +kernel
theorem dX1_read_1 : decode cX1_read 1 = .ok (.aload_n 1, 1) := by decide +kernel
theorem dX1_read_2 : decode cX1_read 2 = .ok (.iload_n 2, 1) := by decide +kernel
theorem dX1_read_3 : decode cX1_read 3 = .ok (.invokevirtual 29, 3) := by decide +kernel
theorem dX1_read_6 : decode cX1_read 6 = .ok (.aload_n 3, 1) := by decide +kernel
theorem dX1_read_7 : decode cX1_read 7 = .ok (.invokevirtual 33, 3) := by decide +kernel
theorem dX1_read_10 : decode cX1_read 10 = .ok (.iconst 0, 1) := by decide +kernel
theorem dX1_read_11 : decode cX1_read 11 = .ok (.istore 4, 2) := by decide +kernel
theorem dX1_read_13 : decode cX1_read 13 = .ok (.iload 4, 2) := by decide +kernel
theorem dX1_read_15 : decode cX1_read 15 = .ok (.bipush 60, 2) := by decide +kernel
theorem dX1_read_17 : decode cX1_read 17 = .ok (.if_icmp .ge 30, 3) := by decide +kernel
theorem dX1_read_20 : decode cX1_read 20 = .ok (.aload_n 0, 1) := by decide +kernel
theorem dX1_read_21 : decode cX1_read 21 = .ok (.getfield 22, 3) := by decide +kernel
theorem dX1_read_24 : decode cX1_read 24 = .ok (.bipush (-9), 2) := by decide +kernel
theorem dX1_read_26 : decode cX1_read 26 = .ok (.if_icmp .ne 21, 3) := by decide +kernel
theorem dX1_read_29 : decode cX1_read 29 = .ok (.aload_n 0, 1) := by decide +kernel
theorem dX1_read_30 : decode cX1_read 30 = .ok (.invokevirtual 38, 3) := by decide +kernel
theorem dX1_read_33 : decode cX1_read 33 = .ok (.ifCond .eq 14, 3) := by decide +kernel
theorem dX1_read_36 : decode cX1_read 36 = .ok (.aload_n 0, 1) := by decide +kernel
theorem dX1_read_37 : decode cX1_read 37 = .ok (.aload_n 3, 1) := by decide +kernel
theorem dX1_read_38 : decode cX1_read 38 = .ok (.invokevirtual 42, 3) := by decide +kernel
theorem dX1_read_41 : decode cX1_read 41 = .ok (.iinc 4 1, 3) := by decide +kernel
theorem dX1_read_44 : decode cX1_read 44 = .ok (.goto (-31), 3) := by decide +kernel
theorem dX1_read_47 : decode cX1_read 47 = .ok (.aload_n 0, 1) := by decide +kernel
theorem dX1_read_48 : decode cX1_read 48 = .ok (.getfield 22, 3) := by decide +kernel
theorem dX1_read_51 : decode cX1_read 51 = .ok (.bipush (-9), 2) := by decide +kernel
theorem dX1_read_53 : decode cX1_read 53 = .ok (.if_icmp .ne 18, 3) := by decide +kernel
theorem dX1_read_56 : decode cX1_read 56 = .ok (.aload_n 3, 1) := by decide +kernel
theorem dX1_read_57 : decode cX1_read 57 = .ok (.getfield 46, 3) := by decide +kernel
theorem dX1_read_60 : decode cX1_read 60 = .ok (.ifCond .ne 11, 3) := by decide +kernel
theorem dX1_read_63 : decode cX1_read 63 = .ok (.aload_n 0, 1) := by decide +kernel
theorem dX1_read_64 : decode cX1_read 64 = .ok (.aload_n 0, 1) := by decide +kernel
theorem dX1_read_65 : decode cX1_read 65 = .ok (.getfield 15, 3) := by decide +kernel
theorem dX1_read_68 : decode cX1_read 68 = .ok (.putfield 22, 3) := by decide +kernel
theorem dX1_read_71 : decode cX1_read 71 = .ok (.aload_n 0, 1) := by decide +kernel
theorem dX1_read_72 : decode cX1_read 72 = .ok (.getfield 22, 3) := by decide +kernel
theorem dX1_read_75 : decode cX1_read 75 = .ok (.ireturn, 1) := by decide +kernel
theorem dX1_take_0 : decode cX1_take 0 = .ok (.aload_n 0, 1) := by decide +kernel
theorem dX1_take_1 : decode cX1_take 1 = .ok (.aload_n 1, 1) := by decide +kernel
theorem dX1_take_2 : decode cX1_take 2 = .ok (.iload_n 2, 1) := by decide +kernel
theorem dX1_take_3 : decode cX1_take 3 = .ok (.invokevirtual 49, 3) := by decide +kernel
theorem dX1_take_6 : decode cX1_take 6 = .ok (.aload_n 0, 1) := by decide +kernel
theorem dX1_take_7 : decode cX1_take 7 = .ok (.getfield 9, 3) := by decide +kernel
theorem dX1_take_10 : decode cX1_take 10 = .ok (.arraylength, 1) := by decide +kernel
theorem dX1_take_11 : decode cX1_take 11 = .ok (.invokestatic 54, 3) := by decide +kernel
theorem dX1_take_14 : decode cX1_take 14 = .ok (.putfield 15, 3) := by decide +kernel
theorem dX1_take_17 : decode cX1_take 17 = .ok (.iconst 0, 1) := by decide +kernel
theorem dX1_take_18 : decode cX1_take 18 = .ok (.istore_n 3, 1) := by decide +kernel
theorem dX1_take_19 : decode cX1_take 19 = .ok (.iload_n 3, 1) := by decide +kernel
theorem dX1_take_20 : decode cX1_take 20 = .ok (.aload_n 0, 1) := by decide +kernel
theorem dX1_take_21 : decode cX1_take 21 = .ok (.getfield 15, 3) := by decide +kernel
theorem dX1_take_24 : decode cX1_take 24 = .ok (.if_icmp .ge 21, 3) := by decide +kernel
theorem dX1_take_27 : decode cX1_take 27 = .ok (.aload_n 0, 1) := by decide +kernel
theorem dX1_take_28 : decode cX1_take 28 = .ok (.getfield 9, 3) := by decide +kernel
theorem dX1_take_31 : decode cX1_take 31 = .ok (.iload_n 3, 1) := by decide +kernel
theorem dX1_take_32 : decode cX1_take 32 = .ok (.aload_n 1, 1) := by decide +kernel
theorem dX1_take_33 : decode cX1_take 33 = .ok (.iload_n 2, 1) := by decide +kernel
theorem dX1_take_34 : decode cX1_take 34 = .ok (.iload_n 3, 1) := by decide +kernel
theorem dX1_take_35 : decode cX1_take 35 = .ok (.invokevirtual 60, 3) := by decide +kernel
theorem dX1_take_38 : decode cX1_take 38 = .ok (.iastore, 1) := by decide +kernel
theorem dX1_take_39 : decode cX1_take 39 = .ok (.iinc 3 1, 3) := by decide +kernel
theorem dX1_take_42 : decode cX1_take 42 = .ok (.goto (-23), 3) := by decide +kernel
theorem dX1_take_45 : decode cX1_take 45 = .ok (.aload_n 0, 1) := by decide +kernel
theorem dX1_take_46 : decode cX1_take 46 = .ok (.iconst 0, 1) := by decide +kernel
theorem dX1_take_47 : decode cX1_take 47 = .ok (.putfield 19, 3) := by decide +kernel
theorem dX1_take_50 : decode cX1_take 50 = .ok (.aload_n 0, 1) := by decide +kernel
theorem dX1_take_51 : decode cX1_take 51 = .ok (.bipush (-9), 2) := by decide +kernel
theorem dX1_take_53 : decode cX1_take 53 = .ok (.putfield 22, 3) := by decide +kernel
theorem dX1_take_56 : decode cX1_take 56 = .ok (.aload_n 0, 1) := by decide +kernel
theorem dX1_take_57 : decode cX1_take 57 = .ok (.iconst 0, 1) := by decide +kernel
theorem dX1_take_58 : decode cX1_take 58 = .ok (.putfield 25, 3) := by decide +kernel
theorem dX1_take_61 : decode cX1_take 61 = .ok (.return_, 1) := by decide +kernel
theorem dX1_isMoreAhead_0 : decode cX1_isMoreAhead 0 = .ok (.aload_n 0, 1) := by decide +kernel
theorem dX1_isMoreAhead_1 : decode cX1_isMoreAhead 1 = .ok (.getfield 19, 3) := by decide +kernel
theorem dX1_isMoreAhead_4 : decode cX1_isMoreAhead 4 = .ok (.aload_n 0, 1) := by decide +kernel
theorem dX1_isMoreAhead_5 : decode cX1_isMoreAhead 5 = .ok (.getfield 15, 3) := by decide +kernel
theorem dX1_isMoreAhead_8 : decode cX1_isMoreAhead 8 = .ok (.if_icmp .ge 25, 3) := by decide +kernel
theorem dX1_isMoreAhead_11 : decode cX1_isMoreAhead 11 = .ok (.aload_n 0, 1) := by decide +kernel
theorem dX1_isMoreAhead_12 : decode cX1_isMoreAhead 12 = .ok (.invokevirtual 63, 3) := by decide +kernel
theorem dX1_isMoreAhead_15 : decode cX1_isMoreAhead 15 = .ok (.bipush 32, 2) := by decide +kernel
theorem dX1_isMoreAhead_17 : decode cX1_isMoreAhead 17 = .ok (.if_icmp .ne 16, 3) := by decide +kernel
theorem dX1_isMoreAhead_20 : decode cX1_isMoreAhead 20 = .ok (.aload_n 0, 1) := by decide +kernel
theorem dX1_isMoreAhead_21 : decode cX1_isMoreAhead 21 = .ok (.dup, 1) := by decide +kernel
theorem dX1_isMoreAhead_22 : decode cX1_isMoreAhead 22 = .ok (.getfield 19, 3) := by decide +kernel
theorem dX1_isMoreAhead_25 : decode cX1_isMoreAhead 25 = .ok (.iconst 1, 1) := by decide +kernel
theorem dX1_isMoreAhead_26 : decode cX1_isMoreAhead 26 = .ok (.iadd, 1) := by decide +kernel
theorem dX1_isMoreAhead_27 : decode cX1_isMoreAhead 27 = .ok (.putfield 19, 3) := by decide +kernel
theorem dX1_isMoreAhead_30 : decode cX1_isMoreAhead 30 = .ok (.goto (-30), 3) := by decide +kernel
theorem dX1_isMoreAhead_33 : decode cX1_isMoreAhead 33 = .ok (.aload_n 0, 1) := by decide +kernel
theorem dX1_isMoreAhead_34 : decode cX1_isMoreAhead 34 = .ok (.getfield 19, 3) := by decide +kernel
theorem dX1_isMoreAhead_37 : decode cX1_isMoreAhead 37 = .ok (.aload_n 0, 1) := by decide +kernel
theorem dX1_isMoreAhead_38 : decode cX1_isMoreAhead 38 = .ok (.getfield 15, 3) := by decide +kernel
theorem dX1_isMoreAhead_41 : decode cX1_isMoreAhead 41 = .ok (.if_icmp .ge 7, 3) := by decide +kernel
theorem dX1_isMoreAhead_44 : decode cX1_isMoreAhead 44 = .ok (.iconst 1, 1) := by decide +kernel
theorem dX1_isMoreAhead_45 : decode cX1_isMoreAhead 45 = .ok (.goto 4, 3) := by decide +kernel
theorem dX1_isMoreAhead_48 : decode cX1_isMoreAhead 48 = .ok (.iconst 0, 1) := by decide +kernel
theorem dX1_isMoreAhead_49 : decode cX1_isMoreAhead 49 = .ok (.ireturn, 1) := by decide +kernel
theorem dX1_sign_0 : decode cX1_sign 0 = .ok (.aload_n 0, 1) := by decide +kernel
theorem dX1_sign_1 : decode cX1_sign 1 = .ok (.getfield 19, 3) := by decide +kernel
theorem dX1_sign_4 : decode cX1_sign 4 = .ok (.ifCond .lt 38, 3) := by decide +kernel
theorem dX1_sign_7 : decode cX1_sign 7 = .ok (.aload_n 0, 1) := by decide +kernel
theorem dX1_sign_8 : decode cX1_sign 8 = .ok (.getfield 19, 3) := by decide +kernel
theorem dX1_sign_11 : decode cX1_sign 11 = .ok (.aload_n 0, 1) := by decide +kernel
theorem dX1_sign_12 : decode cX1_sign 12 = .ok (.getfield 15, 3) := by decide +kernel
theorem dX1_sign_15 : decode cX1_sign 15 = .ok (.if_icmp .ge 27, 3) := by decide +kernel
theorem dX1_sign_18 : decode cX1_sign 18 = .ok (.aload_n 0, 1) := by decide +kernel
theorem dX1_sign_19 : decode cX1_sign 19 = .ok (.getfield 19, 3) := by decide +kernel
theorem dX1_sign_22 : decode cX1_sign 22 = .ok (.aload_n 0, 1) := by decide +kernel
theorem dX1_sign_23 : decode cX1_sign 23 = .ok (.getfield 9, 3) := by decide +kernel
theorem dX1_sign_26 : decode cX1_sign 26 = .ok (.arraylength, 1) := by decide +kernel
theorem dX1_sign_27 : decode cX1_sign 27 = .ok (.if_icmp .ge 15, 3) := by decide +kernel
theorem dX1_sign_30 : decode cX1_sign 30 = .ok (.aload_n 0, 1) := by decide +kernel
theorem dX1_sign_31 : decode cX1_sign 31 = .ok (.getfield 9, 3) := by decide +kernel
theorem dX1_sign_34 : decode cX1_sign 34 = .ok (.aload_n 0, 1) := by decide +kernel
theorem dX1_sign_35 : decode cX1_sign 35 = .ok (.getfield 19, 3) := by decide +kernel
theorem dX1_sign_38 : decode cX1_sign 38 = .ok (.iaload, 1) := by decide +kernel
theorem dX1_sign_39 : decode cX1_sign 39 = .ok (.goto 5, 3) := by decide +kernel
theorem dX1_sign_42 : decode cX1_sign 42 = .ok (.bipush 32, 2) := by decide +kernel
theorem dX1_sign_44 : decode cX1_sign 44 = .ok (.ireturn, 1) := by decide +kernel
theorem dX1_readItem_0 : decode cX1_readItem 0 = .ok (.aload_n 0, 1) := by decide +kernel
theorem dX1_readItem_1 : decode cX1_readItem 1 = .ok (.invokevirtual 63, 3) := by decide +kernel
theorem dX1_readItem_4 : decode cX1_readItem 4 = .ok (.istore_n 2, 1) := by decide +kernel
theorem dX1_readItem_5 : decode cX1_readItem 5 = .ok (.iload_n 2, 1) := by decide +kernel
theorem dX1_readItem_6 : decode cX1_readItem 6 = .ok (.invokestatic 67, 3) := by decide +kernel
theorem dX1_readItem_9 : decode cX1_readItem 9 = .ok (.istore_n 3, 1) := by decide +kernel
theorem dX1_readItem_10 : decode cX1_readItem 10 = .ok (.aload_n 0, 1) := by decide +kernel
theorem dX1_readItem_11 : decode cX1_readItem 11 = .ok (.getfield 25, 3) := by decide +kernel
theorem dX1_readItem_14 : decode cX1_readItem 14 = .ok (.ifCond .ne 17, 3) := by decide +kernel
theorem dX1_readItem_17 : decode cX1_readItem 17 = .ok (.iload_n 2, 1) := by decide +kernel
theorem dX1_readItem_18 : decode cX1_readItem 18 = .ok (.bipush 104, 2) := by decide +kernel
theorem dX1_readItem_20 : decode cX1_readItem 20 = .ok (.if_icmp .ne 11, 3) := by decide +kernel
theorem dX1_readItem_23 : decode cX1_readItem 23 = .ok (.aload_n 0, 1) := by decide +kernel
theorem dX1_readItem_24 : decode cX1_readItem 24 = .ok (.aload_n 1, 1) := by decide +kernel
theorem dX1_readItem_25 : decode cX1_readItem 25 = .ok (.invokevirtual 70, 3) := by decide +kernel
theorem dX1_readItem_28 : decode cX1_readItem 28 = .ok (.goto 85, 3) := by decide +kernel
theorem dX1_readItem_31 : decode cX1_readItem 31 = .ok (.aload_n 0, 1) := by decide +kernel
theorem dX1_readItem_32 : decode cX1_readItem 32 = .ok (.getfield 25, 3) := by decide +kernel
theorem dX1_readItem_35 : decode cX1_readItem 35 = .ok (.ifCond .eq 32, 3) := by decide +kernel
theorem dX1_readItem_38 : decode cX1_readItem 38 = .ok (.iload_n 2, 1) := by decide +kernel
theorem dX1_readItem_39 : decode cX1_readItem 39 = .ok (.bipush 97, 2) := by decide +kernel
theorem dX1_readItem_41 : decode cX1_readItem 41 = .ok (.if_icmp .ne 26, 3) := by decide +kernel
theorem dX1_readItem_44 : decode cX1_readItem 44 = .ok (.aload_n 1, 1) := by decide +kernel
theorem dX1_readItem_45 : decode cX1_readItem 45 = .ok (.getfield 73, 3) := by decide +kernel
theorem dX1_readItem_48 : decode cX1_readItem 48 = .ok (.ifCond .le 19, 3) := by decide +kernel
theorem dX1_readItem_51 : decode cX1_readItem 51 = .ok (.aload_n 1, 1) := by decide +kernel
theorem dX1_readItem_52 : decode cX1_readItem 52 = .ok (.getfield 46, 3) := by decide +kernel
theorem dX1_readItem_55 : decode cX1_readItem 55 = .ok (.iconst 4, 1) := by decide +kernel
theorem dX1_readItem_56 : decode cX1_readItem 56 = .ok (.if_icmp .ge 11, 3) := by decide +kernel
theorem dX1_readItem_59 : decode cX1_readItem 59 = .ok (.aload_n 0, 1) := by decide +kernel
theorem dX1_readItem_60 : decode cX1_readItem 60 = .ok (.aload_n 1, 1) := by decide +kernel
theorem dX1_readItem_61 : decode cX1_readItem 61 = .ok (.invokevirtual 76, 3) := by decide +kernel
theorem dX1_readItem_64 : decode cX1_readItem 64 = .ok (.goto 49, 3) := by decide +kernel
theorem dX1_readItem_67 : decode cX1_readItem 67 = .ok (.aload_n 0, 1) := by decide +kernel
theorem dX1_readItem_68 : decode cX1_readItem 68 = .ok (.getfield 25, 3) := by decide +kernel
theorem dX1_readItem_71 : decode cX1_readItem 71 = .ok (.ifCond .eq 34, 3) := by decide +kernel
theorem dX1_readItem_74 : decode cX1_readItem 74 = .ok (.iload_n 3, 1) := by decide +kernel
theorem dX1_readItem_75 : decode cX1_readItem 75 = .ok (.bipush (-9), 2) := by decide +kernel
theorem dX1_readItem_77 : decode cX1_readItem 77 = .ok (.if_icmp .eq 28, 3) := by decide +kernel
theorem dX1_readItem_80 : decode cX1_readItem 80 = .ok (.aload_n 1, 1) := by decide +kernel
theorem dX1_readItem_81 : decode cX1_readItem 81 = .ok (.getfield 46, 3) := by decide +kernel
theorem dX1_readItem_84 : decode cX1_readItem 84 = .ok (.ifCond .ne 21, 3) := by decide +kernel
theorem dX1_readItem_87 : decode cX1_readItem 87 = .ok (.aload_n 1, 1) := by decide +kernel
theorem dX1_readItem_88 : decode cX1_readItem 88 = .ok (.getfield 73, 3) := by decide +kernel
theorem dX1_readItem_91 : decode cX1_readItem 91 = .ok (.bipush 6, 2) := by decide +kernel
theorem dX1_readItem_93 : decode cX1_readItem 93 = .ok (.if_icmp .ge 12, 3) := by decide +kernel
theorem dX1_readItem_96 : decode cX1_readItem 96 = .ok (.aload_n 0, 1) := by decide +kernel
theorem dX1_readItem_97 : decode cX1_readItem 97 = .ok (.aload_n 1, 1) := by decide +kernel
theorem dX1_readItem_98 : decode cX1_readItem 98 = .ok (.iload_n 3, 1) := by decide +kernel
theorem dX1_readItem_99 : decode cX1_readItem 99 = .ok (.invokevirtual 79, 3) := by decide +kernel
theorem dX1_readItem_102 : decode cX1_readItem 102 = .ok (.goto 11, 3) := by decide +kernel
theorem dX1_readItem_105 : decode cX1_readItem 105 = .ok (.aload_n 0, 1) := by decide +kernel
theorem dX1_readItem_106 : decode cX1_readItem 106 = .ok (.aload_n 0, 1) := by decide +kernel
theorem dX1_readItem_107 : decode cX1_readItem 107 = .ok (.getfield 19, 3) := by decide +kernel
theorem dX1_readItem_110 : decode cX1_readItem 110 = .ok (.putfield 22, 3) := by decide +kernel
theorem dX1_readItem_113 : decode cX1_readItem 113 = .ok (.return_, 1) := by decide +kernel
theorem dX1_readHead_0 : decode cX1_readHead 0 = .ok (.aload_n 0, 1) := by decide +kernel
theorem dX1_readHead_1 : decode cX1_readHead 1 = .ok (.dup, 1) := by decide +kernel
theorem dX1_readHead_2 : decode cX1_readHead 2 = .ok (.getfield 19, 3) := by decide +kernel
theorem dX1_readHead_5 : decode cX1_readHead 5 = .ok (.iconst 1, 1) := by decide +kernel
theorem dX1_readHead_6 : decode cX1_readHead 6 = .ok (.iadd, 1) := by decide +kernel
theorem dX1_readHead_7 : decode cX1_readHead 7 = .ok (.putfield 19, 3) := by decide +kernel
theorem dX1_readHead_10 : decode cX1_readHead 10 = .ok (.aload_n 0, 1) := by decide +kernel
theorem dX1_readHead_11 : decode cX1_readHead 11 = .ok (.iconst 0, 1) := by decide +kernel
theorem dX1_readHead_12 : decode cX1_readHead 12 = .ok (.iconst 1, 1) := by decide +kernel
theorem dX1_readHead_13 : decode cX1_readHead 13 = .ok (.invokevirtual 83, 3) := by decide +kernel
theorem dX1_readHead_16 : decode cX1_readHead 16 = .ok (.istore_n 2, 1) := by decide +kernel
theorem dX1_readHead_17 : decode cX1_readHead 17 = .ok (.aload_n 0, 1) := by decide +kernel
theorem dX1_readHead_18 : decode cX1_readHead 18 = .ok (.iconst 1, 1) := by decide +kernel
theorem dX1_readHead_19 : decode cX1_readHead 19 = .ok (.putfield 25, 3) := by decide +kernel
theorem dX1_readHead_22 : decode cX1_readHead 22 = .ok (.aload_n 1, 1) := by decide +kernel
theorem dX1_readHead_23 : decode cX1_readHead 23 = .ok (.aload_n 1, 1) := by decide +kernel
theorem dX1_readHead_24 : decode cX1_readHead 24 = .ok (.getfield 86, 3) := by decide +kernel
theorem dX1_readHead_27 : decode cX1_readHead 27 = .ok (.iload_n 2, 1) := by decide +kernel
theorem dX1_readHead_28 : decode cX1_readHead 28 = .ok (.invokestatic 90, 3) := by decide +kernel
theorem dX1_readHead_31 : decode cX1_readHead 31 = .ok (.putfield 86, 3) := by decide +kernel
theorem dX1_readHead_34 : decode cX1_readHead 34 = .ok (.return_, 1) := by decide +kernel
theorem dX1_readRope_0 : decode cX1_readRope 0 = .ok (.aload_n 0, 1) := by decide +kernel
theorem dX1_readRope_1 : decode cX1_readRope 1 = .ok (.dup, 1) := by decide +kernel
theorem dX1_readRope_2 : decode cX1_readRope 2 = .ok (.getfield 19, 3) := by decide +kernel
theorem dX1_readRope_5 : decode cX1_readRope 5 = .ok (.iconst 1, 1) := by decide +kernel
theorem dX1_readRope_6 : decode cX1_readRope 6 = .ok (.iadd, 1) := by decide +kernel
theorem dX1_readRope_7 : decode cX1_readRope 7 = .ok (.putfield 19, 3) := by decide +kernel
theorem dX1_readRope_10 : decode cX1_readRope 10 = .ok (.aload_n 0, 1) := by decide +kernel
theorem dX1_readRope_11 : decode cX1_readRope 11 = .ok (.iconst 1, 1) := by decide +kernel
theorem dX1_readRope_12 : decode cX1_readRope 12 = .ok (.bipush 9, 2) := by decide +kernel
theorem dX1_readRope_14 : decode cX1_readRope 14 = .ok (.invokevirtual 83, 3) := by decide +kernel
theorem dX1_readRope_17 : decode cX1_readRope 17 = .ok (.istore_n 3, 1) := by decide +kernel
theorem dX1_readRope_18 : decode cX1_readRope 18 = .ok (.aload_n 0, 1) := by decide +kernel
theorem dX1_readRope_19 : decode cX1_readRope 19 = .ok (.iconst 0, 1) := by decide +kernel
theorem dX1_readRope_20 : decode cX1_readRope 20 = .ok (.iconst 5, 1) := by decide +kernel
theorem dX1_readRope_21 : decode cX1_readRope 21 = .ok (.invokevirtual 83, 3) := by decide +kernel
theorem dX1_readRope_24 : decode cX1_readRope 24 = .ok (.istore 4, 2) := by decide +kernel
theorem dX1_readRope_26 : decode cX1_readRope 26 = .ok (.aload_n 0, 1) := by decide +kernel
theorem dX1_readRope_27 : decode cX1_readRope 27 = .ok (.iconst 0, 1) := by decide +kernel
theorem dX1_readRope_28 : decode cX1_readRope 28 = .ok (.iload_n 3, 1) := by decide +kernel
theorem dX1_readRope_29 : decode cX1_readRope 29 = .ok (.invokevirtual 83, 3) := by decide +kernel
theorem dX1_readRope_32 : decode cX1_readRope 32 = .ok (.istore 5, 2) := by decide +kernel
theorem dX1_readRope_34 : decode cX1_readRope 34 = .ok (.aload_n 0, 1) := by decide +kernel
theorem dX1_readRope_35 : decode cX1_readRope 35 = .ok (.getfield 22, 3) := by decide +kernel
theorem dX1_readRope_38 : decode cX1_readRope 38 = .ok (.bipush (-9), 2) := by decide +kernel
theorem dX1_readRope_40 : decode cX1_readRope 40 = .ok (.if_icmp .ne 13, 3) := by decide +kernel
theorem dX1_readRope_43 : decode cX1_readRope 43 = .ok (.aload_n 1, 1) := by decide +kernel
theorem dX1_readRope_44 : decode cX1_readRope 44 = .ok (.iload_n 2, 1) := by decide +kernel
theorem dX1_readRope_45 : decode cX1_readRope 45 = .ok (.iload_n 3, 1) := by decide +kernel
theorem dX1_readRope_46 : decode cX1_readRope 46 = .ok (.iload 4, 2) := by decide +kernel
theorem dX1_readRope_48 : decode cX1_readRope 48 = .ok (.iload 5, 2) := by decide +kernel
theorem dX1_readRope_50 : decode cX1_readRope 50 = .ok (.invokevirtual 96, 3) := by decide +kernel
theorem dX1_readRope_53 : decode cX1_readRope 53 = .ok (.return_, 1) := by decide +kernel
theorem dX1_readAct_0 : decode cX1_readAct 0 = .ok (.aload_n 0, 1) := by decide +kernel
theorem dX1_readAct_1 : decode cX1_readAct 1 = .ok (.dup, 1) := by decide +kernel
theorem dX1_readAct_2 : decode cX1_readAct 2 = .ok (.getfield 19, 3) := by decide +kernel
theorem dX1_readAct_5 : decode cX1_readAct 5 = .ok (.iconst 1, 1) := by decide +kernel
theorem dX1_readAct_6 : decode cX1_readAct 6 = .ok (.iadd, 1) := by decide +kernel
theorem dX1_readAct_7 : decode cX1_readAct 7 = .ok (.putfield 19, 3) := by decide +kernel
theorem dX1_readAct_10 : decode cX1_readAct 10 = .ok (.aload_n 0, 1) := by decide +kernel
theorem dX1_readAct_11 : decode cX1_readAct 11 = .ok (.invokevirtual 100, 3) := by decide +kernel
theorem dX1_readAct_14 : decode cX1_readAct 14 = .ok (.istore_n 2, 1) := by decide +kernel
theorem dX1_readAct_15 : decode cX1_readAct 15 = .ok (.aload_n 0, 1) := by decide +kernel
theorem dX1_readAct_16 : decode cX1_readAct 16 = .ok (.invokevirtual 100, 3) := by decide +kernel
theorem dX1_readAct_19 : decode cX1_readAct 19 = .ok (.istore_n 3, 1) := by decide +kernel
theorem dX1_readAct_20 : decode cX1_readAct 20 = .ok (.aload_n 0, 1) := by decide +kernel
theorem dX1_readAct_21 : decode cX1_readAct 21 = .ok (.getfield 22, 3) := by decide +kernel
theorem dX1_readAct_24 : decode cX1_readAct 24 = .ok (.bipush (-9), 2) := by decide +kernel
theorem dX1_readAct_26 : decode cX1_readAct 26 = .ok (.if_icmp .ne 9, 3) := by decide +kernel
theorem dX1_readAct_29 : decode cX1_readAct 29 = .ok (.aload_n 1, 1) := by decide +kernel
theorem dX1_readAct_30 : decode cX1_readAct 30 = .ok (.iload_n 2, 1) := by decide +kernel
theorem dX1_readAct_31 : decode cX1_readAct 31 = .ok (.iload_n 3, 1) := by decide +kernel
theorem dX1_readAct_32 : decode cX1_readAct 32 = .ok (.invokevirtual 103, 3) := by decide +kernel
theorem dX1_readAct_35 : decode cX1_readAct 35 = .ok (.return_, 1) := by decide +kernel
theorem dX1_ropeSet_0 : decode cX1_ropeSet 0 = .ok (.aload_n 0, 1) := by decide +kernel
theorem dX1_ropeSet_1 : decode cX1_ropeSet 1 = .ok (.getfield 19, 3) := by decide +kernel
theorem dX1_ropeSet_4 : decode cX1_ropeSet 4 = .ok (.istore_n 1, 1) := by decide +kernel
theorem dX1_ropeSet_5 : decode cX1_ropeSet 5 = .ok (.aload_n 0, 1) := by decide +kernel
theorem dX1_ropeSet_6 : decode cX1_ropeSet 6 = .ok (.iconst 0, 1) := by decide +kernel
theorem dX1_ropeSet_7 : decode cX1_ropeSet 7 = .ok (.bipush 9, 2) := by decide +kernel
theorem dX1_ropeSet_9 : decode cX1_ropeSet 9 = .ok (.invokevirtual 83, 3) := by decide +kernel
theorem dX1_ropeSet_12 : decode cX1_ropeSet 12 = .ok (.istore_n 2, 1) := by decide +kernel
theorem dX1_ropeSet_13 : decode cX1_ropeSet 13 = .ok (.bipush 10, 2) := by decide +kernel
theorem dX1_ropeSet_15 : decode cX1_ropeSet 15 = .ok (.iload_n 2, 1) := by decide +kernel
theorem dX1_ropeSet_16 : decode cX1_ropeSet 16 = .ok (.imul, 1) := by decide +kernel
theorem dX1_ropeSet_17 : decode cX1_ropeSet 17 = .ok (.aload_n 0, 1) := by decide +kernel
theorem dX1_ropeSet_18 : decode cX1_ropeSet 18 = .ok (.iconst 0, 1) := by decide +kernel
theorem dX1_ropeSet_19 : decode cX1_ropeSet 19 = .ok (.bipush 9, 2) := by decide +kernel
theorem dX1_ropeSet_21 : decode cX1_ropeSet 21 = .ok (.invokevirtual 83, 3) := by decide +kernel
theorem dX1_ropeSet_24 : decode cX1_ropeSet 24 = .ok (.iadd, 1) := by decide +kernel
theorem dX1_ropeSet_25 : decode cX1_ropeSet 25 = .ok (.istore_n 3, 1) := by decide +kernel
theorem dX1_ropeSet_26 : decode cX1_ropeSet 26 = .ok (.aload_n 0, 1) := by decide +kernel
theorem dX1_ropeSet_27 : decode cX1_ropeSet 27 = .ok (.getfield 22, 3) := by decide +kernel
theorem dX1_ropeSet_30 : decode cX1_ropeSet 30 = .ok (.bipush (-9), 2) := by decide +kernel
theorem dX1_ropeSet_32 : decode cX1_ropeSet 32 = .ok (.if_icmp .ne 14, 3) := by decide +kernel
theorem dX1_ropeSet_35 : decode cX1_ropeSet 35 = .ok (.iload_n 3, 1) := by decide +kernel
theorem dX1_ropeSet_36 : decode cX1_ropeSet 36 = .ok (.bipush 63, 2) := by decide +kernel
theorem dX1_ropeSet_38 : decode cX1_ropeSet 38 = .ok (.if_icmp .le 8, 3) := by decide +kernel
theorem dX1_ropeSet_41 : decode cX1_ropeSet 41 = .ok (.aload_n 0, 1) := by decide +kernel
theorem dX1_ropeSet_42 : decode cX1_ropeSet 42 = .ok (.iload_n 1, 1) := by decide +kernel
theorem dX1_ropeSet_43 : decode cX1_ropeSet 43 = .ok (.putfield 22, 3) := by decide +kernel
theorem dX1_ropeSet_46 : decode cX1_ropeSet 46 = .ok (.iload_n 3, 1) := by decide +kernel
theorem dX1_ropeSet_47 : decode cX1_ropeSet 47 = .ok (.ireturn, 1) := by decide +kernel
theorem dX1_figure_0 : decode cX1_figure 0 = .ok (.aload_n 0, 1) := by decide +kernel
theorem dX1_figure_1 : decode cX1_figure 1 = .ok (.getfield 22, 3) := by decide +kernel
theorem dX1_figure_4 : decode cX1_figure 4 = .ok (.bipush (-9), 2) := by decide +kernel
theorem dX1_figure_6 : decode cX1_figure 6 = .ok (.if_icmp .eq 5, 3) := by decide +kernel
theorem dX1_figure_9 : decode cX1_figure 9 = .ok (.iconst 0, 1) := by decide +kernel
theorem dX1_figure_10 : decode cX1_figure 10 = .ok (.ireturn, 1) := by decide +kernel
theorem dX1_figure_11 : decode cX1_figure 11 = .ok (.aload_n 0, 1) := by decide +kernel
theorem dX1_figure_12 : decode cX1_figure 12 = .ok (.getfield 19, 3) := by decide +kernel
theorem dX1_figure_15 : decode cX1_figure 15 = .ok (.aload_n 0, 1) := by decide +kernel
theorem dX1_figure_16 : decode cX1_figure 16 = .ok (.getfield 15, 3) := by decide +kernel
theorem dX1_figure_19 : decode cX1_figure 19 = .ok (.if_icmp .lt 13, 3) := by decide +kernel
theorem dX1_figure_22 : decode cX1_figure 22 = .ok (.aload_n 0, 1) := by decide +kernel
theorem dX1_figure_23 : decode cX1_figure 23 = .ok (.aload_n 0, 1) := by decide +kernel
theorem dX1_figure_24 : decode cX1_figure 24 = .ok (.getfield 15, 3) := by decide +kernel
theorem dX1_figure_27 : decode cX1_figure 27 = .ok (.putfield 22, 3) := by decide +kernel
theorem dX1_figure_30 : decode cX1_figure 30 = .ok (.iconst 0, 1) := by decide +kernel
theorem dX1_figure_31 : decode cX1_figure 31 = .ok (.ireturn, 1) := by decide +kernel
theorem dX1_figure_32 : decode cX1_figure 32 = .ok (.aload_n 0, 1) := by decide +kernel
theorem dX1_figure_33 : decode cX1_figure 33 = .ok (.invokevirtual 63, 3) := by decide +kernel
theorem dX1_figure_36 : decode cX1_figure 36 = .ok (.bipush 48, 2) := by decide +kernel
theorem dX1_figure_38 : decode cX1_figure 38 = .ok (.isub, 1) := by decide +kernel
theorem dX1_figure_39 : decode cX1_figure 39 = .ok (.istore_n 3, 1) := by decide +kernel
theorem dX1_figure_40 : decode cX1_figure 40 = .ok (.iload_n 3, 1) := by decide +kernel
theorem dX1_figure_41 : decode cX1_figure 41 = .ok (.iload_n 1, 1) := by decide +kernel
theorem dX1_figure_42 : decode cX1_figure 42 = .ok (.if_icmp .lt 8, 3) := by decide +kernel
theorem dX1_figure_45 : decode cX1_figure 45 = .ok (.iload_n 3, 1) := by decide +kernel
theorem dX1_figure_46 : decode cX1_figure 46 = .ok (.iload_n 2, 1) := by decide +kernel
theorem dX1_figure_47 : decode cX1_figure 47 = .ok (.if_icmp .le 13, 3) := by decide +kernel
theorem dX1_figure_50 : decode cX1_figure 50 = .ok (.aload_n 0, 1) := by decide +kernel
theorem dX1_figure_51 : decode cX1_figure 51 = .ok (.aload_n 0, 1) := by decide +kernel
theorem dX1_figure_52 : decode cX1_figure 52 = .ok (.getfield 19, 3) := by decide +kernel
theorem dX1_figure_55 : decode cX1_figure 55 = .ok (.putfield 22, 3) := by decide +kernel
theorem dX1_figure_58 : decode cX1_figure 58 = .ok (.iconst 0, 1) := by decide +kernel
theorem dX1_figure_59 : decode cX1_figure 59 = .ok (.ireturn, 1) := by decide +kernel
theorem dX1_figure_60 : decode cX1_figure 60 = .ok (.aload_n 0, 1) := by decide +kernel
theorem dX1_figure_61 : decode cX1_figure 61 = .ok (.dup, 1) := by decide +kernel
theorem dX1_figure_62 : decode cX1_figure 62 = .ok (.getfield 19, 3) := by decide +kernel
theorem dX1_figure_65 : decode cX1_figure 65 = .ok (.iconst 1, 1) := by decide +kernel
theorem dX1_figure_66 : decode cX1_figure 66 = .ok (.iadd, 1) := by decide +kernel
theorem dX1_figure_67 : decode cX1_figure 67 = .ok (.putfield 19, 3) := by decide +kernel
theorem dX1_figure_70 : decode cX1_figure 70 = .ok (.iload_n 3, 1) := by decide +kernel
theorem dX1_figure_71 : decode cX1_figure 71 = .ok (.ireturn, 1) := by decide +kernel
theorem dX1_kindOfLetter_0 : decode cX1_kindOfLetter 0 = .ok (.iload_n 0, 1) := by decide +kernel
theorem dX1_kindOfLetter_1 : decode cX1_kindOfLetter 1 = .ok (.tableswitch 67 110 119 #[61, 67, 59, 67, 55, 57, 63, 67, 67, 65], 55) := by decide +kernel
theorem dX1_kindOfLetter_56 : decode cX1_kindOfLetter 56 = .ok (.iconst 0, 1) := by decide +kernel
theorem dX1_kindOfLetter_57 : decode cX1_kindOfLetter 57 = .ok (.ireturn, 1) := by decide +kernel
theorem dX1_kindOfLetter_58 : decode cX1_kindOfLetter 58 = .ok (.iconst 1, 1) := by decide +kernel
theorem dX1_kindOfLetter_59 : decode cX1_kindOfLetter 59 = .ok (.ireturn, 1) := by decide +kernel
theorem dX1_kindOfLetter_60 : decode cX1_kindOfLetter 60 = .ok (.iconst 2, 1) := by decide +kernel
theorem dX1_kindOfLetter_61 : decode cX1_kindOfLetter 61 = .ok (.ireturn, 1) := by decide +kernel
theorem dX1_kindOfLetter_62 : decode cX1_kindOfLetter 62 = .ok (.iconst 3, 1) := by decide +kernel
theorem dX1_kindOfLetter_63 : decode cX1_kindOfLetter 63 = .ok (.ireturn, 1) := by decide +kernel
theorem dX1_kindOfLetter_64 : decode cX1_kindOfLetter 64 = .ok (.iconst 4, 1) := by decide +kernel
theorem dX1_kindOfLetter_65 : decode cX1_kindOfLetter 65 = .ok (.ireturn, 1) := by decide +kernel
theorem dX1_kindOfLetter_66 : decode cX1_kindOfLetter 66 = .ok (.iconst 5, 1) := by decide +kernel
theorem dX1_kindOfLetter_67 : decode cX1_kindOfLetter 67 = .ok (.ireturn, 1) := by decide +kernel
theorem dX1_kindOfLetter_68 : decode cX1_kindOfLetter 68 = .ok (.bipush (-9), 2) := by decide +kernel
theorem dX1_kindOfLetter_70 : decode cX1_kindOfLetter 70 = .ok (.ireturn, 1) := by decide +kernel
theorem dX2_init_0 : decode cX2_init 0 = .ok (.aload_n 0, 1) := by decide +kernel
theorem dX2_init_1 : decode cX2_init 1 = .ok (.invokespecial 3, 3) := by decide +kernel
theorem dX2_init_4 : decode cX2_init 4 = .ok (.aload_n 0, 1) := by decide +kernel
theorem dX2_init_5 : decode cX2_init 5 = .ok (.iconst 0, 1) := by decide +kernel
theorem dX2_init_6 : decode cX2_init 6 = .ok (.putfield 9, 3) := by decide +kernel
theorem dX2_init_9 : decode cX2_init 9 = .ok (.aload_n 0, 1) := by decide +kernel
theorem dX2_init_10 : decode cX2_init 10 = .ok (.iconst 0, 1) := by decide +kernel
theorem dX2_init_11 : decode cX2_init 11 = .ok (.putfield 15, 3) := by decide +kernel
theorem dX2_init_14 : decode cX2_init 14 = .ok (.aload_n 0, 1) := by decide +kernel
theorem dX2_init_15 : decode cX2_init 15 = .ok (.lconst 0, 1) := by decide +kernel
theorem dX2_init_16 : decode cX2_init 16 = .ok (.putfield 18, 3) := by decide +kernel
theorem dX2_init_19 : decode cX2_init 19 = .ok (.aload_n 0, 1) := by decide +kernel
theorem dX2_init_20 : decode cX2_init 20 = .ok (.iconst 0, 1) := by decide +kernel
theorem dX2_init_21 : decode cX2_init 21 = .ok (.putfield 22, 3) := by decide +kernel
theorem dX2_init_24 : decode cX2_init 24 = .ok (.aload_n 0, 1) := by decide +kernel
theorem dX2_init_25 : decode cX2_init 25 = .ok (.bipush 6, 2) := by decide +kernel
theorem dX2_init_27 : decode cX2_init 27 = .ok (.newarray .int, 2) := by decide +kernel
theorem dX2_init_29 : decode cX2_init 29 = .ok (.putfield 25, 3) := by decide +kernel
theorem dX2_init_32 : decode cX2_init 32 = .ok (.aload_n 0, 1) := by decide +kernel
theorem dX2_init_33 : decode cX2_init 33 = .ok (.bipush 6, 2) := by decide +kernel
theorem dX2_init_35 : decode cX2_init 35 = .ok (.newarray .int, 2) := by decide +kernel
theorem dX2_init_37 : decode cX2_init 37 = .ok (.putfield 29, 3) := by decide +kernel
theorem dX2_init_40 : decode cX2_init 40 = .ok (.aload_n 0, 1) := by decide +kernel
theorem dX2_init_41 : decode cX2_init 41 = .ok (.bipush 6, 2) := by decide +kernel
theorem dX2_init_43 : decode cX2_init 43 = .ok (.newarray .int, 2) := by decide +kernel
theorem dX2_init_45 : decode cX2_init 45 = .ok (.putfield 32, 3) := by decide +kernel
theorem dX2_init_48 : decode cX2_init 48 = .ok (.aload_n 0, 1) := by decide +kernel
theorem dX2_init_49 : decode cX2_init 49 = .ok (.iconst 4, 1) := by decide +kernel
theorem dX2_init_50 : decode cX2_init 50 = .ok (.newarray .int, 2) := by decide +kernel
theorem dX2_init_52 : decode cX2_init 52 = .ok (.putfield 35, 3) := by decide +kernel
theorem dX2_init_55 : decode cX2_init 55 = .ok (.aload_n 0, 1) := by decide +kernel
theorem dX2_init_56 : decode cX2_init 56 = .ok (.iconst 4, 1) := by decide +kernel
theorem dX2_init_57 : decode cX2_init 57 = .ok (.newarray .int, 2) := by decide +kernel
theorem dX2_init_59 : decode cX2_init 59 = .ok (.putfield 38, 3) := by decide +kernel
theorem dX2_init_62 : decode cX2_init 62 = .ok (.return_, 1) := by decide +kernel
theorem dX2_clear_0 : decode cX2_clear 0 = .ok (.aload_n 0, 1) := by decide +kernel
theorem dX2_clear_1 : decode cX2_clear 1 = .ok (.iconst 0, 1) := by decide +kernel
theorem dX2_clear_2 : decode cX2_clear 2 = .ok (.putfield 9, 3) := by decide +kernel
theorem dX2_clear_5 : decode cX2_clear 5 = .ok (.aload_n 0, 1) := by decide +kernel
theorem dX2_clear_6 : decode cX2_clear 6 = .ok (.iconst 0, 1) := by decide +kernel
theorem dX2_clear_7 : decode cX2_clear 7 = .ok (.putfield 15, 3) := by decide +kernel
theorem dX2_clear_10 : decode cX2_clear 10 = .ok (.aload_n 0, 1) := by decide +kernel
theorem dX2_clear_11 : decode cX2_clear 11 = .ok (.lconst 0, 1) := by decide +kernel
theorem dX2_clear_12 : decode cX2_clear 12 = .ok (.putfield 18, 3) := by decide +kernel
theorem dX2_clear_15 : decode cX2_clear 15 = .ok (.aload_n 0, 1) := by decide +kernel
theorem dX2_clear_16 : decode cX2_clear 16 = .ok (.iconst 0, 1) := by decide +kernel
theorem dX2_clear_17 : decode cX2_clear 17 = .ok (.putfield 22, 3) := by decide +kernel
theorem dX2_clear_20 : decode cX2_clear 20 = .ok (.return_, 1) := by decide +kernel
theorem dX2_addRope_0 : decode cX2_addRope 0 = .ok (.aload_n 0, 1) := by decide +kernel
theorem dX2_addRope_1 : decode cX2_addRope 1 = .ok (.getfield 9, 3) := by decide +kernel
theorem dX2_addRope_4 : decode cX2_addRope 4 = .ok (.ifCond .lt 69, 3) := by decide +kernel
theorem dX2_addRope_7 : decode cX2_addRope 7 = .ok (.aload_n 0, 1) := by decide +kernel
theorem dX2_addRope_8 : decode cX2_addRope 8 = .ok (.getfield 9, 3) := by decide +kernel
theorem dX2_addRope_11 : decode cX2_addRope 11 = .ok (.bipush 6, 2) := by decide +kernel
theorem dX2_addRope_13 : decode cX2_addRope 13 = .ok (.if_icmp .ge 60, 3) := by decide +kernel
theorem dX2_addRope_16 : decode cX2_addRope 16 = .ok (.aload_n 0, 1) := by decide +kernel
theorem dX2_addRope_17 : decode cX2_addRope 17 = .ok (.getfield 25, 3) := by decide +kernel
theorem dX2_addRope_20 : decode cX2_addRope 20 = .ok (.aload_n 0, 1) := by decide +kernel
theorem dX2_addRope_21 : decode cX2_addRope 21 = .ok (.getfield 9, 3) := by decide +kernel
theorem dX2_addRope_24 : decode cX2_addRope 24 = .ok (.iload_n 1, 1) := by decide +kernel
theorem dX2_addRope_25 : decode cX2_addRope 25 = .ok (.iastore, 1) := by decide +kernel
theorem dX2_addRope_26 : decode cX2_addRope 26 = .ok (.aload_n 0, 1) := by decide +kernel
theorem dX2_addRope_27 : decode cX2_addRope 27 = .ok (.getfield 29, 3) := by decide +kernel
theorem dX2_addRope_30 : decode cX2_addRope 30 = .ok (.aload_n 0, 1) := by decide +kernel
theorem dX2_addRope_31 : decode cX2_addRope 31 = .ok (.getfield 9, 3) := by decide +kernel
theorem dX2_addRope_34 : decode cX2_addRope 34 = .ok (.iload_n 2, 1) := by decide +kernel
theorem dX2_addRope_35 : decode cX2_addRope 35 = .ok (.iastore, 1) := by decide +kernel
theorem dX2_addRope_36 : decode cX2_addRope 36 = .ok (.aload_n 0, 1) := by decide +kernel
theorem dX2_addRope_37 : decode cX2_addRope 37 = .ok (.getfield 32, 3) := by decide +kernel
theorem dX2_addRope_40 : decode cX2_addRope 40 = .ok (.aload_n 0, 1) := by decide +kernel
theorem dX2_addRope_41 : decode cX2_addRope 41 = .ok (.getfield 9, 3) := by decide +kernel
theorem dX2_addRope_44 : decode cX2_addRope 44 = .ok (.iload_n 3, 1) := by decide +kernel
theorem dX2_addRope_45 : decode cX2_addRope 45 = .ok (.iastore, 1) := by decide +kernel
theorem dX2_addRope_46 : decode cX2_addRope 46 = .ok (.aload_n 0, 1) := by decide +kernel
theorem dX2_addRope_47 : decode cX2_addRope 47 = .ok (.aload_n 0, 1) := by decide +kernel
theorem dX2_addRope_48 : decode cX2_addRope 48 = .ok (.getfield 18, 3) := by decide +kernel
theorem dX2_addRope_51 : decode cX2_addRope 51 = .ok (.aload_n 0, 1) := by decide +kernel
theorem dX2_addRope_52 : decode cX2_addRope 52 = .ok (.getfield 9, 3) := by decide +kernel
theorem dX2_addRope_55 : decode cX2_addRope 55 = .ok (.iload 4, 2) := by decide +kernel
theorem dX2_addRope_57 : decode cX2_addRope 57 = .ok (.invokestatic 41, 3) := by decide +kernel
theorem dX2_addRope_60 : decode cX2_addRope 60 = .ok (.putfield 18, 3) := by decide +kernel
theorem dX2_addRope_63 : decode cX2_addRope 63 = .ok (.aload_n 0, 1) := by decide +kernel
theorem dX2_addRope_64 : decode cX2_addRope 64 = .ok (.dup, 1) := by decide +kernel
theorem dX2_addRope_65 : decode cX2_addRope 65 = .ok (.getfield 9, 3) := by decide +kernel
theorem dX2_addRope_68 : decode cX2_addRope 68 = .ok (.iconst 1, 1) := by decide +kernel
theorem dX2_addRope_69 : decode cX2_addRope 69 = .ok (.iadd, 1) := by decide +kernel
theorem dX2_addRope_70 : decode cX2_addRope 70 = .ok (.putfield 9, 3) := by decide +kernel
theorem dX2_addRope_73 : decode cX2_addRope 73 = .ok (.return_, 1) := by decide +kernel
theorem dX2_addAct_0 : decode cX2_addAct 0 = .ok (.aload_n 0, 1) := by decide +kernel
theorem dX2_addAct_1 : decode cX2_addAct 1 = .ok (.getfield 15, 3) := by decide +kernel
theorem dX2_addAct_4 : decode cX2_addAct 4 = .ok (.ifCond .lt 41, 3) := by decide +kernel
theorem dX2_addAct_7 : decode cX2_addAct 7 = .ok (.aload_n 0, 1) := by decide +kernel
theorem dX2_addAct_8 : decode cX2_addAct 8 = .ok (.getfield 15, 3) := by decide +kernel
theorem dX2_addAct_11 : decode cX2_addAct 11 = .ok (.iconst 4, 1) := by decide +kernel
theorem dX2_addAct_12 : decode cX2_addAct 12 = .ok (.if_icmp .ge 33, 3) := by decide +kernel
theorem dX2_addAct_15 : decode cX2_addAct 15 = .ok (.aload_n 0, 1) := by decide +kernel
theorem dX2_addAct_16 : decode cX2_addAct 16 = .ok (.getfield 35, 3) := by decide +kernel
theorem dX2_addAct_19 : decode cX2_addAct 19 = .ok (.aload_n 0, 1) := by decide +kernel
theorem dX2_addAct_20 : decode cX2_addAct 20 = .ok (.getfield 15, 3) := by decide +kernel
theorem dX2_addAct_23 : decode cX2_addAct 23 = .ok (.iload_n 1, 1) := by decide +kernel
theorem dX2_addAct_24 : decode cX2_addAct 24 = .ok (.iastore, 1) := by decide +kernel
theorem dX2_addAct_25 : decode cX2_addAct 25 = .ok (.aload_n 0, 1) := by decide +kernel
theorem dX2_addAct_26 : decode cX2_addAct 26 = .ok (.getfield 38, 3) := by decide +kernel
theorem dX2_addAct_29 : decode cX2_addAct 29 = .ok (.aload_n 0, 1) := by decide +kernel
theorem dX2_addAct_30 : decode cX2_addAct 30 = .ok (.getfield 15, 3) := by decide +kernel
theorem dX2_addAct_33 : decode cX2_addAct 33 = .ok (.iload_n 2, 1) := by decide +kernel
theorem dX2_addAct_34 : decode cX2_addAct 34 = .ok (.iastore, 1) := by decide +kernel
theorem dX2_addAct_35 : decode cX2_addAct 35 = .ok (.aload_n 0, 1) := by decide +kernel
theorem dX2_addAct_36 : decode cX2_addAct 36 = .ok (.dup, 1) := by decide +kernel
theorem dX2_addAct_37 : decode cX2_addAct 37 = .ok (.getfield 15, 3) := by decide +kernel
theorem dX2_addAct_40 : decode cX2_addAct 40 = .ok (.iconst 1, 1) := by decide +kernel
theorem dX2_addAct_41 : decode cX2_addAct 41 = .ok (.iadd, 1) := by decide +kernel
theorem dX2_addAct_42 : decode cX2_addAct 42 = .ok (.putfield 15, 3) := by decide +kernel
theorem dX2_addAct_45 : decode cX2_addAct 45 = .ok (.return_, 1) := by decide +kernel
theorem dX2_isEmpty_0 : decode cX2_isEmpty 0 = .ok (.aload_n 0, 1) := by decide +kernel
theorem dX2_isEmpty_1 : decode cX2_isEmpty 1 = .ok (.getfield 9, 3) := by decide +kernel
theorem dX2_isEmpty_4 : decode cX2_isEmpty 4 = .ok (.ifCond .ne 7, 3) := by decide +kernel
theorem dX2_isEmpty_7 : decode cX2_isEmpty 7 = .ok (.iconst 1, 1) := by decide +kernel
theorem dX2_isEmpty_8 : decode cX2_isEmpty 8 = .ok (.goto 4, 3) := by decide +kernel
theorem dX2_isEmpty_11 : decode cX2_isEmpty 11 = .ok (.iconst 0, 1) := by decide +kernel
theorem dX2_isEmpty_12 : decode cX2_isEmpty 12 = .ok (.ireturn, 1) := by decide +kernel
theorem dX2_allRopes_0 : decode cX2_allRopes 0 = .ok (.iconst 1, 1) := by decide +kernel
theorem dX2_allRopes_1 : decode cX2_allRopes 1 = .ok (.aload_n 0, 1) := by decide +kernel
theorem dX2_allRopes_2 : decode cX2_allRopes 2 = .ok (.getfield 9, 3) := by decide +kernel
theorem dX2_allRopes_5 : decode cX2_allRopes 5 = .ok (.ishl, 1) := by decide +kernel
theorem dX2_allRopes_6 : decode cX2_allRopes 6 = .ok (.iconst 1, 1) := by decide +kernel
theorem dX2_allRopes_7 : decode cX2_allRopes 7 = .ok (.isub, 1) := by decide +kernel
theorem dX2_allRopes_8 : decode cX2_allRopes 8 = .ok (.ireturn, 1) := by decide +kernel
theorem dX2_isRope_0 : decode cX2_isRope 0 = .ok (.iload_n 1, 1) := by decide +kernel
theorem dX2_isRope_1 : decode cX2_isRope 1 = .ok (.ifCond .lt 21, 3) := by decide +kernel
theorem dX2_isRope_4 : decode cX2_isRope 4 = .ok (.iload_n 1, 1) := by decide +kernel
theorem dX2_isRope_5 : decode cX2_isRope 5 = .ok (.aload_n 0, 1) := by decide +kernel
theorem dX2_isRope_6 : decode cX2_isRope 6 = .ok (.getfield 9, 3) := by decide +kernel
theorem dX2_isRope_9 : decode cX2_isRope 9 = .ok (.if_icmp .ge 13, 3) := by decide +kernel
theorem dX2_isRope_12 : decode cX2_isRope 12 = .ok (.iload_n 1, 1) := by decide +kernel
theorem dX2_isRope_13 : decode cX2_isRope 13 = .ok (.bipush 6, 2) := by decide +kernel
theorem dX2_isRope_15 : decode cX2_isRope 15 = .ok (.if_icmp .ge 7, 3) := by decide +kernel
theorem dX2_isRope_18 : decode cX2_isRope 18 = .ok (.iconst 1, 1) := by decide +kernel
theorem dX2_isRope_19 : decode cX2_isRope 19 = .ok (.goto 4, 3) := by decide +kernel
theorem dX2_isRope_22 : decode cX2_isRope 22 = .ok (.iconst 0, 1) := by decide +kernel
theorem dX2_isRope_23 : decode cX2_isRope 23 = .ok (.ireturn, 1) := by decide +kernel
theorem dX2_isAct_0 : decode cX2_isAct 0 = .ok (.iload_n 1, 1) := by decide +kernel
theorem dX2_isAct_1 : decode cX2_isAct 1 = .ok (.ifCond .lt 20, 3) := by decide +kernel
theorem dX2_isAct_4 : decode cX2_isAct 4 = .ok (.iload_n 1, 1) := by decide +kernel
theorem dX2_isAct_5 : decode cX2_isAct 5 = .ok (.aload_n 0, 1) := by decide +kernel
theorem dX2_isAct_6 : decode cX2_isAct 6 = .ok (.getfield 15, 3) := by decide +kernel
theorem dX2_isAct_9 : decode cX2_isAct 9 = .ok (.if_icmp .ge 12, 3) := by decide +kernel
theorem dX2_isAct_12 : decode cX2_isAct 12 = .ok (.iload_n 1, 1) := by decide +kernel
theorem dX2_isAct_13 : decode cX2_isAct 13 = .ok (.iconst 4, 1) := by decide +kernel
theorem dX2_isAct_14 : decode cX2_isAct 14 = .ok (.if_icmp .ge 7, 3) := by decide +kernel
theorem dX2_isAct_17 : decode cX2_isAct 17 = .ok (.iconst 1, 1) := by decide +kernel
theorem dX2_isAct_18 : decode cX2_isAct 18 = .ok (.goto 4, 3) := by decide +kernel
theorem dX2_isAct_21 : decode cX2_isAct 21 = .ok (.iconst 0, 1) := by decide +kernel
theorem dX2_isAct_22 : decode cX2_isAct 22 = .ok (.ireturn, 1) := by decide +kernel
theorem dX2_kind_0 : decode cX2_kind 0 = .ok (.aload_n 0, 1) := by decide +kernel
theorem dX2_kind_1 : decode cX2_kind 1 = .ok (.iload_n 1, 1) := by decide +kernel
theorem dX2_kind_2 : decode cX2_kind 2 = .ok (.invokevirtual 47, 3) := by decide +kernel
theorem dX2_kind_5 : decode cX2_kind 5 = .ok (.ifCond .eq 12, 3) := by decide +kernel
theorem dX2_kind_8 : decode cX2_kind 8 = .ok (.aload_n 0, 1) := by decide +kernel
theorem dX2_kind_9 : decode cX2_kind 9 = .ok (.getfield 25, 3) := by decide +kernel
theorem dX2_kind_12 : decode cX2_kind 12 = .ok (.iload_n 1, 1) := by decide +kernel
theorem dX2_kind_13 : decode cX2_kind 13 = .ok (.iaload, 1) := by decide +kernel
theorem dX2_kind_14 : decode cX2_kind 14 = .ok (.goto 4, 3) := by decide +kernel
theorem dX2_kind_17 : decode cX2_kind 17 = .ok (.iconst 0, 1) := by decide +kernel
theorem dX2_kind_18 : decode cX2_kind 18 = .ok (.ireturn, 1) := by decide +kernel
theorem dX2_holds_0 : decode cX2_holds 0 = .ok (.aload_n 0, 1) := by decide +kernel
theorem dX2_holds_1 : decode cX2_holds 1 = .ok (.iload_n 1, 1) := by decide +kernel
theorem dX2_holds_2 : decode cX2_holds 2 = .ok (.invokevirtual 47, 3) := by decide +kernel
theorem dX2_holds_5 : decode cX2_holds 5 = .ok (.ifCond .ne 7, 3) := by decide +kernel
theorem dX2_holds_8 : decode cX2_holds 8 = .ok (.iconst 0, 1) := by decide +kernel
theorem dX2_holds_9 : decode cX2_holds 9 = .ok (.goto 29, 3) := by decide +kernel
theorem dX2_holds_12 : decode cX2_holds 12 = .ok (.aload_n 0, 1) := by decide +kernel
theorem dX2_holds_13 : decode cX2_holds 13 = .ok (.iload_n 1, 1) := by decide +kernel
theorem dX2_holds_14 : decode cX2_holds 14 = .ok (.invokevirtual 51, 3) := by decide +kernel
theorem dX2_holds_17 : decode cX2_holds 17 = .ok (.iconst 2, 1) := by decide +kernel
theorem dX2_holds_18 : decode cX2_holds 18 = .ok (.if_icmp .ne 14, 3) := by decide +kernel
theorem dX2_holds_21 : decode cX2_holds 21 = .ok (.aload_n 0, 1) := by decide +kernel
theorem dX2_holds_22 : decode cX2_holds 22 = .ok (.getfield 29, 3) := by decide +kernel
theorem dX2_holds_25 : decode cX2_holds 25 = .ok (.iload_n 1, 1) := by decide +kernel
theorem dX2_holds_26 : decode cX2_holds 26 = .ok (.iaload, 1) := by decide +kernel
theorem dX2_holds_27 : decode cX2_holds 27 = .ok (.iconst 1, 1) := by decide +kernel
theorem dX2_holds_28 : decode cX2_holds 28 = .ok (.isub, 1) := by decide +kernel
theorem dX2_holds_29 : decode cX2_holds 29 = .ok (.goto 9, 3) := by decide +kernel
theorem dX2_holds_32 : decode cX2_holds 32 = .ok (.aload_n 0, 1) := by decide +kernel
theorem dX2_holds_33 : decode cX2_holds 33 = .ok (.getfield 29, 3) := by decide +kernel
theorem dX2_holds_36 : decode cX2_holds 36 = .ok (.iload_n 1, 1) := by decide +kernel
theorem dX2_holds_37 : decode cX2_holds 37 = .ok (.iaload, 1) := by decide +kernel
theorem dX2_holds_38 : decode cX2_holds 38 = .ok (.ireturn, 1) := by decide +kernel
theorem dX2_target_0 : decode cX2_target 0 = .ok (.aload_n 0, 1) := by decide +kernel
theorem dX2_target_1 : decode cX2_target 1 = .ok (.iload_n 1, 1) := by decide +kernel
theorem dX2_target_2 : decode cX2_target 2 = .ok (.invokevirtual 47, 3) := by decide +kernel
theorem dX2_target_5 : decode cX2_target 5 = .ok (.ifCond .eq 35, 3) := by decide +kernel
theorem dX2_target_8 : decode cX2_target 8 = .ok (.aload_n 0, 1) := by decide +kernel
theorem dX2_target_9 : decode cX2_target 9 = .ok (.getfield 32, 3) := by decide +kernel
theorem dX2_target_12 : decode cX2_target 12 = .ok (.iload_n 1, 1) := by decide +kernel
theorem dX2_target_13 : decode cX2_target 13 = .ok (.iaload, 1) := by decide +kernel
theorem dX2_target_14 : decode cX2_target 14 = .ok (.iload_n 1, 1) := by decide +kernel
theorem dX2_target_15 : decode cX2_target 15 = .ok (.if_icmp .eq 25, 3) := by decide +kernel
theorem dX2_target_18 : decode cX2_target 18 = .ok (.aload_n 0, 1) := by decide +kernel
theorem dX2_target_19 : decode cX2_target 19 = .ok (.aload_n 0, 1) := by decide +kernel
theorem dX2_target_20 : decode cX2_target 20 = .ok (.getfield 32, 3) := by decide +kernel
theorem dX2_target_23 : decode cX2_target 23 = .ok (.iload_n 1, 1) := by decide +kernel
theorem dX2_target_24 : decode cX2_target 24 = .ok (.iaload, 1) := by decide +kernel
theorem dX2_target_25 : decode cX2_target 25 = .ok (.invokevirtual 47, 3) := by decide +kernel
theorem dX2_target_28 : decode cX2_target 28 = .ok (.ifCond .eq 12, 3) := by decide +kernel
theorem dX2_target_31 : decode cX2_target 31 = .ok (.aload_n 0, 1) := by decide +kernel
theorem dX2_target_32 : decode cX2_target 32 = .ok (.getfield 32, 3) := by decide +kernel
theorem dX2_target_35 : decode cX2_target 35 = .ok (.iload_n 1, 1) := by decide +kernel
theorem dX2_target_36 : decode cX2_target 36 = .ok (.iaload, 1) := by decide +kernel
theorem dX2_target_37 : decode cX2_target 37 = .ok (.goto 5, 3) := by decide +kernel
theorem dX2_target_40 : decode cX2_target 40 = .ok (.bipush (-9), 2) := by decide +kernel
theorem dX2_target_42 : decode cX2_target 42 = .ok (.ireturn, 1) := by decide +kernel
theorem dX2_countOf_0 : decode cX2_countOf 0 = .ok (.iconst 0, 1) := by decide +kernel
theorem dX2_countOf_1 : decode cX2_countOf 1 = .ok (.istore_n 2, 1) := by decide +kernel
theorem dX2_countOf_2 : decode cX2_countOf 2 = .ok (.iconst 0, 1) := by decide +kernel
theorem dX2_countOf_3 : decode cX2_countOf 3 = .ok (.istore_n 3, 1) := by decide +kernel
theorem dX2_countOf_4 : decode cX2_countOf 4 = .ok (.iload_n 3, 1) := by decide +kernel
theorem dX2_countOf_5 : decode cX2_countOf 5 = .ok (.aload_n 0, 1) := by decide +kernel
theorem dX2_countOf_6 : decode cX2_countOf 6 = .ok (.getfield 9, 3) := by decide +kernel
theorem dX2_countOf_9 : decode cX2_countOf 9 = .ok (.if_icmp .ge 24, 3) := by decide +kernel
theorem dX2_countOf_12 : decode cX2_countOf 12 = .ok (.aload_n 0, 1) := by decide +kernel
theorem dX2_countOf_13 : decode cX2_countOf 13 = .ok (.iload_n 3, 1) := by decide +kernel
theorem dX2_countOf_14 : decode cX2_countOf 14 = .ok (.invokevirtual 51, 3) := by decide +kernel
theorem dX2_countOf_17 : decode cX2_countOf 17 = .ok (.iload_n 1, 1) := by decide +kernel
theorem dX2_countOf_18 : decode cX2_countOf 18 = .ok (.invokestatic 58, 3) := by decide +kernel
theorem dX2_countOf_21 : decode cX2_countOf 21 = .ok (.ifCond .eq 6, 3) := by decide +kernel
theorem dX2_countOf_24 : decode cX2_countOf 24 = .ok (.iinc 2 1, 3) := by decide +kernel
theorem dX2_countOf_27 : decode cX2_countOf 27 = .ok (.iinc 3 1, 3) := by decide +kernel
theorem dX2_countOf_30 : decode cX2_countOf 30 = .ok (.goto (-26), 3) := by decide +kernel
theorem dX2_countOf_33 : decode cX2_countOf 33 = .ok (.iload_n 2, 1) := by decide +kernel
theorem dX2_countOf_34 : decode cX2_countOf 34 = .ok (.ireturn, 1) := by decide +kernel
theorem dX2_needed_0 : decode cX2_needed 0 = .ok (.aload_n 0, 1) := by decide +kernel
theorem dX2_needed_1 : decode cX2_needed 1 = .ok (.iload_n 1, 1) := by decide +kernel
theorem dX2_needed_2 : decode cX2_needed 2 = .ok (.invokevirtual 62, 3) := by decide +kernel
theorem dX2_needed_5 : decode cX2_needed 5 = .ok (.ifCond .eq 17, 3) := by decide +kernel
theorem dX2_needed_8 : decode cX2_needed 8 = .ok (.aload_n 0, 1) := by decide +kernel
theorem dX2_needed_9 : decode cX2_needed 9 = .ok (.getfield 35, 3) := by decide +kernel
theorem dX2_needed_12 : decode cX2_needed 12 = .ok (.iload_n 1, 1) := by decide +kernel
theorem dX2_needed_13 : decode cX2_needed 13 = .ok (.iaload, 1) := by decide +kernel
theorem dX2_needed_14 : decode cX2_needed 14 = .ok (.aload_n 0, 1) := by decide +kernel
theorem dX2_needed_15 : decode cX2_needed 15 = .ok (.invokevirtual 65, 3) := by decide +kernel
theorem dX2_needed_18 : decode cX2_needed 18 = .ok (.iand, 1) := by decide +kernel
theorem dX2_needed_19 : decode cX2_needed 19 = .ok (.goto 4, 3) := by decide +kernel
theorem dX2_needed_22 : decode cX2_needed 22 = .ok (.iconst 0, 1) := by decide +kernel
theorem dX2_needed_23 : decode cX2_needed 23 = .ok (.ireturn, 1) := by decide +kernel
theorem dX2_forbidden_0 : decode cX2_forbidden 0 = .ok (.aload_n 0, 1) := by decide +kernel
theorem dX2_forbidden_1 : decode cX2_forbidden 1 = .ok (.iload_n 1, 1) := by decide +kernel
theorem dX2_forbidden_2 : decode cX2_forbidden 2 = .ok (.invokevirtual 62, 3) := by decide +kernel
theorem dX2_forbidden_5 : decode cX2_forbidden 5 = .ok (.ifCond .eq 17, 3) := by decide +kernel
theorem dX2_forbidden_8 : decode cX2_forbidden 8 = .ok (.aload_n 0, 1) := by decide +kernel
theorem dX2_forbidden_9 : decode cX2_forbidden 9 = .ok (.getfield 38, 3) := by decide +kernel
theorem dX2_forbidden_12 : decode cX2_forbidden 12 = .ok (.iload_n 1, 1) := by decide +kernel
theorem dX2_forbidden_13 : decode cX2_forbidden 13 = .ok (.iaload, 1) := by decide +kernel
theorem dX2_forbidden_14 : decode cX2_forbidden 14 = .ok (.aload_n 0, 1) := by decide +kernel
theorem dX2_forbidden_15 : decode cX2_forbidden 15 = .ok (.invokevirtual 65, 3) := by decide +kernel
theorem dX2_forbidden_18 : decode cX2_forbidden 18 = .ok (.iand, 1) := by decide +kernel
theorem dX2_forbidden_19 : decode cX2_forbidden 19 = .ok (.goto 4, 3) := by decide +kernel
theorem dX2_forbidden_22 : decode cX2_forbidden 22 = .ok (.iconst 0, 1) := by decide +kernel
theorem dX2_forbidden_23 : decode cX2_forbidden 23 = .ok (.ireturn, 1) := by decide +kernel
theorem dX2_lawfulActs_0 : decode cX2_lawfulActs 0 = .ok (.lload_n 1, 1) := by decide +kernel
theorem dX2_lawfulActs_1 : decode cX2_lawfulActs 1 = .ok (.invokestatic 69, 3) := by decide +kernel
theorem dX2_lawfulActs_4 : decode cX2_lawfulActs 4 = .ok (.istore_n 3, 1) := by decide +kernel
theorem dX2_lawfulActs_5 : decode cX2_lawfulActs 5 = .ok (.iconst 0, 1) := by decide +kernel
theorem dX2_lawfulActs_6 : decode cX2_lawfulActs 6 = .ok (.istore 4, 2) := by decide +kernel
theorem dX2_lawfulActs_8 : decode cX2_lawfulActs 8 = .ok (.iconst 0, 1) := by decide +kernel
theorem dX2_lawfulActs_9 : decode cX2_lawfulActs 9 = .ok (.istore 5, 2) := by decide +kernel
theorem dX2_lawfulActs_11 : decode cX2_lawfulActs 11 = .ok (.iload 5, 2) := by decide +kernel
theorem dX2_lawfulActs_13 : decode cX2_lawfulActs 13 = .ok (.aload_n 0, 1) := by decide +kernel
theorem dX2_lawfulActs_14 : decode cX2_lawfulActs 14 = .ok (.getfield 15, 3) := by decide +kernel
theorem dX2_lawfulActs_17 : decode cX2_lawfulActs 17 = .ok (.if_icmp .ge 42, 3) := by decide +kernel
theorem dX2_lawfulActs_20 : decode cX2_lawfulActs 20 = .ok (.aload_n 0, 1) := by decide +kernel
theorem dX2_lawfulActs_21 : decode cX2_lawfulActs 21 = .ok (.iload 5, 2) := by decide +kernel
theorem dX2_lawfulActs_23 : decode cX2_lawfulActs 23 = .ok (.invokevirtual 73, 3) := by decide +kernel
theorem dX2_lawfulActs_26 : decode cX2_lawfulActs 26 = .ok (.iload_n 3, 1) := by decide +kernel
theorem dX2_lawfulActs_27 : decode cX2_lawfulActs 27 = .ok (.iconst (-1), 1) := by decide +kernel
theorem dX2_lawfulActs_28 : decode cX2_lawfulActs 28 = .ok (.ixor, 1) := by decide +kernel
theorem dX2_lawfulActs_29 : decode cX2_lawfulActs 29 = .ok (.iand, 1) := by decide +kernel
theorem dX2_lawfulActs_30 : decode cX2_lawfulActs 30 = .ok (.ifCond .ne 23, 3) := by decide +kernel
theorem dX2_lawfulActs_33 : decode cX2_lawfulActs 33 = .ok (.aload_n 0, 1) := by decide +kernel
theorem dX2_lawfulActs_34 : decode cX2_lawfulActs 34 = .ok (.iload 5, 2) := by decide +kernel
theorem dX2_lawfulActs_36 : decode cX2_lawfulActs 36 = .ok (.invokevirtual 76, 3) := by decide +kernel
theorem dX2_lawfulActs_39 : decode cX2_lawfulActs 39 = .ok (.iload_n 3, 1) := by decide +kernel
theorem dX2_lawfulActs_40 : decode cX2_lawfulActs 40 = .ok (.iand, 1) := by decide +kernel
theorem dX2_lawfulActs_41 : decode cX2_lawfulActs 41 = .ok (.ifCond .ne 12, 3) := by decide +kernel
theorem dX2_lawfulActs_44 : decode cX2_lawfulActs 44 = .ok (.iload 4, 2) := by decide +kernel
theorem dX2_lawfulActs_46 : decode cX2_lawfulActs 46 = .ok (.iconst 1, 1) := by decide +kernel
theorem dX2_lawfulActs_47 : decode cX2_lawfulActs 47 = .ok (.iload 5, 2) := by decide +kernel
theorem dX2_lawfulActs_49 : decode cX2_lawfulActs 49 = .ok (.ishl, 1) := by decide +kernel
theorem dX2_lawfulActs_50 : decode cX2_lawfulActs 50 = .ok (.ior, 1) := by decide +kernel
theorem dX2_lawfulActs_51 : decode cX2_lawfulActs 51 = .ok (.istore 4, 2) := by decide +kernel
theorem dX2_lawfulActs_53 : decode cX2_lawfulActs 53 = .ok (.iinc 5 1, 3) := by decide +kernel
theorem dX2_lawfulActs_56 : decode cX2_lawfulActs 56 = .ok (.goto (-45), 3) := by decide +kernel
theorem dX2_lawfulActs_59 : decode cX2_lawfulActs 59 = .ok (.iload 4, 2) := by decide +kernel
theorem dX2_lawfulActs_61 : decode cX2_lawfulActs 61 = .ok (.ireturn, 1) := by decide +kernel
theorem dX2_hauled_0 : decode cX2_hauled 0 = .ok (.lload_n 1, 1) := by decide +kernel
theorem dX2_hauled_1 : decode cX2_hauled 1 = .ok (.lstore 5, 2) := by decide +kernel
theorem dX2_hauled_3 : decode cX2_hauled 3 = .ok (.iload_n 3, 1) := by decide +kernel
theorem dX2_hauled_4 : decode cX2_hauled 4 = .ok (.istore 7, 2) := by decide +kernel
theorem dX2_hauled_6 : decode cX2_hauled 6 = .ok (.lload_n 1, 1) := by decide +kernel
theorem dX2_hauled_7 : decode cX2_hauled 7 = .ok (.invokestatic 79, 3) := by decide +kernel
theorem dX2_hauled_10 : decode cX2_hauled 10 = .ok (.ifCond .eq 19, 3) := by decide +kernel
theorem dX2_hauled_13 : decode cX2_hauled 13 = .ok (.aload_n 0, 1) := by decide +kernel
theorem dX2_hauled_14 : decode cX2_hauled 14 = .ok (.iload_n 3, 1) := by decide +kernel
theorem dX2_hauled_15 : decode cX2_hauled 15 = .ok (.invokevirtual 51, 3) := by decide +kernel
theorem dX2_hauled_18 : decode cX2_hauled 18 = .ok (.iconst 4, 1) := by decide +kernel
theorem dX2_hauled_19 : decode cX2_hauled 19 = .ok (.if_icmp .eq 10, 3) := by decide +kernel
theorem dX2_hauled_22 : decode cX2_hauled 22 = .ok (.iload 4, 2) := by decide +kernel
theorem dX2_hauled_24 : decode cX2_hauled 24 = .ok (.iconst 1, 1) := by decide +kernel
theorem dX2_hauled_25 : decode cX2_hauled 25 = .ok (.iadd, 1) := by decide +kernel
theorem dX2_hauled_26 : decode cX2_hauled 26 = .ok (.goto 5, 3) := by decide +kernel
theorem dX2_hauled_29 : decode cX2_hauled 29 = .ok (.iload 4, 2) := by decide +kernel
theorem dX2_hauled_31 : decode cX2_hauled 31 = .ok (.istore 8, 2) := by decide +kernel
theorem dX2_hauled_33 : decode cX2_hauled 33 = .ok (.aload_n 0, 1) := by decide +kernel
theorem dX2_hauled_34 : decode cX2_hauled 34 = .ok (.iconst 0, 1) := by decide +kernel
theorem dX2_hauled_35 : decode cX2_hauled 35 = .ok (.putfield 22, 3) := by decide +kernel
theorem dX2_hauled_38 : decode cX2_hauled 38 = .ok (.iconst 0, 1) := by decide +kernel
theorem dX2_hauled_39 : decode cX2_hauled 39 = .ok (.istore 9, 2) := by decide +kernel
theorem dX2_hauled_41 : decode cX2_hauled 41 = .ok (.iload 9, 2) := by decide +kernel
theorem dX2_hauled_43 : decode cX2_hauled 43 = .ok (.bipush 6, 2) := by decide +kernel
theorem dX2_hauled_45 : decode cX2_hauled 45 = .ok (.if_icmp .ge 103, 3) := by decide +kernel
theorem dX2_hauled_48 : decode cX2_hauled 48 = .ok (.iload 8, 2) := by decide +kernel
theorem dX2_hauled_50 : decode cX2_hauled 50 = .ok (.ifCond .le 98, 3) := by decide +kernel
theorem dX2_hauled_53 : decode cX2_hauled 53 = .ok (.aload_n 0, 1) := by decide +kernel
theorem dX2_hauled_54 : decode cX2_hauled 54 = .ok (.lload 5, 2) := by decide +kernel
theorem dX2_hauled_56 : decode cX2_hauled 56 = .ok (.iload 7, 2) := by decide +kernel
theorem dX2_hauled_58 : decode cX2_hauled 58 = .ok (.invokevirtual 82, 3) := by decide +kernel
theorem dX2_hauled_61 : decode cX2_hauled 61 = .ok (.ifCond .eq 87, 3) := by decide +kernel
theorem dX2_hauled_64 : decode cX2_hauled 64 = .ok (.aload_n 0, 1) := by decide +kernel
theorem dX2_hauled_65 : decode cX2_hauled 65 = .ok (.dup, 1) := by decide +kernel
theorem dX2_hauled_66 : decode cX2_hauled 66 = .ok (.getfield 22, 3) := by decide +kernel
theorem dX2_hauled_69 : decode cX2_hauled 69 = .ok (.iconst 1, 1) := by decide +kernel
theorem dX2_hauled_70 : decode cX2_hauled 70 = .ok (.iload 7, 2) := by decide +kernel
theorem dX2_hauled_72 : decode cX2_hauled 72 = .ok (.ishl, 1) := by decide +kernel
theorem dX2_hauled_73 : decode cX2_hauled 73 = .ok (.ior, 1) := by decide +kernel
theorem dX2_hauled_74 : decode cX2_hauled 74 = .ok (.putfield 22, 3) := by decide +kernel
theorem dX2_hauled_77 : decode cX2_hauled 77 = .ok (.lload 5, 2) := by decide +kernel
theorem dX2_hauled_79 : decode cX2_hauled 79 = .ok (.iload 7, 2) := by decide +kernel
theorem dX2_hauled_81 : decode cX2_hauled 81 = .ok (.invokestatic 86, 3) := by decide +kernel
theorem dX2_hauled_84 : decode cX2_hauled 84 = .ok (.iload 8, 2) := by decide +kernel
theorem dX2_hauled_86 : decode cX2_hauled 86 = .ok (.iadd, 1) := by decide +kernel
theorem dX2_hauled_87 : decode cX2_hauled 87 = .ok (.istore 10, 2) := by decide +kernel
theorem dX2_hauled_89 : decode cX2_hauled 89 = .ok (.iload 10, 2) := by decide +kernel
theorem dX2_hauled_91 : decode cX2_hauled 91 = .ok (.aload_n 0, 1) := by decide +kernel
theorem dX2_hauled_92 : decode cX2_hauled 92 = .ok (.iload 7, 2) := by decide +kernel
theorem dX2_hauled_94 : decode cX2_hauled 94 = .ok (.invokevirtual 90, 3) := by decide +kernel
theorem dX2_hauled_97 : decode cX2_hauled 97 = .ok (.if_icmp .le 13, 3) := by decide +kernel
theorem dX2_hauled_100 : decode cX2_hauled 100 = .ok (.lload 5, 2) := by decide +kernel
theorem dX2_hauled_102 : decode cX2_hauled 102 = .ok (.iconst 1, 1) := by decide +kernel
theorem dX2_hauled_103 : decode cX2_hauled 103 = .ok (.iload 7, 2) := by decide +kernel
theorem dX2_hauled_105 : decode cX2_hauled 105 = .ok (.ishl, 1) := by decide +kernel
theorem dX2_hauled_106 : decode cX2_hauled 106 = .ok (.invokestatic 93, 3) := by decide +kernel
theorem dX2_hauled_109 : decode cX2_hauled 109 = .ok (.lreturn, 1) := by decide +kernel
theorem dX2_hauled_110 : decode cX2_hauled 110 = .ok (.lload 5, 2) := by decide +kernel
theorem dX2_hauled_112 : decode cX2_hauled 112 = .ok (.iload 7, 2) := by decide +kernel
theorem dX2_hauled_114 : decode cX2_hauled 114 = .ok (.iload 10, 2) := by decide +kernel
theorem dX2_hauled_116 : decode cX2_hauled 116 = .ok (.invokestatic 41, 3) := by decide +kernel
theorem dX2_hauled_119 : decode cX2_hauled 119 = .ok (.lstore 5, 2) := by decide +kernel
theorem dX2_hauled_121 : decode cX2_hauled 121 = .ok (.aload_n 0, 1) := by decide +kernel
theorem dX2_hauled_122 : decode cX2_hauled 122 = .ok (.iload 7, 2) := by decide +kernel
theorem dX2_hauled_124 : decode cX2_hauled 124 = .ok (.invokevirtual 51, 3) := by decide +kernel
theorem dX2_hauled_127 : decode cX2_hauled 127 = .ok (.iload 8, 2) := by decide +kernel
theorem dX2_hauled_129 : decode cX2_hauled 129 = .ok (.invokestatic 97, 3) := by decide +kernel
theorem dX2_hauled_132 : decode cX2_hauled 132 = .ok (.istore 8, 2) := by decide +kernel
theorem dX2_hauled_134 : decode cX2_hauled 134 = .ok (.aload_n 0, 1) := by decide +kernel
theorem dX2_hauled_135 : decode cX2_hauled 135 = .ok (.iload 7, 2) := by decide +kernel
theorem dX2_hauled_137 : decode cX2_hauled 137 = .ok (.invokevirtual 55, 3) := by decide +kernel
theorem dX2_hauled_140 : decode cX2_hauled 140 = .ok (.istore 7, 2) := by decide +kernel
theorem dX2_hauled_142 : decode cX2_hauled 142 = .ok (.iinc 9 1, 3) := by decide +kernel
theorem dX2_hauled_145 : decode cX2_hauled 145 = .ok (.goto (-104), 3) := by decide +kernel
theorem dX2_hauled_148 : decode cX2_hauled 148 = .ok (.lload 5, 2) := by decide +kernel
theorem dX2_hauled_150 : decode cX2_hauled 150 = .ok (.lreturn, 1) := by decide +kernel
theorem dX2_canReach_0 : decode cX2_canReach 0 = .ok (.aload_n 0, 1) := by decide +kernel
theorem dX2_canReach_1 : decode cX2_canReach 1 = .ok (.iload_n 3, 1) := by decide +kernel
theorem dX2_canReach_2 : decode cX2_canReach 2 = .ok (.invokevirtual 47, 3) := by decide +kernel
theorem dX2_canReach_5 : decode cX2_canReach 5 = .ok (.ifCond .eq 26, 3) := by decide +kernel
theorem dX2_canReach_8 : decode cX2_canReach 8 = .ok (.lload_n 1, 1) := by decide +kernel
theorem dX2_canReach_9 : decode cX2_canReach 9 = .ok (.iload_n 3, 1) := by decide +kernel
theorem dX2_canReach_10 : decode cX2_canReach 10 = .ok (.invokestatic 101, 3) := by decide +kernel
theorem dX2_canReach_13 : decode cX2_canReach 13 = .ok (.ifCond .eq 18, 3) := by decide +kernel
theorem dX2_canReach_16 : decode cX2_canReach 16 = .ok (.aload_n 0, 1) := by decide +kernel
theorem dX2_canReach_17 : decode cX2_canReach 17 = .ok (.getfield 22, 3) := by decide +kernel
theorem dX2_canReach_20 : decode cX2_canReach 20 = .ok (.iload_n 3, 1) := by decide +kernel
theorem dX2_canReach_21 : decode cX2_canReach 21 = .ok (.ishr, 1) := by decide +kernel
theorem dX2_canReach_22 : decode cX2_canReach 22 = .ok (.iconst 1, 1) := by decide +kernel
theorem dX2_canReach_23 : decode cX2_canReach 23 = .ok (.iand, 1) := by decide +kernel
theorem dX2_canReach_24 : decode cX2_canReach 24 = .ok (.ifCond .ne 7, 3) := by decide +kernel
theorem dX2_canReach_27 : decode cX2_canReach 27 = .ok (.iconst 1, 1) := by decide +kernel
theorem dX2_canReach_28 : decode cX2_canReach 28 = .ok (.goto 4, 3) := by decide +kernel
theorem dX2_canReach_31 : decode cX2_canReach 31 = .ok (.iconst 0, 1) := by decide +kernel
theorem dX2_canReach_32 : decode cX2_canReach 32 = .ok (.ireturn, 1) := by decide +kernel
theorem dX2_byLot_0 : decode cX2_byLot 0 = .ok (.aload_n 0, 1) := by decide +kernel
theorem dX2_byLot_1 : decode cX2_byLot 1 = .ok (.getfield 9, 3) := by decide +kernel
theorem dX2_byLot_4 : decode cX2_byLot 4 = .ok (.ifCond .gt 5, 3) := by decide +kernel
theorem dX2_byLot_7 : decode cX2_byLot 7 = .ok (.lload_n 1, 1) := by decide +kernel
theorem dX2_byLot_8 : decode cX2_byLot 8 = .ok (.lreturn, 1) := by decide +kernel
theorem dX2_byLot_9 : decode cX2_byLot 9 = .ok (.iload_n 3, 1) := by decide +kernel
theorem dX2_byLot_10 : decode cX2_byLot 10 = .ok (.aload_n 0, 1) := by decide +kernel
theorem dX2_byLot_11 : decode cX2_byLot 11 = .ok (.getfield 9, 3) := by decide +kernel
theorem dX2_byLot_14 : decode cX2_byLot 14 = .ok (.irem, 1) := by decide +kernel
theorem dX2_byLot_15 : decode cX2_byLot 15 = .ok (.istore 4, 2) := by decide +kernel
theorem dX2_byLot_17 : decode cX2_byLot 17 = .ok (.iload_n 3, 1) := by decide +kernel
theorem dX2_byLot_18 : decode cX2_byLot 18 = .ok (.bipush 8, 2) := by decide +kernel
theorem dX2_byLot_20 : decode cX2_byLot 20 = .ok (.idiv, 1) := by decide +kernel
theorem dX2_byLot_21 : decode cX2_byLot 21 = .ok (.bipush 8, 2) := by decide +kernel
theorem dX2_byLot_23 : decode cX2_byLot 23 = .ok (.irem, 1) := by decide +kernel
theorem dX2_byLot_24 : decode cX2_byLot 24 = .ok (.istore 5, 2) := by decide +kernel
theorem dX2_byLot_26 : decode cX2_byLot 26 = .ok (.iload 5, 2) := by decide +kernel
theorem dX2_byLot_28 : decode cX2_byLot 28 = .ok (.tableswitch 95 5 7 #[28, 64, 84], 28) := by decide +kernel
theorem dX2_byLot_56 : decode cX2_byLot 56 = .ok (.lload_n 1, 1) := by decide +kernel
theorem dX2_byLot_57 : decode cX2_byLot 57 = .ok (.iload 4, 2) := by decide +kernel
theorem dX2_byLot_59 : decode cX2_byLot 59 = .ok (.invokestatic 104, 3) := by decide +kernel
theorem dX2_byLot_62 : decode cX2_byLot 62 = .ok (.ifCond .eq 5, 3) := by decide +kernel
theorem dX2_byLot_65 : decode cX2_byLot 65 = .ok (.lload_n 1, 1) := by decide +kernel
theorem dX2_byLot_66 : decode cX2_byLot 66 = .ok (.lreturn, 1) := by decide +kernel
theorem dX2_byLot_67 : decode cX2_byLot 67 = .ok (.lload_n 1, 1) := by decide +kernel
theorem dX2_byLot_68 : decode cX2_byLot 68 = .ok (.iload 4, 2) := by decide +kernel
theorem dX2_byLot_70 : decode cX2_byLot 70 = .ok (.invokestatic 107, 3) := by decide +kernel
theorem dX2_byLot_73 : decode cX2_byLot 73 = .ok (.ifCond .eq 12, 3) := by decide +kernel
theorem dX2_byLot_76 : decode cX2_byLot 76 = .ok (.lload_n 1, 1) := by decide +kernel
theorem dX2_byLot_77 : decode cX2_byLot 77 = .ok (.iload 4, 2) := by decide +kernel
theorem dX2_byLot_79 : decode cX2_byLot 79 = .ok (.invokestatic 110, 3) := by decide +kernel
theorem dX2_byLot_82 : decode cX2_byLot 82 = .ok (.goto 9, 3) := by decide +kernel
theorem dX2_byLot_85 : decode cX2_byLot 85 = .ok (.lload_n 1, 1) := by decide +kernel
theorem dX2_byLot_86 : decode cX2_byLot 86 = .ok (.iload 4, 2) := by decide +kernel
theorem dX2_byLot_88 : decode cX2_byLot 88 = .ok (.invokestatic 113, 3) := by decide +kernel
theorem dX2_byLot_91 : decode cX2_byLot 91 = .ok (.lreturn, 1) := by decide +kernel
theorem dX2_byLot_92 : decode cX2_byLot 92 = .ok (.lload_n 1, 1) := by decide +kernel
theorem dX2_byLot_93 : decode cX2_byLot 93 = .ok (.iload 4, 2) := by decide +kernel
theorem dX2_byLot_95 : decode cX2_byLot 95 = .ok (.invokestatic 104, 3) := by decide +kernel
theorem dX2_byLot_98 : decode cX2_byLot 98 = .ok (.ifCond .eq 12, 3) := by decide +kernel
theorem dX2_byLot_101 : decode cX2_byLot 101 = .ok (.lload_n 1, 1) := by decide +kernel
theorem dX2_byLot_102 : decode cX2_byLot 102 = .ok (.iload 4, 2) := by decide +kernel
theorem dX2_byLot_104 : decode cX2_byLot 104 = .ok (.invokestatic 116, 3) := by decide +kernel
theorem dX2_byLot_107 : decode cX2_byLot 107 = .ok (.goto 4, 3) := by decide +kernel
theorem dX2_byLot_110 : decode cX2_byLot 110 = .ok (.lload_n 1, 1) := by decide +kernel
theorem dX2_byLot_111 : decode cX2_byLot 111 = .ok (.lreturn, 1) := by decide +kernel
theorem dX2_byLot_112 : decode cX2_byLot 112 = .ok (.lload_n 1, 1) := by decide +kernel
theorem dX2_byLot_113 : decode cX2_byLot 113 = .ok (.iconst 1, 1) := by decide +kernel
theorem dX2_byLot_114 : decode cX2_byLot 114 = .ok (.lload_n 1, 1) := by decide +kernel
theorem dX2_byLot_115 : decode cX2_byLot 115 = .ok (.invokestatic 79, 3) := by decide +kernel
theorem dX2_byLot_118 : decode cX2_byLot 118 = .ok (.isub, 1) := by decide +kernel
theorem dX2_byLot_119 : decode cX2_byLot 119 = .ok (.invokestatic 119, 3) := by decide +kernel
theorem dX2_byLot_122 : decode cX2_byLot 122 = .ok (.lreturn, 1) := by decide +kernel
theorem dX2_byLot_123 : decode cX2_byLot 123 = .ok (.lload_n 1, 1) := by decide +kernel
theorem dX2_byLot_124 : decode cX2_byLot 124 = .ok (.iload 4, 2) := by decide +kernel
theorem dX2_byLot_126 : decode cX2_byLot 126 = .ok (.invokestatic 101, 3) := by decide +kernel
theorem dX2_byLot_129 : decode cX2_byLot 129 = .ok (.ifCond .eq 21, 3) := by decide +kernel
theorem dX2_byLot_132 : decode cX2_byLot 132 = .ok (.aload_n 0, 1) := by decide +kernel
theorem dX2_byLot_133 : decode cX2_byLot 133 = .ok (.lload_n 1, 1) := by decide +kernel
theorem dX2_byLot_134 : decode cX2_byLot 134 = .ok (.iload 4, 2) := by decide +kernel
theorem dX2_byLot_136 : decode cX2_byLot 136 = .ok (.iconst 1, 1) := by decide +kernel
theorem dX2_byLot_137 : decode cX2_byLot 137 = .ok (.iload_n 3, 1) := by decide +kernel
theorem dX2_byLot_138 : decode cX2_byLot 138 = .ok (.bipush 64, 2) := by decide +kernel
theorem dX2_byLot_140 : decode cX2_byLot 140 = .ok (.idiv, 1) := by decide +kernel
theorem dX2_byLot_141 : decode cX2_byLot 141 = .ok (.iconst 4, 1) := by decide +kernel
theorem dX2_byLot_142 : decode cX2_byLot 142 = .ok (.irem, 1) := by decide +kernel
theorem dX2_byLot_143 : decode cX2_byLot 143 = .ok (.iadd, 1) := by decide +kernel
theorem dX2_byLot_144 : decode cX2_byLot 144 = .ok (.invokevirtual 122, 3) := by decide +kernel
theorem dX2_byLot_147 : decode cX2_byLot 147 = .ok (.goto 4, 3) := by decide +kernel
theorem dX2_byLot_150 : decode cX2_byLot 150 = .ok (.lload_n 1, 1) := by decide +kernel
theorem dX2_byLot_151 : decode cX2_byLot 151 = .ok (.lreturn, 1) := by decide +kernel
theorem dX3_fewest_0 : decode cX3_fewest 0 = .ok (.iconst 0, 1) := by decide +kernel
theorem dX3_fewest_1 : decode cX3_fewest 1 = .ok (.istore 5, 2) := by decide +kernel
theorem dX3_fewest_3 : decode cX3_fewest 3 = .ok (.iload 5, 2) := by decide +kernel
theorem dX3_fewest_5 : decode cX3_fewest 5 = .ok (.iconst 4, 1) := by decide +kernel
theorem dX3_fewest_6 : decode cX3_fewest 6 = .ok (.if_icmp .gt 27, 3) := by decide +kernel
theorem dX3_fewest_9 : decode cX3_fewest 9 = .ok (.aload_n 0, 1) := by decide +kernel
theorem dX3_fewest_10 : decode cX3_fewest 10 = .ok (.iload_n 1, 1) := by decide +kernel
theorem dX3_fewest_11 : decode cX3_fewest 11 = .ok (.lload_n 2, 1) := by decide +kernel
theorem dX3_fewest_12 : decode cX3_fewest 12 = .ok (.aload 4, 2) := by decide +kernel
theorem dX3_fewest_14 : decode cX3_fewest 14 = .ok (.iload 5, 2) := by decide +kernel
theorem dX3_fewest_16 : decode cX3_fewest 16 = .ok (.iload 5, 2) := by decide +kernel
theorem dX3_fewest_18 : decode cX3_fewest 18 = .ok (.invokestatic 9, 3) := by decide +kernel
theorem dX3_fewest_21 : decode cX3_fewest 21 = .ok (.ifCond .eq 6, 3) := by decide +kernel
theorem dX3_fewest_24 : decode cX3_fewest 24 = .ok (.iload 5, 2) := by decide +kernel
theorem dX3_fewest_26 : decode cX3_fewest 26 = .ok (.ireturn, 1) := by decide +kernel
theorem dX3_fewest_27 : decode cX3_fewest 27 = .ok (.iinc 5 1, 3) := by decide +kernel
theorem dX3_fewest_30 : decode cX3_fewest 30 = .ok (.goto (-27), 3) := by decide +kernel
theorem dX3_fewest_33 : decode cX3_fewest 33 = .ok (.bipush (-9), 2) := by decide +kernel
theorem dX3_fewest_35 : decode cX3_fewest 35 = .ok (.ireturn, 1) := by decide +kernel
theorem dX3_isReached_0 : decode cX3_isReached 0 = .ok (.iload 6, 2) := by decide +kernel
theorem dX3_isReached_2 : decode cX3_isReached 2 = .ok (.ifCond .lt 21, 3) := by decide +kernel
theorem dX3_isReached_5 : decode cX3_isReached 5 = .ok (.iload 6, 2) := by decide +kernel
theorem dX3_isReached_7 : decode cX3_isReached 7 = .ok (.iload 5, 2) := by decide +kernel
theorem dX3_isReached_9 : decode cX3_isReached 9 = .ok (.if_icmp .gt 14, 3) := by decide +kernel
theorem dX3_isReached_12 : decode cX3_isReached 12 = .ok (.aload_n 0, 1) := by decide +kernel
theorem dX3_isReached_13 : decode cX3_isReached 13 = .ok (.iload_n 1, 1) := by decide +kernel
theorem dX3_isReached_14 : decode cX3_isReached 14 = .ok (.lload_n 2, 1) := by decide +kernel
theorem dX3_isReached_15 : decode cX3_isReached 15 = .ok (.iload 6, 2) := by decide +kernel
theorem dX3_isReached_17 : decode cX3_isReached 17 = .ok (.invokestatic 15, 3) := by decide +kernel
theorem dX3_isReached_20 : decode cX3_isReached 20 = .ok (.ifCond .eq 5, 3) := by decide +kernel
theorem dX3_isReached_23 : decode cX3_isReached 23 = .ok (.iconst 0, 1) := by decide +kernel
theorem dX3_isReached_24 : decode cX3_isReached 24 = .ok (.ireturn, 1) := by decide +kernel
theorem dX3_isReached_25 : decode cX3_isReached 25 = .ok (.iload 6, 2) := by decide +kernel
theorem dX3_isReached_27 : decode cX3_isReached 27 = .ok (.ifCond .ne 5, 3) := by decide +kernel
theorem dX3_isReached_30 : decode cX3_isReached 30 = .ok (.iconst 1, 1) := by decide +kernel
theorem dX3_isReached_31 : decode cX3_isReached 31 = .ok (.ireturn, 1) := by decide +kernel
theorem dX3_isReached_32 : decode cX3_isReached 32 = .ok (.iload 5, 2) := by decide +kernel
theorem dX3_isReached_34 : decode cX3_isReached 34 = .ok (.iload 6, 2) := by decide +kernel
theorem dX3_isReached_36 : decode cX3_isReached 36 = .ok (.isub, 1) := by decide +kernel
theorem dX3_isReached_37 : decode cX3_isReached 37 = .ok (.istore 7, 2) := by decide +kernel
theorem dX3_isReached_39 : decode cX3_isReached 39 = .ok (.iload 7, 2) := by decide +kernel
theorem dX3_isReached_41 : decode cX3_isReached 41 = .ok (.aload 4, 2) := by decide +kernel
theorem dX3_isReached_43 : decode cX3_isReached 43 = .ok (.arraylength, 1) := by decide +kernel
theorem dX3_isReached_44 : decode cX3_isReached 44 = .ok (.if_icmp .lt 5, 3) := by decide +kernel
theorem dX3_isReached_47 : decode cX3_isReached 47 = .ok (.iconst 0, 1) := by decide +kernel
theorem dX3_isReached_48 : decode cX3_isReached 48 = .ok (.ireturn, 1) := by decide +kernel
theorem dX3_isReached_49 : decode cX3_isReached 49 = .ok (.iconst 0, 1) := by decide +kernel
theorem dX3_isReached_50 : decode cX3_isReached 50 = .ok (.istore 8, 2) := by decide +kernel
theorem dX3_isReached_52 : decode cX3_isReached 52 = .ok (.iload 8, 2) := by decide +kernel
theorem dX3_isReached_54 : decode cX3_isReached 54 = .ok (.bipush 12, 2) := by decide +kernel
theorem dX3_isReached_56 : decode cX3_isReached 56 = .ok (.if_icmp .ge 99, 3) := by decide +kernel
theorem dX3_isReached_59 : decode cX3_isReached 59 = .ok (.iload 8, 2) := by decide +kernel
theorem dX3_isReached_61 : decode cX3_isReached 61 = .ok (.bipush 6, 2) := by decide +kernel
theorem dX3_isReached_63 : decode cX3_isReached 63 = .ok (.irem, 1) := by decide +kernel
theorem dX3_isReached_64 : decode cX3_isReached 64 = .ok (.istore 9, 2) := by decide +kernel
theorem dX3_isReached_66 : decode cX3_isReached 66 = .ok (.aload_n 0, 1) := by decide +kernel
theorem dX3_isReached_67 : decode cX3_isReached 67 = .ok (.iload 9, 2) := by decide +kernel
theorem dX3_isReached_69 : decode cX3_isReached 69 = .ok (.invokevirtual 19, 3) := by decide +kernel
theorem dX3_isReached_72 : decode cX3_isReached 72 = .ok (.ifCond .eq 77, 3) := by decide +kernel
theorem dX3_isReached_75 : decode cX3_isReached 75 = .ok (.lload_n 2, 1) := by decide +kernel
theorem dX3_isReached_76 : decode cX3_isReached 76 = .ok (.iload 9, 2) := by decide +kernel
theorem dX3_isReached_78 : decode cX3_isReached 78 = .ok (.invokestatic 25, 3) := by decide +kernel
theorem dX3_isReached_81 : decode cX3_isReached 81 = .ok (.ifCond .eq 68, 3) := by decide +kernel
theorem dX3_isReached_84 : decode cX3_isReached 84 = .ok (.iload 8, 2) := by decide +kernel
theorem dX3_isReached_86 : decode cX3_isReached 86 = .ok (.bipush 6, 2) := by decide +kernel
theorem dX3_isReached_88 : decode cX3_isReached 88 = .ok (.if_icmp .ge 14, 3) := by decide +kernel
theorem dX3_isReached_91 : decode cX3_isReached 91 = .ok (.aload_n 0, 1) := by decide +kernel
theorem dX3_isReached_92 : decode cX3_isReached 92 = .ok (.lload_n 2, 1) := by decide +kernel
theorem dX3_isReached_93 : decode cX3_isReached 93 = .ok (.iload 9, 2) := by decide +kernel
theorem dX3_isReached_95 : decode cX3_isReached 95 = .ok (.iconst 1, 1) := by decide +kernel
theorem dX3_isReached_96 : decode cX3_isReached 96 = .ok (.invokevirtual 31, 3) := by decide +kernel
theorem dX3_isReached_99 : decode cX3_isReached 99 = .ok (.goto 9, 3) := by decide +kernel
theorem dX3_isReached_102 : decode cX3_isReached 102 = .ok (.lload_n 2, 1) := by decide +kernel
theorem dX3_isReached_103 : decode cX3_isReached 103 = .ok (.iload 9, 2) := by decide +kernel
theorem dX3_isReached_105 : decode cX3_isReached 105 = .ok (.invokestatic 35, 3) := by decide +kernel
theorem dX3_isReached_108 : decode cX3_isReached 108 = .ok (.lstore 10, 2) := by decide +kernel
theorem dX3_isReached_110 : decode cX3_isReached 110 = .ok (.aload 4, 2) := by decide +kernel
theorem dX3_isReached_112 : decode cX3_isReached 112 = .ok (.iload 7, 2) := by decide +kernel
theorem dX3_isReached_114 : decode cX3_isReached 114 = .ok (.iload 8, 2) := by decide +kernel
theorem dX3_isReached_116 : decode cX3_isReached 116 = .ok (.iastore, 1) := by decide +kernel
theorem dX3_isReached_117 : decode cX3_isReached 117 = .ok (.lload 10, 2) := by decide +kernel
theorem dX3_isReached_119 : decode cX3_isReached 119 = .ok (.invokestatic 39, 3) := by decide +kernel
theorem dX3_isReached_122 : decode cX3_isReached 122 = .ok (.lload_n 2, 1) := by decide +kernel
theorem dX3_isReached_123 : decode cX3_isReached 123 = .ok (.invokestatic 39, 3) := by decide +kernel
theorem dX3_isReached_126 : decode cX3_isReached 126 = .ok (.if_icmp .ne 23, 3) := by decide +kernel
theorem dX3_isReached_129 : decode cX3_isReached 129 = .ok (.aload_n 0, 1) := by decide +kernel
theorem dX3_isReached_130 : decode cX3_isReached 130 = .ok (.iload_n 1, 1) := by decide +kernel
theorem dX3_isReached_131 : decode cX3_isReached 131 = .ok (.lload 10, 2) := by decide +kernel
theorem dX3_isReached_133 : decode cX3_isReached 133 = .ok (.aload 4, 2) := by decide +kernel
theorem dX3_isReached_135 : decode cX3_isReached 135 = .ok (.iload 5, 2) := by decide +kernel
theorem dX3_isReached_137 : decode cX3_isReached 137 = .ok (.iload 6, 2) := by decide +kernel
theorem dX3_isReached_139 : decode cX3_isReached 139 = .ok (.iconst 1, 1) := by decide +kernel
theorem dX3_isReached_140 : decode cX3_isReached 140 = .ok (.isub, 1) := by decide +kernel
theorem dX3_isReached_141 : decode cX3_isReached 141 = .ok (.invokestatic 9, 3) := by decide +kernel
theorem dX3_isReached_144 : decode cX3_isReached 144 = .ok (.ifCond .eq 5, 3) := by decide +kernel
theorem dX3_isReached_147 : decode cX3_isReached 147 = .ok (.iconst 1, 1) := by decide +kernel
theorem dX3_isReached_148 : decode cX3_isReached 148 = .ok (.ireturn, 1) := by decide +kernel
theorem dX3_isReached_149 : decode cX3_isReached 149 = .ok (.iinc 8 1, 3) := by decide +kernel
theorem dX3_isReached_152 : decode cX3_isReached 152 = .ok (.goto (-100), 3) := by decide +kernel
theorem dX3_isReached_155 : decode cX3_isReached 155 = .ok (.iconst 0, 1) := by decide +kernel
theorem dX3_isReached_156 : decode cX3_isReached 156 = .ok (.ireturn, 1) := by decide +kernel
theorem dX3_isTooFar_0 : decode cX3_isTooFar 0 = .ok (.lload_n 2, 1) := by decide +kernel
theorem dX3_isTooFar_1 : decode cX3_isTooFar 1 = .ok (.invokestatic 43, 3) := by decide +kernel
theorem dX3_isTooFar_4 : decode cX3_isTooFar 4 = .ok (.istore 5, 2) := by decide +kernel
theorem dX3_isTooFar_6 : decode cX3_isTooFar 6 = .ok (.lload_n 2, 1) := by decide +kernel
theorem dX3_isTooFar_7 : decode cX3_isTooFar 7 = .ok (.invokestatic 46, 3) := by decide +kernel
theorem dX3_isTooFar_10 : decode cX3_isTooFar 10 = .ok (.lload_n 2, 1) := by decide +kernel
theorem dX3_isTooFar_11 : decode cX3_isTooFar 11 = .ok (.invokestatic 39, 3) := by decide +kernel
theorem dX3_isTooFar_14 : decode cX3_isTooFar 14 = .ok (.ior, 1) := by decide +kernel
theorem dX3_isTooFar_15 : decode cX3_isTooFar 15 = .ok (.istore 6, 2) := by decide +kernel
theorem dX3_isTooFar_17 : decode cX3_isTooFar 17 = .ok (.aload_n 0, 1) := by decide +kernel
theorem dX3_isTooFar_18 : decode cX3_isTooFar 18 = .ok (.iload_n 1, 1) := by decide +kernel
theorem dX3_isTooFar_19 : decode cX3_isTooFar 19 = .ok (.invokevirtual 49, 3) := by decide +kernel
theorem dX3_isTooFar_22 : decode cX3_isTooFar 22 = .ok (.iload 5, 2) := by decide +kernel
theorem dX3_isTooFar_24 : decode cX3_isTooFar 24 = .ok (.iconst (-1), 1) := by decide +kernel
theorem dX3_isTooFar_25 : decode cX3_isTooFar 25 = .ok (.ixor, 1) := by decide +kernel
theorem dX3_isTooFar_26 : decode cX3_isTooFar 26 = .ok (.iand, 1) := by decide +kernel
theorem dX3_isTooFar_27 : decode cX3_isTooFar 27 = .ok (.istore 7, 2) := by decide +kernel
theorem dX3_isTooFar_29 : decode cX3_isTooFar 29 = .ok (.aload_n 0, 1) := by decide +kernel
theorem dX3_isTooFar_30 : decode cX3_isTooFar 30 = .ok (.iload_n 1, 1) := by decide +kernel
theorem dX3_isTooFar_31 : decode cX3_isTooFar 31 = .ok (.invokevirtual 53, 3) := by decide +kernel
theorem dX3_isTooFar_34 : decode cX3_isTooFar 34 = .ok (.iload 5, 2) := by decide +kernel
theorem dX3_isTooFar_36 : decode cX3_isTooFar 36 = .ok (.iand, 1) := by decide +kernel
theorem dX3_isTooFar_37 : decode cX3_isTooFar 37 = .ok (.invokestatic 56, 3) := by decide +kernel
theorem dX3_isTooFar_40 : decode cX3_isTooFar 40 = .ok (.istore 8, 2) := by decide +kernel
theorem dX3_isTooFar_42 : decode cX3_isTooFar 42 = .ok (.iload 7, 2) := by decide +kernel
theorem dX3_isTooFar_44 : decode cX3_isTooFar 44 = .ok (.iload 6, 2) := by decide +kernel
theorem dX3_isTooFar_46 : decode cX3_isTooFar 46 = .ok (.iand, 1) := by decide +kernel
theorem dX3_isTooFar_47 : decode cX3_isTooFar 47 = .ok (.ifCond .ne 21, 3) := by decide +kernel
theorem dX3_isTooFar_50 : decode cX3_isTooFar 50 = .ok (.iload 8, 2) := by decide +kernel
theorem dX3_isTooFar_52 : decode cX3_isTooFar 52 = .ok (.iload 7, 2) := by decide +kernel
theorem dX3_isTooFar_54 : decode cX3_isTooFar 54 = .ok (.ifCond .eq 7, 3) := by decide +kernel
theorem dX3_isTooFar_57 : decode cX3_isTooFar 57 = .ok (.iconst 1, 1) := by decide +kernel
theorem dX3_isTooFar_58 : decode cX3_isTooFar 58 = .ok (.goto 4, 3) := by decide +kernel
theorem dX3_isTooFar_61 : decode cX3_isTooFar 61 = .ok (.iconst 0, 1) := by decide +kernel
theorem dX3_isTooFar_62 : decode cX3_isTooFar 62 = .ok (.iadd, 1) := by decide +kernel
theorem dX3_isTooFar_63 : decode cX3_isTooFar 63 = .ok (.iload 4, 2) := by decide +kernel
theorem dX3_isTooFar_65 : decode cX3_isTooFar 65 = .ok (.if_icmp .le 7, 3) := by decide +kernel
theorem dX3_isTooFar_68 : decode cX3_isTooFar 68 = .ok (.iconst 1, 1) := by decide +kernel
theorem dX3_isTooFar_69 : decode cX3_isTooFar 69 = .ok (.goto 4, 3) := by decide +kernel
theorem dX3_isTooFar_72 : decode cX3_isTooFar 72 = .ok (.iconst 0, 1) := by decide +kernel
theorem dX3_isTooFar_73 : decode cX3_isTooFar 73 = .ok (.ireturn, 1) := by decide +kernel
theorem dX3_outcome_0 : decode cX3_outcome 0 = .ok (.aload_n 0, 1) := by decide +kernel
theorem dX3_outcome_1 : decode cX3_outcome 1 = .ok (.lload_n 1, 1) := by decide +kernel
theorem dX3_outcome_2 : decode cX3_outcome 2 = .ok (.iload_n 3, 1) := by decide +kernel
theorem dX3_outcome_3 : decode cX3_outcome 3 = .ok (.bipush 6, 2) := by decide +kernel
theorem dX3_outcome_5 : decode cX3_outcome 5 = .ok (.invokestatic 61, 3) := by decide +kernel
theorem dX3_outcome_8 : decode cX3_outcome 8 = .ok (.invokestatic 67, 3) := by decide +kernel
theorem dX3_outcome_11 : decode cX3_outcome 11 = .ok (.ireturn, 1) := by decide +kernel
theorem dX3_played_0 : decode cX3_played 0 = .ok (.iload_n 3, 1) := by decide +kernel
theorem dX3_played_1 : decode cX3_played 1 = .ok (.ifCond .gt 27, 3) := by decide +kernel
theorem dX3_played_4 : decode cX3_played 4 = .ok (.lload_n 1, 1) := by decide +kernel
theorem dX3_played_5 : decode cX3_played 5 = .ok (.invokestatic 39, 3) := by decide +kernel
theorem dX3_played_8 : decode cX3_played 8 = .ok (.istore 4, 2) := by decide +kernel
theorem dX3_played_10 : decode cX3_played 10 = .ok (.iload 4, 2) := by decide +kernel
theorem dX3_played_12 : decode cX3_played 12 = .ok (.bipush 42, 2) := by decide +kernel
theorem dX3_played_14 : decode cX3_played 14 = .ok (.iand, 1) := by decide +kernel
theorem dX3_played_15 : decode cX3_played 15 = .ok (.invokestatic 56, 3) := by decide +kernel
theorem dX3_played_18 : decode cX3_played 18 = .ok (.iload 4, 2) := by decide +kernel
theorem dX3_played_20 : decode cX3_played 20 = .ok (.bipush 21, 2) := by decide +kernel
theorem dX3_played_22 : decode cX3_played 22 = .ok (.iand, 1) := by decide +kernel
theorem dX3_played_23 : decode cX3_played 23 = .ok (.invokestatic 56, 3) := by decide +kernel
theorem dX3_played_26 : decode cX3_played 26 = .ok (.isub, 1) := by decide +kernel
theorem dX3_played_27 : decode cX3_played 27 = .ok (.ireturn, 1) := by decide +kernel
theorem dX3_played_28 : decode cX3_played 28 = .ok (.iload_n 3, 1) := by decide +kernel
theorem dX3_played_29 : decode cX3_played 29 = .ok (.iconst 2, 1) := by decide +kernel
theorem dX3_played_30 : decode cX3_played 30 = .ok (.irem, 1) := by decide +kernel
theorem dX3_played_31 : decode cX3_played 31 = .ok (.ifCond .ne 7, 3) := by decide +kernel
theorem dX3_played_34 : decode cX3_played 34 = .ok (.iconst 1, 1) := by decide +kernel
theorem dX3_played_35 : decode cX3_played 35 = .ok (.goto 4, 3) := by decide +kernel
theorem dX3_played_38 : decode cX3_played 38 = .ok (.iconst 0, 1) := by decide +kernel
theorem dX3_played_39 : decode cX3_played 39 = .ok (.istore 4, 2) := by decide +kernel
theorem dX3_played_41 : decode cX3_played 41 = .ok (.aload_n 0, 1) := by decide +kernel
theorem dX3_played_42 : decode cX3_played 42 = .ok (.lload_n 1, 1) := by decide +kernel
theorem dX3_played_43 : decode cX3_played 43 = .ok (.iload_n 3, 1) := by decide +kernel
theorem dX3_played_44 : decode cX3_played 44 = .ok (.iconst 1, 1) := by decide +kernel
theorem dX3_played_45 : decode cX3_played 45 = .ok (.isub, 1) := by decide +kernel
theorem dX3_played_46 : decode cX3_played 46 = .ok (.invokestatic 67, 3) := by decide +kernel
theorem dX3_played_49 : decode cX3_played 49 = .ok (.istore 5, 2) := by decide +kernel
theorem dX3_played_51 : decode cX3_played 51 = .ok (.iload 4, 2) := by decide +kernel
theorem dX3_played_53 : decode cX3_played 53 = .ok (.ifCond .eq 7, 3) := by decide +kernel
theorem dX3_played_56 : decode cX3_played 56 = .ok (.iconst 0, 1) := by decide +kernel
theorem dX3_played_57 : decode cX3_played 57 = .ok (.goto 4, 3) := by decide +kernel
theorem dX3_played_60 : decode cX3_played 60 = .ok (.iconst 1, 1) := by decide +kernel
theorem dX3_played_61 : decode cX3_played 61 = .ok (.istore 6, 2) := by decide +kernel
theorem dX3_played_63 : decode cX3_played 63 = .ok (.iload 6, 2) := by decide +kernel
theorem dX3_played_65 : decode cX3_played 65 = .ok (.aload_n 0, 1) := by decide +kernel
theorem dX3_played_66 : decode cX3_played 66 = .ok (.getfield 71, 3) := by decide +kernel
theorem dX3_played_69 : decode cX3_played 69 = .ok (.if_icmp .ge 59, 3) := by decide +kernel
theorem dX3_played_72 : decode cX3_played 72 = .ok (.lload_n 1, 1) := by decide +kernel
theorem dX3_played_73 : decode cX3_played 73 = .ok (.iload 6, 2) := by decide +kernel
theorem dX3_played_75 : decode cX3_played 75 = .ok (.invokestatic 25, 3) := by decide +kernel
theorem dX3_played_78 : decode cX3_played 78 = .ok (.ifCond .eq 44, 3) := by decide +kernel
theorem dX3_played_81 : decode cX3_played 81 = .ok (.aload_n 0, 1) := by decide +kernel
theorem dX3_played_82 : decode cX3_played 82 = .ok (.aload_n 0, 1) := by decide +kernel
theorem dX3_played_83 : decode cX3_played 83 = .ok (.lload_n 1, 1) := by decide +kernel
theorem dX3_played_84 : decode cX3_played 84 = .ok (.iload 6, 2) := by decide +kernel
theorem dX3_played_86 : decode cX3_played 86 = .ok (.iconst 1, 1) := by decide +kernel
theorem dX3_played_87 : decode cX3_played 87 = .ok (.invokevirtual 31, 3) := by decide +kernel
theorem dX3_played_90 : decode cX3_played 90 = .ok (.iload_n 3, 1) := by decide +kernel
theorem dX3_played_91 : decode cX3_played 91 = .ok (.iconst 1, 1) := by decide +kernel
theorem dX3_played_92 : decode cX3_played 92 = .ok (.isub, 1) := by decide +kernel
theorem dX3_played_93 : decode cX3_played 93 = .ok (.invokestatic 67, 3) := by decide +kernel
theorem dX3_played_96 : decode cX3_played 96 = .ok (.istore 7, 2) := by decide +kernel
theorem dX3_played_98 : decode cX3_played 98 = .ok (.iload 4, 2) := by decide +kernel
theorem dX3_played_100 : decode cX3_played 100 = .ok (.ifCond .eq 13, 3) := by decide +kernel
theorem dX3_played_103 : decode cX3_played 103 = .ok (.iload 5, 2) := by decide +kernel
theorem dX3_played_105 : decode cX3_played 105 = .ok (.iload 7, 2) := by decide +kernel
theorem dX3_played_107 : decode cX3_played 107 = .ok (.invokestatic 75, 3) := by decide +kernel
theorem dX3_played_110 : decode cX3_played 110 = .ok (.goto 10, 3) := by decide +kernel
theorem dX3_played_113 : decode cX3_played 113 = .ok (.iload 5, 2) := by decide +kernel
theorem dX3_played_115 : decode cX3_played 115 = .ok (.iload 7, 2) := by decide +kernel
theorem dX3_played_117 : decode cX3_played 117 = .ok (.invokestatic 61, 3) := by decide +kernel
theorem dX3_played_120 : decode cX3_played 120 = .ok (.istore 5, 2) := by decide +kernel
theorem dX3_played_122 : decode cX3_played 122 = .ok (.iinc 6 2, 3) := by decide +kernel
theorem dX3_played_125 : decode cX3_played 125 = .ok (.goto (-62), 3) := by decide +kernel
theorem dX3_played_128 : decode cX3_played 128 = .ok (.iload 5, 2) := by decide +kernel
theorem dX3_played_130 : decode cX3_played 130 = .ok (.ireturn, 1) := by decide +kernel
theorem dX4_init_0 : decode cX4_init 0 = .ok (.aload_n 0, 1) := by decide +kernel
theorem dX4_init_1 : decode cX4_init 1 = .ok (.invokespecial 3, 3) := by decide +kernel
theorem dX4_init_4 : decode cX4_init 4 = .ok (.aload_n 0, 1) := by decide +kernel
theorem dX4_init_5 : decode cX4_init 5 = .ok (.iload_n 2, 1) := by decide +kernel
theorem dX4_init_6 : decode cX4_init 6 = .ok (.putfield 9, 3) := by decide +kernel
theorem dX4_init_9 : decode cX4_init 9 = .ok (.aload_n 0, 1) := by decide +kernel
theorem dX4_init_10 : decode cX4_init 10 = .ok (.iload_n 3, 1) := by decide +kernel
theorem dX4_init_11 : decode cX4_init 11 = .ok (.putfield 15, 3) := by decide +kernel
theorem dX4_init_14 : decode cX4_init 14 = .ok (.aload_n 0, 1) := by decide +kernel
theorem dX4_init_15 : decode cX4_init 15 = .ok (.iload_n 1, 1) := by decide +kernel
theorem dX4_init_16 : decode cX4_init 16 = .ok (.iconst 0, 1) := by decide +kernel
theorem dX4_init_17 : decode cX4_init 17 = .ok (.invokestatic 18, 3) := by decide +kernel
theorem dX4_init_20 : decode cX4_init 20 = .ok (.iload_n 2, 1) := by decide +kernel
theorem dX4_init_21 : decode cX4_init 21 = .ok (.iconst 0, 1) := by decide +kernel
theorem dX4_init_22 : decode cX4_init 22 = .ok (.invokestatic 18, 3) := by decide +kernel
theorem dX4_init_25 : decode cX4_init 25 = .ok (.multianewarray 24 2, 4) := by decide +kernel
theorem dX4_init_29 : decode cX4_init 29 = .ok (.putfield 26, 3) := by decide +kernel
theorem dX4_init_32 : decode cX4_init 32 = .ok (.aload_n 0, 1) := by decide +kernel
theorem dX4_init_33 : decode cX4_init 33 = .ok (.aload_n 0, 1) := by decide +kernel
theorem dX4_init_34 : decode cX4_init 34 = .ok (.getfield 26, 3) := by decide +kernel
theorem dX4_init_37 : decode cX4_init 37 = .ok (.arraylength, 1) := by decide +kernel
theorem dX4_init_38 : decode cX4_init 38 = .ok (.newarray .int, 2) := by decide +kernel
theorem dX4_init_40 : decode cX4_init 40 = .ok (.putfield 29, 3) := by decide +kernel
theorem dX4_init_43 : decode cX4_init 43 = .ok (.iconst 0, 1) := by decide +kernel
theorem dX4_init_44 : decode cX4_init 44 = .ok (.istore 4, 2) := by decide +kernel
theorem dX4_init_46 : decode cX4_init 46 = .ok (.iload 4, 2) := by decide +kernel
theorem dX4_init_48 : decode cX4_init 48 = .ok (.aload_n 0, 1) := by decide +kernel
theorem dX4_init_49 : decode cX4_init 49 = .ok (.getfield 29, 3) := by decide +kernel
theorem dX4_init_52 : decode cX4_init 52 = .ok (.arraylength, 1) := by decide +kernel
theorem dX4_init_53 : decode cX4_init 53 = .ok (.if_icmp .ge 17, 3) := by decide +kernel
theorem dX4_init_56 : decode cX4_init 56 = .ok (.aload_n 0, 1) := by decide +kernel
theorem dX4_init_57 : decode cX4_init 57 = .ok (.getfield 29, 3) := by decide +kernel
theorem dX4_init_60 : decode cX4_init 60 = .ok (.iload 4, 2) := by decide +kernel
theorem dX4_init_62 : decode cX4_init 62 = .ok (.iconst (-1), 1) := by decide +kernel
theorem dX4_init_63 : decode cX4_init 63 = .ok (.iastore, 1) := by decide +kernel
theorem dX4_init_64 : decode cX4_init 64 = .ok (.iinc 4 1, 3) := by decide +kernel
theorem dX4_init_67 : decode cX4_init 67 = .ok (.goto (-21), 3) := by decide +kernel
theorem dX4_init_70 : decode cX4_init 70 = .ok (.return_, 1) := by decide +kernel
theorem dX4_isNumber_0 : decode cX4_isNumber 0 = .ok (.iload_n 1, 1) := by decide +kernel
theorem dX4_isNumber_1 : decode cX4_isNumber 1 = .ok (.ifCond .lt 16, 3) := by decide +kernel
theorem dX4_isNumber_4 : decode cX4_isNumber 4 = .ok (.iload_n 1, 1) := by decide +kernel
theorem dX4_isNumber_5 : decode cX4_isNumber 5 = .ok (.aload_n 0, 1) := by decide +kernel
theorem dX4_isNumber_6 : decode cX4_isNumber 6 = .ok (.getfield 29, 3) := by decide +kernel
theorem dX4_isNumber_9 : decode cX4_isNumber 9 = .ok (.arraylength, 1) := by decide +kernel
theorem dX4_isNumber_10 : decode cX4_isNumber 10 = .ok (.if_icmp .ge 7, 3) := by decide +kernel
theorem dX4_isNumber_13 : decode cX4_isNumber 13 = .ok (.iconst 1, 1) := by decide +kernel
theorem dX4_isNumber_14 : decode cX4_isNumber 14 = .ok (.goto 4, 3) := by decide +kernel
theorem dX4_isNumber_17 : decode cX4_isNumber 17 = .ok (.iconst 0, 1) := by decide +kernel
theorem dX4_isNumber_18 : decode cX4_isNumber 18 = .ok (.ireturn, 1) := by decide +kernel
theorem dX4_isThere_0 : decode cX4_isThere 0 = .ok (.aload_n 0, 1) := by decide +kernel
theorem dX4_isThere_1 : decode cX4_isThere 1 = .ok (.iload_n 1, 1) := by decide +kernel
theorem dX4_isThere_2 : decode cX4_isThere 2 = .ok (.invokevirtual 33, 3) := by decide +kernel
theorem dX4_isThere_5 : decode cX4_isThere 5 = .ok (.iconst (-1), 1) := by decide +kernel
theorem dX4_isThere_6 : decode cX4_isThere 6 = .ok (.if_icmp .eq 7, 3) := by decide +kernel
theorem dX4_isThere_9 : decode cX4_isThere 9 = .ok (.iconst 1, 1) := by decide +kernel
theorem dX4_isThere_10 : decode cX4_isThere 10 = .ok (.goto 4, 3) := by decide +kernel
theorem dX4_isThere_13 : decode cX4_isThere 13 = .ok (.iconst 0, 1) := by decide +kernel
theorem dX4_isThere_14 : decode cX4_isThere 14 = .ok (.ireturn, 1) := by decide +kernel
theorem dX4_size_0 : decode cX4_size 0 = .ok (.aload_n 0, 1) := by decide +kernel
theorem dX4_size_1 : decode cX4_size 1 = .ok (.iload_n 1, 1) := by decide +kernel
theorem dX4_size_2 : decode cX4_size 2 = .ok (.invokevirtual 37, 3) := by decide +kernel
theorem dX4_size_5 : decode cX4_size 5 = .ok (.ifCond .eq 12, 3) := by decide +kernel
theorem dX4_size_8 : decode cX4_size 8 = .ok (.aload_n 0, 1) := by decide +kernel
theorem dX4_size_9 : decode cX4_size 9 = .ok (.getfield 29, 3) := by decide +kernel
theorem dX4_size_12 : decode cX4_size 12 = .ok (.iload_n 1, 1) := by decide +kernel
theorem dX4_size_13 : decode cX4_size 13 = .ok (.iaload, 1) := by decide +kernel
theorem dX4_size_14 : decode cX4_size 14 = .ok (.goto 4, 3) := by decide +kernel
theorem dX4_size_17 : decode cX4_size 17 = .ok (.iconst (-1), 1) := by decide +kernel
theorem dX4_size_18 : decode cX4_size 18 = .ok (.ireturn, 1) := by decide +kernel
theorem dX4_hasPlace_0 : decode cX4_hasPlace 0 = .ok (.iload_n 2, 1) := by decide +kernel
theorem dX4_hasPlace_1 : decode cX4_hasPlace 1 = .ok (.ifCond .lt 16, 3) := by decide +kernel
theorem dX4_hasPlace_4 : decode cX4_hasPlace 4 = .ok (.iload_n 2, 1) := by decide +kernel
theorem dX4_hasPlace_5 : decode cX4_hasPlace 5 = .ok (.aload_n 0, 1) := by decide +kernel
theorem dX4_hasPlace_6 : decode cX4_hasPlace 6 = .ok (.iload_n 1, 1) := by decide +kernel
theorem dX4_hasPlace_7 : decode cX4_hasPlace 7 = .ok (.invokevirtual 33, 3) := by decide +kernel
theorem dX4_hasPlace_10 : decode cX4_hasPlace 10 = .ok (.if_icmp .ge 7, 3) := by decide +kernel
theorem dX4_hasPlace_13 : decode cX4_hasPlace 13 = .ok (.iconst 1, 1) := by decide +kernel
theorem dX4_hasPlace_14 : decode cX4_hasPlace 14 = .ok (.goto 4, 3) := by decide +kernel
theorem dX4_hasPlace_17 : decode cX4_hasPlace 17 = .ok (.iconst 0, 1) := by decide +kernel
theorem dX4_hasPlace_18 : decode cX4_hasPlace 18 = .ok (.ireturn, 1) := by decide +kernel
theorem dX4_get_0 : decode cX4_get 0 = .ok (.aload_n 0, 1) := by decide +kernel
theorem dX4_get_1 : decode cX4_get 1 = .ok (.iload_n 1, 1) := by decide +kernel
theorem dX4_get_2 : decode cX4_get 2 = .ok (.iload_n 2, 1) := by decide +kernel
theorem dX4_get_3 : decode cX4_get 3 = .ok (.invokevirtual 41, 3) := by decide +kernel
theorem dX4_get_6 : decode cX4_get 6 = .ok (.ifCond .eq 14, 3) := by decide +kernel
theorem dX4_get_9 : decode cX4_get 9 = .ok (.aload_n 0, 1) := by decide +kernel
theorem dX4_get_10 : decode cX4_get 10 = .ok (.getfield 26, 3) := by decide +kernel
theorem dX4_get_13 : decode cX4_get 13 = .ok (.iload_n 1, 1) := by decide +kernel
theorem dX4_get_14 : decode cX4_get 14 = .ok (.aaload, 1) := by decide +kernel
theorem dX4_get_15 : decode cX4_get 15 = .ok (.iload_n 2, 1) := by decide +kernel
theorem dX4_get_16 : decode cX4_get 16 = .ok (.iaload, 1) := by decide +kernel
theorem dX4_get_17 : decode cX4_get 17 = .ok (.goto 4, 3) := by decide +kernel
theorem dX4_get_20 : decode cX4_get 20 = .ok (.iconst 0, 1) := by decide +kernel
theorem dX4_get_21 : decode cX4_get 21 = .ok (.ireturn, 1) := by decide +kernel
theorem dX4_set_0 : decode cX4_set 0 = .ok (.aload_n 0, 1) := by decide +kernel
theorem dX4_set_1 : decode cX4_set 1 = .ok (.iload_n 1, 1) := by decide +kernel
theorem dX4_set_2 : decode cX4_set 2 = .ok (.iload_n 2, 1) := by decide +kernel
theorem dX4_set_3 : decode cX4_set 3 = .ok (.invokevirtual 41, 3) := by decide +kernel
theorem dX4_set_6 : decode cX4_set 6 = .ok (.ifCond .eq 12, 3) := by decide +kernel
theorem dX4_set_9 : decode cX4_set 9 = .ok (.aload_n 0, 1) := by decide +kernel
theorem dX4_set_10 : decode cX4_set 10 = .ok (.getfield 26, 3) := by decide +kernel
theorem dX4_set_13 : decode cX4_set 13 = .ok (.iload_n 1, 1) := by decide +kernel
theorem dX4_set_14 : decode cX4_set 14 = .ok (.aaload, 1) := by decide +kernel
theorem dX4_set_15 : decode cX4_set 15 = .ok (.iload_n 2, 1) := by decide +kernel
theorem dX4_set_16 : decode cX4_set 16 = .ok (.iload_n 3, 1) := by decide +kernel
theorem dX4_set_17 : decode cX4_set 17 = .ok (.iastore, 1) := by decide +kernel
theorem dX4_set_18 : decode cX4_set 18 = .ok (.return_, 1) := by decide +kernel
theorem dX4_make_0 : decode cX4_make 0 = .ok (.aload_n 0, 1) := by decide +kernel
theorem dX4_make_1 : decode cX4_make 1 = .ok (.iload_n 1, 1) := by decide +kernel
theorem dX4_make_2 : decode cX4_make 2 = .ok (.invokevirtual 37, 3) := by decide +kernel
theorem dX4_make_5 : decode cX4_make 5 = .ok (.ifCond .eq 47, 3) := by decide +kernel
theorem dX4_make_8 : decode cX4_make 8 = .ok (.iload_n 2, 1) := by decide +kernel
theorem dX4_make_9 : decode cX4_make 9 = .ok (.ifCond .lt 43, 3) := by decide +kernel
theorem dX4_make_12 : decode cX4_make 12 = .ok (.iload_n 2, 1) := by decide +kernel
theorem dX4_make_13 : decode cX4_make 13 = .ok (.aload_n 0, 1) := by decide +kernel
theorem dX4_make_14 : decode cX4_make 14 = .ok (.getfield 9, 3) := by decide +kernel
theorem dX4_make_17 : decode cX4_make 17 = .ok (.if_icmp .gt 35, 3) := by decide +kernel
theorem dX4_make_20 : decode cX4_make 20 = .ok (.aload_n 0, 1) := by decide +kernel
theorem dX4_make_21 : decode cX4_make 21 = .ok (.getfield 29, 3) := by decide +kernel
theorem dX4_make_24 : decode cX4_make 24 = .ok (.iload_n 1, 1) := by decide +kernel
theorem dX4_make_25 : decode cX4_make 25 = .ok (.iload_n 2, 1) := by decide +kernel
theorem dX4_make_26 : decode cX4_make 26 = .ok (.iastore, 1) := by decide +kernel
theorem dX4_make_27 : decode cX4_make 27 = .ok (.iconst 0, 1) := by decide +kernel
theorem dX4_make_28 : decode cX4_make 28 = .ok (.istore_n 3, 1) := by decide +kernel
theorem dX4_make_29 : decode cX4_make 29 = .ok (.iload_n 3, 1) := by decide +kernel
theorem dX4_make_30 : decode cX4_make 30 = .ok (.iload_n 2, 1) := by decide +kernel
theorem dX4_make_31 : decode cX4_make 31 = .ok (.if_icmp .ge 21, 3) := by decide +kernel
theorem dX4_make_34 : decode cX4_make 34 = .ok (.aload_n 0, 1) := by decide +kernel
theorem dX4_make_35 : decode cX4_make 35 = .ok (.getfield 26, 3) := by decide +kernel
theorem dX4_make_38 : decode cX4_make 38 = .ok (.iload_n 1, 1) := by decide +kernel
theorem dX4_make_39 : decode cX4_make 39 = .ok (.aaload, 1) := by decide +kernel
theorem dX4_make_40 : decode cX4_make 40 = .ok (.iload_n 3, 1) := by decide +kernel
theorem dX4_make_41 : decode cX4_make 41 = .ok (.aload_n 0, 1) := by decide +kernel
theorem dX4_make_42 : decode cX4_make 42 = .ok (.getfield 15, 3) := by decide +kernel
theorem dX4_make_45 : decode cX4_make 45 = .ok (.iastore, 1) := by decide +kernel
theorem dX4_make_46 : decode cX4_make 46 = .ok (.iinc 3 1, 3) := by decide +kernel
theorem dX4_make_49 : decode cX4_make 49 = .ok (.goto (-20), 3) := by decide +kernel
theorem dX4_make_52 : decode cX4_make 52 = .ok (.return_, 1) := by decide +kernel
theorem dX4_countThere_0 : decode cX4_countThere 0 = .ok (.iconst 0, 1) := by decide +kernel
theorem dX4_countThere_1 : decode cX4_countThere 1 = .ok (.istore_n 1, 1) := by decide +kernel
theorem dX4_countThere_2 : decode cX4_countThere 2 = .ok (.iconst 0, 1) := by decide +kernel
theorem dX4_countThere_3 : decode cX4_countThere 3 = .ok (.istore_n 2, 1) := by decide +kernel
theorem dX4_countThere_4 : decode cX4_countThere 4 = .ok (.iload_n 2, 1) := by decide +kernel
theorem dX4_countThere_5 : decode cX4_countThere 5 = .ok (.aload_n 0, 1) := by decide +kernel
theorem dX4_countThere_6 : decode cX4_countThere 6 = .ok (.getfield 29, 3) := by decide +kernel
theorem dX4_countThere_9 : decode cX4_countThere 9 = .ok (.arraylength, 1) := by decide +kernel
theorem dX4_countThere_10 : decode cX4_countThere 10 = .ok (.if_icmp .ge 20, 3) := by decide +kernel
theorem dX4_countThere_13 : decode cX4_countThere 13 = .ok (.aload_n 0, 1) := by decide +kernel
theorem dX4_countThere_14 : decode cX4_countThere 14 = .ok (.iload_n 2, 1) := by decide +kernel
theorem dX4_countThere_15 : decode cX4_countThere 15 = .ok (.invokevirtual 58, 3) := by decide +kernel
theorem dX4_countThere_18 : decode cX4_countThere 18 = .ok (.ifCond .eq 6, 3) := by decide +kernel
theorem dX4_countThere_21 : decode cX4_countThere 21 = .ok (.iinc 1 1, 3) := by decide +kernel
theorem dX4_countThere_24 : decode cX4_countThere 24 = .ok (.iinc 2 1, 3) := by decide +kernel
theorem dX4_countThere_27 : decode cX4_countThere 27 = .ok (.goto (-23), 3) := by decide +kernel
theorem dX4_countThere_30 : decode cX4_countThere 30 = .ok (.iload_n 1, 1) := by decide +kernel
theorem dX4_countThere_31 : decode cX4_countThere 31 = .ok (.ireturn, 1) := by decide +kernel
theorem dX4_digestFrom_0 : decode cX4_digestFrom 0 = .ok (.lload_n 1, 1) := by decide +kernel
theorem dX4_digestFrom_1 : decode cX4_digestFrom 1 = .ok (.lstore_n 3, 1) := by decide +kernel
theorem dX4_digestFrom_2 : decode cX4_digestFrom 2 = .ok (.iconst 0, 1) := by decide +kernel
theorem dX4_digestFrom_3 : decode cX4_digestFrom 3 = .ok (.istore 5, 2) := by decide +kernel
theorem dX4_digestFrom_5 : decode cX4_digestFrom 5 = .ok (.iload 5, 2) := by decide +kernel
theorem dX4_digestFrom_7 : decode cX4_digestFrom 7 = .ok (.aload_n 0, 1) := by decide +kernel
theorem dX4_digestFrom_8 : decode cX4_digestFrom 8 = .ok (.getfield 29, 3) := by decide +kernel
theorem dX4_digestFrom_11 : decode cX4_digestFrom 11 = .ok (.arraylength, 1) := by decide +kernel
theorem dX4_digestFrom_12 : decode cX4_digestFrom 12 = .ok (.if_icmp .ge 59, 3) := by decide +kernel
theorem dX4_digestFrom_15 : decode cX4_digestFrom 15 = .ok (.ldc2_w 61, 3) := by decide +kernel
theorem dX4_digestFrom_18 : decode cX4_digestFrom 18 = .ok (.lload_n 3, 1) := by decide +kernel
theorem dX4_digestFrom_19 : decode cX4_digestFrom 19 = .ok (.lmul, 1) := by decide +kernel
theorem dX4_digestFrom_20 : decode cX4_digestFrom 20 = .ok (.aload_n 0, 1) := by decide +kernel
theorem dX4_digestFrom_21 : decode cX4_digestFrom 21 = .ok (.iload 5, 2) := by decide +kernel
theorem dX4_digestFrom_23 : decode cX4_digestFrom 23 = .ok (.invokevirtual 33, 3) := by decide +kernel
theorem dX4_digestFrom_26 : decode cX4_digestFrom 26 = .ok (.i2l, 1) := by decide +kernel
theorem dX4_digestFrom_27 : decode cX4_digestFrom 27 = .ok (.ladd, 1) := by decide +kernel
theorem dX4_digestFrom_28 : decode cX4_digestFrom 28 = .ok (.lstore_n 3, 1) := by decide +kernel
theorem dX4_digestFrom_29 : decode cX4_digestFrom 29 = .ok (.iconst 0, 1) := by decide +kernel
theorem dX4_digestFrom_30 : decode cX4_digestFrom 30 = .ok (.istore 6, 2) := by decide +kernel
theorem dX4_digestFrom_32 : decode cX4_digestFrom 32 = .ok (.iload 6, 2) := by decide +kernel
theorem dX4_digestFrom_34 : decode cX4_digestFrom 34 = .ok (.aload_n 0, 1) := by decide +kernel
theorem dX4_digestFrom_35 : decode cX4_digestFrom 35 = .ok (.iload 5, 2) := by decide +kernel
theorem dX4_digestFrom_37 : decode cX4_digestFrom 37 = .ok (.invokevirtual 33, 3) := by decide +kernel
theorem dX4_digestFrom_40 : decode cX4_digestFrom 40 = .ok (.if_icmp .ge 25, 3) := by decide +kernel
theorem dX4_digestFrom_43 : decode cX4_digestFrom 43 = .ok (.ldc2_w 61, 3) := by decide +kernel
theorem dX4_digestFrom_46 : decode cX4_digestFrom 46 = .ok (.lload_n 3, 1) := by decide +kernel
theorem dX4_digestFrom_47 : decode cX4_digestFrom 47 = .ok (.lmul, 1) := by decide +kernel
theorem dX4_digestFrom_48 : decode cX4_digestFrom 48 = .ok (.aload_n 0, 1) := by decide +kernel
theorem dX4_digestFrom_49 : decode cX4_digestFrom 49 = .ok (.iload 5, 2) := by decide +kernel
theorem dX4_digestFrom_51 : decode cX4_digestFrom 51 = .ok (.iload 6, 2) := by decide +kernel
theorem dX4_digestFrom_53 : decode cX4_digestFrom 53 = .ok (.invokevirtual 55, 3) := by decide +kernel
theorem dX4_digestFrom_56 : decode cX4_digestFrom 56 = .ok (.i2l, 1) := by decide +kernel
theorem dX4_digestFrom_57 : decode cX4_digestFrom 57 = .ok (.ladd, 1) := by decide +kernel
theorem dX4_digestFrom_58 : decode cX4_digestFrom 58 = .ok (.lstore_n 3, 1) := by decide +kernel
theorem dX4_digestFrom_59 : decode cX4_digestFrom 59 = .ok (.iinc 6 1, 3) := by decide +kernel
theorem dX4_digestFrom_62 : decode cX4_digestFrom 62 = .ok (.goto (-30), 3) := by decide +kernel
theorem dX4_digestFrom_65 : decode cX4_digestFrom 65 = .ok (.iinc 5 1, 3) := by decide +kernel
theorem dX4_digestFrom_68 : decode cX4_digestFrom 68 = .ok (.goto (-63), 3) := by decide +kernel
theorem dX4_digestFrom_71 : decode cX4_digestFrom 71 = .ok (.lload_n 3, 1) := by decide +kernel
theorem dX4_digestFrom_72 : decode cX4_digestFrom 72 = .ok (.lreturn, 1) := by decide +kernel
theorem dX5_strain_0 : decode cX5_strain 0 = .ok (.lload_n 0, 1) := by decide +kernel
theorem dX5_strain_1 : decode cX5_strain 1 = .ok (.iconst 4, 1) := by decide +kernel
theorem dX5_strain_2 : decode cX5_strain 2 = .ok (.iload_n 2, 1) := by decide +kernel
theorem dX5_strain_3 : decode cX5_strain 3 = .ok (.imul, 1) := by decide +kernel
theorem dX5_strain_4 : decode cX5_strain 4 = .ok (.lshr, 1) := by decide +kernel
theorem dX5_strain_5 : decode cX5_strain 5 = .ok (.l2i, 1) := by decide +kernel
theorem dX5_strain_6 : decode cX5_strain 6 = .ok (.bipush 15, 2) := by decide +kernel
theorem dX5_strain_8 : decode cX5_strain 8 = .ok (.iand, 1) := by decide +kernel
theorem dX5_strain_9 : decode cX5_strain 9 = .ok (.ireturn, 1) := by decide +kernel
theorem dX5_letGo_0 : decode cX5_letGo 0 = .ok (.lload_n 0, 1) := by decide +kernel
theorem dX5_letGo_1 : decode cX5_letGo 1 = .ok (.bipush 24, 2) := by decide +kernel
theorem dX5_letGo_3 : decode cX5_letGo 3 = .ok (.lshr, 1) := by decide +kernel
theorem dX5_letGo_4 : decode cX5_letGo 4 = .ok (.l2i, 1) := by decide +kernel
theorem dX5_letGo_5 : decode cX5_letGo 5 = .ok (.bipush 63, 2) := by decide +kernel
theorem dX5_letGo_7 : decode cX5_letGo 7 = .ok (.iand, 1) := by decide +kernel
theorem dX5_letGo_8 : decode cX5_letGo 8 = .ok (.ireturn, 1) := by decide +kernel
theorem dX5_parted_0 : decode cX5_parted 0 = .ok (.lload_n 0, 1) := by decide +kernel
theorem dX5_parted_1 : decode cX5_parted 1 = .ok (.bipush 30, 2) := by decide +kernel
theorem dX5_parted_3 : decode cX5_parted 3 = .ok (.lshr, 1) := by decide +kernel
theorem dX5_parted_4 : decode cX5_parted 4 = .ok (.l2i, 1) := by decide +kernel
theorem dX5_parted_5 : decode cX5_parted 5 = .ok (.bipush 63, 2) := by decide +kernel
theorem dX5_parted_7 : decode cX5_parted 7 = .ok (.iand, 1) := by decide +kernel
theorem dX5_parted_8 : decode cX5_parted 8 = .ok (.ireturn, 1) := by decide +kernel
theorem dX5_frostIn_0 : decode cX5_frostIn 0 = .ok (.lload_n 0, 1) := by decide +kernel
theorem dX5_frostIn_1 : decode cX5_frostIn 1 = .ok (.bipush 36, 2) := by decide +kernel
theorem dX5_frostIn_3 : decode cX5_frostIn 3 = .ok (.lshr, 1) := by decide +kernel
theorem dX5_frostIn_4 : decode cX5_frostIn 4 = .ok (.l2i, 1) := by decide +kernel
theorem dX5_frostIn_5 : decode cX5_frostIn 5 = .ok (.iconst 1, 1) := by decide +kernel
theorem dX5_frostIn_6 : decode cX5_frostIn 6 = .ok (.iand, 1) := by decide +kernel
theorem dX5_frostIn_7 : decode cX5_frostIn 7 = .ok (.ireturn, 1) := by decide +kernel
theorem dX5_isLetGo_0 : decode cX5_isLetGo 0 = .ok (.lload_n 0, 1) := by decide +kernel
theorem dX5_isLetGo_1 : decode cX5_isLetGo 1 = .ok (.invokestatic 11, 3) := by decide +kernel
theorem dX5_isLetGo_4 : decode cX5_isLetGo 4 = .ok (.iload_n 2, 1) := by decide +kernel
theorem dX5_isLetGo_5 : decode cX5_isLetGo 5 = .ok (.ishr, 1) := by decide +kernel
theorem dX5_isLetGo_6 : decode cX5_isLetGo 6 = .ok (.iconst 1, 1) := by decide +kernel
theorem dX5_isLetGo_7 : decode cX5_isLetGo 7 = .ok (.iand, 1) := by decide +kernel
theorem dX5_isLetGo_8 : decode cX5_isLetGo 8 = .ok (.ifCond .eq 7, 3) := by decide +kernel
theorem dX5_isLetGo_11 : decode cX5_isLetGo 11 = .ok (.iconst 1, 1) := by decide +kernel
theorem dX5_isLetGo_12 : decode cX5_isLetGo 12 = .ok (.goto 4, 3) := by decide +kernel
theorem dX5_isLetGo_15 : decode cX5_isLetGo 15 = .ok (.iconst 0, 1) := by decide +kernel
theorem dX5_isLetGo_16 : decode cX5_isLetGo 16 = .ok (.ireturn, 1) := by decide +kernel
theorem dX5_isParted_0 : decode cX5_isParted 0 = .ok (.lload_n 0, 1) := by decide +kernel
theorem dX5_isParted_1 : decode cX5_isParted 1 = .ok (.invokestatic 15, 3) := by decide +kernel
theorem dX5_isParted_4 : decode cX5_isParted 4 = .ok (.iload_n 2, 1) := by decide +kernel
theorem dX5_isParted_5 : decode cX5_isParted 5 = .ok (.ishr, 1) := by decide +kernel
theorem dX5_isParted_6 : decode cX5_isParted 6 = .ok (.iconst 1, 1) := by decide +kernel
theorem dX5_isParted_7 : decode cX5_isParted 7 = .ok (.iand, 1) := by decide +kernel
theorem dX5_isParted_8 : decode cX5_isParted 8 = .ok (.ifCond .eq 7, 3) := by decide +kernel
theorem dX5_isParted_11 : decode cX5_isParted 11 = .ok (.iconst 1, 1) := by decide +kernel
theorem dX5_isParted_12 : decode cX5_isParted 12 = .ok (.goto 4, 3) := by decide +kernel
theorem dX5_isParted_15 : decode cX5_isParted 15 = .ok (.iconst 0, 1) := by decide +kernel
theorem dX5_isParted_16 : decode cX5_isParted 16 = .ok (.ireturn, 1) := by decide +kernel
theorem dX5_isFast_0 : decode cX5_isFast 0 = .ok (.lload_n 0, 1) := by decide +kernel
theorem dX5_isFast_1 : decode cX5_isFast 1 = .ok (.iload_n 2, 1) := by decide +kernel
theorem dX5_isFast_2 : decode cX5_isFast 2 = .ok (.invokestatic 18, 3) := by decide +kernel
theorem dX5_isFast_5 : decode cX5_isFast 5 = .ok (.ifCond .ne 15, 3) := by decide +kernel
theorem dX5_isFast_8 : decode cX5_isFast 8 = .ok (.lload_n 0, 1) := by decide +kernel
theorem dX5_isFast_9 : decode cX5_isFast 9 = .ok (.iload_n 2, 1) := by decide +kernel
theorem dX5_isFast_10 : decode cX5_isFast 10 = .ok (.invokestatic 22, 3) := by decide +kernel
theorem dX5_isFast_13 : decode cX5_isFast 13 = .ok (.ifCond .ne 7, 3) := by decide +kernel
theorem dX5_isFast_16 : decode cX5_isFast 16 = .ok (.iconst 1, 1) := by decide +kernel
theorem dX5_isFast_17 : decode cX5_isFast 17 = .ok (.goto 4, 3) := by decide +kernel
theorem dX5_isFast_20 : decode cX5_isFast 20 = .ok (.iconst 0, 1) := by decide +kernel
theorem dX5_isFast_21 : decode cX5_isFast 21 = .ok (.ireturn, 1) := by decide +kernel
theorem dX5_taut_0 : decode cX5_taut 0 = .ok (.iconst 0, 1) := by decide +kernel
theorem dX5_taut_1 : decode cX5_taut 1 = .ok (.istore_n 2, 1) := by decide +kernel
theorem dX5_taut_2 : decode cX5_taut 2 = .ok (.iconst 0, 1) := by decide +kernel
theorem dX5_taut_3 : decode cX5_taut 3 = .ok (.istore_n 3, 1) := by decide +kernel
theorem dX5_taut_4 : decode cX5_taut 4 = .ok (.iload_n 3, 1) := by decide +kernel
theorem dX5_taut_5 : decode cX5_taut 5 = .ok (.bipush 6, 2) := by decide +kernel
theorem dX5_taut_7 : decode cX5_taut 7 = .ok (.if_icmp .ge 23, 3) := by decide +kernel
theorem dX5_taut_10 : decode cX5_taut 10 = .ok (.lload_n 0, 1) := by decide +kernel
theorem dX5_taut_11 : decode cX5_taut 11 = .ok (.iload_n 3, 1) := by decide +kernel
theorem dX5_taut_12 : decode cX5_taut 12 = .ok (.invokestatic 25, 3) := by decide +kernel
theorem dX5_taut_15 : decode cX5_taut 15 = .ok (.ifCond .le 9, 3) := by decide +kernel
theorem dX5_taut_18 : decode cX5_taut 18 = .ok (.iload_n 2, 1) := by decide +kernel
theorem dX5_taut_19 : decode cX5_taut 19 = .ok (.iconst 1, 1) := by decide +kernel
theorem dX5_taut_20 : decode cX5_taut 20 = .ok (.iload_n 3, 1) := by decide +kernel
theorem dX5_taut_21 : decode cX5_taut 21 = .ok (.ishl, 1) := by decide +kernel
theorem dX5_taut_22 : decode cX5_taut 22 = .ok (.ior, 1) := by decide +kernel
theorem dX5_taut_23 : decode cX5_taut 23 = .ok (.istore_n 2, 1) := by decide +kernel
theorem dX5_taut_24 : decode cX5_taut 24 = .ok (.iinc 3 1, 3) := by decide +kernel
theorem dX5_taut_27 : decode cX5_taut 27 = .ok (.goto (-23), 3) := by decide +kernel
theorem dX5_taut_30 : decode cX5_taut 30 = .ok (.iload_n 2, 1) := by decide +kernel
theorem dX5_taut_31 : decode cX5_taut 31 = .ok (.ireturn, 1) := by decide +kernel
theorem dX5_allStrains_0 : decode cX5_allStrains 0 = .ok (.iconst 0, 1) := by decide +kernel
theorem dX5_allStrains_1 : decode cX5_allStrains 1 = .ok (.istore_n 2, 1) := by decide +kernel
theorem dX5_allStrains_2 : decode cX5_allStrains 2 = .ok (.iconst 0, 1) := by decide +kernel
theorem dX5_allStrains_3 : decode cX5_allStrains 3 = .ok (.istore_n 3, 1) := by decide +kernel
theorem dX5_allStrains_4 : decode cX5_allStrains 4 = .ok (.iload_n 3, 1) := by decide +kernel
theorem dX5_allStrains_5 : decode cX5_allStrains 5 = .ok (.bipush 6, 2) := by decide +kernel
theorem dX5_allStrains_7 : decode cX5_allStrains 7 = .ok (.if_icmp .ge 17, 3) := by decide +kernel
theorem dX5_allStrains_10 : decode cX5_allStrains 10 = .ok (.iload_n 2, 1) := by decide +kernel
theorem dX5_allStrains_11 : decode cX5_allStrains 11 = .ok (.lload_n 0, 1) := by decide +kernel
theorem dX5_allStrains_12 : decode cX5_allStrains 12 = .ok (.iload_n 3, 1) := by decide +kernel
theorem dX5_allStrains_13 : decode cX5_allStrains 13 = .ok (.invokestatic 25, 3) := by decide +kernel
theorem dX5_allStrains_16 : decode cX5_allStrains 16 = .ok (.iadd, 1) := by decide +kernel
theorem dX5_allStrains_17 : decode cX5_allStrains 17 = .ok (.istore_n 2, 1) := by decide +kernel
theorem dX5_allStrains_18 : decode cX5_allStrains 18 = .ok (.iinc 3 1, 3) := by decide +kernel
theorem dX5_allStrains_21 : decode cX5_allStrains 21 = .ok (.goto (-17), 3) := by decide +kernel
theorem dX5_allStrains_24 : decode cX5_allStrains 24 = .ok (.iload_n 2, 1) := by decide +kernel
theorem dX5_allStrains_25 : decode cX5_allStrains 25 = .ok (.ireturn, 1) := by decide +kernel
theorem dX5_afterStrain_0 : decode cX5_afterStrain 0 = .ok (.lload_n 0, 1) := by decide +kernel
theorem dX5_afterStrain_1 : decode cX5_afterStrain 1 = .ok (.ldc2_w 29, 3) := by decide +kernel
theorem dX5_afterStrain_4 : decode cX5_afterStrain 4 = .ok (.iconst 4, 1) := by decide +kernel
theorem dX5_afterStrain_5 : decode cX5_afterStrain 5 = .ok (.iload_n 2, 1) := by decide +kernel
theorem dX5_afterStrain_6 : decode cX5_afterStrain 6 = .ok (.imul, 1) := by decide +kernel
theorem dX5_afterStrain_7 : decode cX5_afterStrain 7 = .ok (.lshl, 1) := by decide +kernel
theorem dX5_afterStrain_8 : decode cX5_afterStrain 8 = .ok (.ldc2_w 31, 3) := by decide +kernel
theorem dX5_afterStrain_11 : decode cX5_afterStrain 11 = .ok (.lxor, 1) := by decide +kernel
theorem dX5_afterStrain_12 : decode cX5_afterStrain 12 = .ok (.land, 1) := by decide +kernel
theorem dX5_afterStrain_13 : decode cX5_afterStrain 13 = .ok (.iload_n 3, 1) := by decide +kernel
theorem dX5_afterStrain_14 : decode cX5_afterStrain 14 = .ok (.bipush 15, 2) := by decide +kernel
theorem dX5_afterStrain_16 : decode cX5_afterStrain 16 = .ok (.iand, 1) := by decide +kernel
theorem dX5_afterStrain_17 : decode cX5_afterStrain 17 = .ok (.i2l, 1) := by decide +kernel
theorem dX5_afterStrain_18 : decode cX5_afterStrain 18 = .ok (.iconst 4, 1) := by decide +kernel
theorem dX5_afterStrain_19 : decode cX5_afterStrain 19 = .ok (.iload_n 2, 1) := by decide +kernel
theorem dX5_afterStrain_20 : decode cX5_afterStrain 20 = .ok (.imul, 1) := by decide +kernel
theorem dX5_afterStrain_21 : decode cX5_afterStrain 21 = .ok (.lshl, 1) := by decide +kernel
theorem dX5_afterStrain_22 : decode cX5_afterStrain 22 = .ok (.lor, 1) := by decide +kernel
theorem dX5_afterStrain_23 : decode cX5_afterStrain 23 = .ok (.lreturn, 1) := by decide +kernel
theorem dX5_afterLetGo_0 : decode cX5_afterLetGo 0 = .ok (.lload_n 0, 1) := by decide +kernel
theorem dX5_afterLetGo_1 : decode cX5_afterLetGo 1 = .ok (.iload_n 2, 1) := by decide +kernel
theorem dX5_afterLetGo_2 : decode cX5_afterLetGo 2 = .ok (.iconst 0, 1) := by decide +kernel
theorem dX5_afterLetGo_3 : decode cX5_afterLetGo 3 = .ok (.invokestatic 33, 3) := by decide +kernel
theorem dX5_afterLetGo_6 : decode cX5_afterLetGo 6 = .ok (.lconst 1, 1) := by decide +kernel
theorem dX5_afterLetGo_7 : decode cX5_afterLetGo 7 = .ok (.bipush 24, 2) := by decide +kernel
theorem dX5_afterLetGo_9 : decode cX5_afterLetGo 9 = .ok (.iload_n 2, 1) := by decide +kernel
theorem dX5_afterLetGo_10 : decode cX5_afterLetGo 10 = .ok (.iadd, 1) := by decide +kernel
theorem dX5_afterLetGo_11 : decode cX5_afterLetGo 11 = .ok (.lshl, 1) := by decide +kernel
theorem dX5_afterLetGo_12 : decode cX5_afterLetGo 12 = .ok (.lor, 1) := by decide +kernel
theorem dX5_afterLetGo_13 : decode cX5_afterLetGo 13 = .ok (.lreturn, 1) := by decide +kernel
theorem dX5_afterMadeOff_0 : decode cX5_afterMadeOff 0 = .ok (.lload_n 0, 1) := by decide +kernel
theorem dX5_afterMadeOff_1 : decode cX5_afterMadeOff 1 = .ok (.lconst 1, 1) := by decide +kernel
theorem dX5_afterMadeOff_2 : decode cX5_afterMadeOff 2 = .ok (.bipush 24, 2) := by decide +kernel
theorem dX5_afterMadeOff_4 : decode cX5_afterMadeOff 4 = .ok (.iload_n 2, 1) := by decide +kernel
theorem dX5_afterMadeOff_5 : decode cX5_afterMadeOff 5 = .ok (.iadd, 1) := by decide +kernel
theorem dX5_afterMadeOff_6 : decode cX5_afterMadeOff 6 = .ok (.lshl, 1) := by decide +kernel
theorem dX5_afterMadeOff_7 : decode cX5_afterMadeOff 7 = .ok (.ldc2_w 31, 3) := by decide +kernel
theorem dX5_afterMadeOff_10 : decode cX5_afterMadeOff 10 = .ok (.lxor, 1) := by decide +kernel
theorem dX5_afterMadeOff_11 : decode cX5_afterMadeOff 11 = .ok (.land, 1) := by decide +kernel
theorem dX5_afterMadeOff_12 : decode cX5_afterMadeOff 12 = .ok (.lreturn, 1) := by decide +kernel
theorem dX5_afterParted_0 : decode cX5_afterParted 0 = .ok (.lload_n 0, 1) := by decide +kernel
theorem dX5_afterParted_1 : decode cX5_afterParted 1 = .ok (.lstore_n 3, 1) := by decide +kernel
theorem dX5_afterParted_2 : decode cX5_afterParted 2 = .ok (.iconst 0, 1) := by decide +kernel
theorem dX5_afterParted_3 : decode cX5_afterParted 3 = .ok (.istore 5, 2) := by decide +kernel
theorem dX5_afterParted_5 : decode cX5_afterParted 5 = .ok (.iload 5, 2) := by decide +kernel
theorem dX5_afterParted_7 : decode cX5_afterParted 7 = .ok (.bipush 6, 2) := by decide +kernel
theorem dX5_afterParted_9 : decode cX5_afterParted 9 = .ok (.if_icmp .ge 34, 3) := by decide +kernel
theorem dX5_afterParted_12 : decode cX5_afterParted 12 = .ok (.iload_n 2, 1) := by decide +kernel
theorem dX5_afterParted_13 : decode cX5_afterParted 13 = .ok (.iload 5, 2) := by decide +kernel
theorem dX5_afterParted_15 : decode cX5_afterParted 15 = .ok (.ishr, 1) := by decide +kernel
theorem dX5_afterParted_16 : decode cX5_afterParted 16 = .ok (.iconst 1, 1) := by decide +kernel
theorem dX5_afterParted_17 : decode cX5_afterParted 17 = .ok (.iand, 1) := by decide +kernel
theorem dX5_afterParted_18 : decode cX5_afterParted 18 = .ok (.ifCond .eq 19, 3) := by decide +kernel
theorem dX5_afterParted_21 : decode cX5_afterParted 21 = .ok (.lload_n 3, 1) := by decide +kernel
theorem dX5_afterParted_22 : decode cX5_afterParted 22 = .ok (.iload 5, 2) := by decide +kernel
theorem dX5_afterParted_24 : decode cX5_afterParted 24 = .ok (.iconst 0, 1) := by decide +kernel
theorem dX5_afterParted_25 : decode cX5_afterParted 25 = .ok (.invokestatic 33, 3) := by decide +kernel
theorem dX5_afterParted_28 : decode cX5_afterParted 28 = .ok (.lconst 1, 1) := by decide +kernel
theorem dX5_afterParted_29 : decode cX5_afterParted 29 = .ok (.bipush 30, 2) := by decide +kernel
theorem dX5_afterParted_31 : decode cX5_afterParted 31 = .ok (.iload 5, 2) := by decide +kernel
theorem dX5_afterParted_33 : decode cX5_afterParted 33 = .ok (.iadd, 1) := by decide +kernel
theorem dX5_afterParted_34 : decode cX5_afterParted 34 = .ok (.lshl, 1) := by decide +kernel
theorem dX5_afterParted_35 : decode cX5_afterParted 35 = .ok (.lor, 1) := by decide +kernel
theorem dX5_afterParted_36 : decode cX5_afterParted 36 = .ok (.lstore_n 3, 1) := by decide +kernel
theorem dX5_afterParted_37 : decode cX5_afterParted 37 = .ok (.iinc 5 1, 3) := by decide +kernel
theorem dX5_afterParted_40 : decode cX5_afterParted 40 = .ok (.goto (-35), 3) := by decide +kernel
theorem dX5_afterParted_43 : decode cX5_afterParted 43 = .ok (.lload_n 3, 1) := by decide +kernel
theorem dX5_afterParted_44 : decode cX5_afterParted 44 = .ok (.lreturn, 1) := by decide +kernel
theorem dX5_afterSpliced_0 : decode cX5_afterSpliced 0 = .ok (.lload_n 0, 1) := by decide +kernel
theorem dX5_afterSpliced_1 : decode cX5_afterSpliced 1 = .ok (.iload_n 2, 1) := by decide +kernel
theorem dX5_afterSpliced_2 : decode cX5_afterSpliced 2 = .ok (.iconst 0, 1) := by decide +kernel
theorem dX5_afterSpliced_3 : decode cX5_afterSpliced 3 = .ok (.invokestatic 33, 3) := by decide +kernel
theorem dX5_afterSpliced_6 : decode cX5_afterSpliced 6 = .ok (.iload_n 2, 1) := by decide +kernel
theorem dX5_afterSpliced_7 : decode cX5_afterSpliced 7 = .ok (.invokestatic 37, 3) := by decide +kernel
theorem dX5_afterSpliced_10 : decode cX5_afterSpliced 10 = .ok (.lconst 1, 1) := by decide +kernel
theorem dX5_afterSpliced_11 : decode cX5_afterSpliced 11 = .ok (.bipush 30, 2) := by decide +kernel
theorem dX5_afterSpliced_13 : decode cX5_afterSpliced 13 = .ok (.iload_n 2, 1) := by decide +kernel
theorem dX5_afterSpliced_14 : decode cX5_afterSpliced 14 = .ok (.iadd, 1) := by decide +kernel
theorem dX5_afterSpliced_15 : decode cX5_afterSpliced 15 = .ok (.lshl, 1) := by decide +kernel
theorem dX5_afterSpliced_16 : decode cX5_afterSpliced 16 = .ok (.ldc2_w 31, 3) := by decide +kernel
theorem dX5_afterSpliced_19 : decode cX5_afterSpliced 19 = .ok (.lxor, 1) := by decide +kernel
theorem dX5_afterSpliced_20 : decode cX5_afterSpliced 20 = .ok (.land, 1) := by decide +kernel
theorem dX5_afterSpliced_21 : decode cX5_afterSpliced 21 = .ok (.lreturn, 1) := by decide +kernel
theorem dX5_afterFrost_0 : decode cX5_afterFrost 0 = .ok (.lload_n 0, 1) := by decide +kernel
theorem dX5_afterFrost_1 : decode cX5_afterFrost 1 = .ok (.ldc2_w 41, 3) := by decide +kernel
theorem dX5_afterFrost_4 : decode cX5_afterFrost 4 = .ok (.land, 1) := by decide +kernel
theorem dX5_afterFrost_5 : decode cX5_afterFrost 5 = .ok (.iload_n 2, 1) := by decide +kernel
theorem dX5_afterFrost_6 : decode cX5_afterFrost 6 = .ok (.iconst 1, 1) := by decide +kernel
theorem dX5_afterFrost_7 : decode cX5_afterFrost 7 = .ok (.iand, 1) := by decide +kernel
theorem dX5_afterFrost_8 : decode cX5_afterFrost 8 = .ok (.i2l, 1) := by decide +kernel
theorem dX5_afterFrost_9 : decode cX5_afterFrost 9 = .ok (.bipush 36, 2) := by decide +kernel
theorem dX5_afterFrost_11 : decode cX5_afterFrost 11 = .ok (.lshl, 1) := by decide +kernel
theorem dX5_afterFrost_12 : decode cX5_afterFrost 12 = .ok (.lor, 1) := by decide +kernel
theorem dX5_afterFrost_13 : decode cX5_afterFrost 13 = .ok (.lreturn, 1) := by decide +kernel
theorem dX6_init_0 : decode cX6_init 0 = .ok (.aload_n 0, 1) := by decide +kernel
theorem dX6_init_1 : decode cX6_init 1 = .ok (.invokespecial 1, 3) := by decide +kernel
theorem dX6_init_4 : decode cX6_init 4 = .ok (.aload_n 0, 1) := by decide +kernel
theorem dX6_init_5 : decode cX6_init 5 = .ok (.new 7, 3) := by decide +kernel
theorem dX6_init_8 : decode cX6_init 8 = .ok (.dup, 1) := by decide +kernel
theorem dX6_init_9 : decode cX6_init 9 = .ok (.bipush 6, 2) := by decide +kernel
theorem dX6_init_11 : decode cX6_init 11 = .ok (.bipush 40, 2) := by decide +kernel
theorem dX6_init_13 : decode cX6_init 13 = .ok (.iconst 0, 1) := by decide +kernel
theorem dX6_init_14 : decode cX6_init 14 = .ok (.invokespecial 11, 3) := by decide +kernel
theorem dX6_init_17 : decode cX6_init 17 = .ok (.putfield 14, 3) := by decide +kernel
theorem dX6_init_20 : decode cX6_init 20 = .ok (.aload_n 0, 1) := by decide +kernel
theorem dX6_init_21 : decode cX6_init 21 = .ok (.new 7, 3) := by decide +kernel
theorem dX6_init_24 : decode cX6_init 24 = .ok (.dup, 1) := by decide +kernel
theorem dX6_init_25 : decode cX6_init 25 = .ok (.iconst 4, 1) := by decide +kernel
theorem dX6_init_26 : decode cX6_init 26 = .ok (.bipush 60, 2) := by decide +kernel
theorem dX6_init_28 : decode cX6_init 28 = .ok (.bipush 32, 2) := by decide +kernel
theorem dX6_init_30 : decode cX6_init 30 = .ok (.invokespecial 11, 3) := by decide +kernel
theorem dX6_init_33 : decode cX6_init 33 = .ok (.putfield 18, 3) := by decide +kernel
theorem dX6_init_36 : decode cX6_init 36 = .ok (.aload_n 0, 1) := by decide +kernel
theorem dX6_init_37 : decode cX6_init 37 = .ok (.new 21, 3) := by decide +kernel
theorem dX6_init_40 : decode cX6_init 40 = .ok (.dup, 1) := by decide +kernel
theorem dX6_init_41 : decode cX6_init 41 = .ok (.invokespecial 23, 3) := by decide +kernel
theorem dX6_init_44 : decode cX6_init 44 = .ok (.putfield 24, 3) := by decide +kernel
theorem dX6_init_47 : decode cX6_init 47 = .ok (.aload_n 0, 1) := by decide +kernel
theorem dX6_init_48 : decode cX6_init 48 = .ok (.new 28, 3) := by decide +kernel
theorem dX6_init_51 : decode cX6_init 51 = .ok (.dup, 1) := by decide +kernel
theorem dX6_init_52 : decode cX6_init 52 = .ok (.invokespecial 30, 3) := by decide +kernel
theorem dX6_init_55 : decode cX6_init 55 = .ok (.putfield 31, 3) := by decide +kernel
theorem dX6_init_58 : decode cX6_init 58 = .ok (.aload_n 0, 1) := by decide +kernel
theorem dX6_init_59 : decode cX6_init 59 = .ok (.iconst 4, 1) := by decide +kernel
theorem dX6_init_60 : decode cX6_init 60 = .ok (.newarray .int, 2) := by decide +kernel
theorem dX6_init_62 : decode cX6_init 62 = .ok (.putfield 35, 3) := by decide +kernel
theorem dX6_init_65 : decode cX6_init 65 = .ok (.aload_n 0, 1) := by decide +kernel
theorem dX6_init_66 : decode cX6_init 66 = .ok (.bipush 6, 2) := by decide +kernel
theorem dX6_init_68 : decode cX6_init 68 = .ok (.newarray .int, 2) := by decide +kernel
theorem dX6_init_70 : decode cX6_init 70 = .ok (.putfield 39, 3) := by decide +kernel
theorem dX6_init_73 : decode cX6_init 73 = .ok (.aload_n 0, 1) := by decide +kernel
theorem dX6_init_74 : decode cX6_init 74 = .ok (.new 42, 3) := by decide +kernel
theorem dX6_init_77 : decode cX6_init 77 = .ok (.dup, 1) := by decide +kernel
theorem dX6_init_78 : decode cX6_init 78 = .ok (.invokespecial 44, 3) := by decide +kernel
theorem dX6_init_81 : decode cX6_init 81 = .ok (.putfield 45, 3) := by decide +kernel
theorem dX6_init_84 : decode cX6_init 84 = .ok (.aload_n 0, 1) := by decide +kernel
theorem dX6_init_85 : decode cX6_init 85 = .ok (.new 42, 3) := by decide +kernel
theorem dX6_init_88 : decode cX6_init 88 = .ok (.dup, 1) := by decide +kernel
theorem dX6_init_89 : decode cX6_init 89 = .ok (.invokespecial 44, 3) := by decide +kernel
theorem dX6_init_92 : decode cX6_init 92 = .ok (.putfield 49, 3) := by decide +kernel
theorem dX6_init_95 : decode cX6_init 95 = .ok (.aload_n 0, 1) := by decide +kernel
theorem dX6_init_96 : decode cX6_init 96 = .ok (.iconst 0, 1) := by decide +kernel
theorem dX6_init_97 : decode cX6_init 97 = .ok (.putfield 52, 3) := by decide +kernel
theorem dX6_init_100 : decode cX6_init 100 = .ok (.aload_n 0, 1) := by decide +kernel
theorem dX6_init_101 : decode cX6_init 101 = .ok (.iconst 0, 1) := by decide +kernel
theorem dX6_init_102 : decode cX6_init 102 = .ok (.putfield 56, 3) := by decide +kernel
theorem dX6_init_105 : decode cX6_init 105 = .ok (.aload_n 0, 1) := by decide +kernel
theorem dX6_init_106 : decode cX6_init 106 = .ok (.lconst 0, 1) := by decide +kernel
theorem dX6_init_107 : decode cX6_init 107 = .ok (.putfield 59, 3) := by decide +kernel
theorem dX6_init_110 : decode cX6_init 110 = .ok (.aload_n 0, 1) := by decide +kernel
theorem dX6_init_111 : decode cX6_init 111 = .ok (.lconst 1, 1) := by decide +kernel
theorem dX6_init_112 : decode cX6_init 112 = .ok (.putfield 63, 3) := by decide +kernel
theorem dX6_init_115 : decode cX6_init 115 = .ok (.return_, 1) := by decide +kernel
theorem dX6_row_0 : decode cX6_row 0 = .ok (.aload_n 0, 1) := by decide +kernel
theorem dX6_row_1 : decode cX6_row 1 = .ok (.aload_n 0, 1) := by decide +kernel
theorem dX6_row_2 : decode cX6_row 2 = .ok (.getfield 14, 3) := by decide +kernel
theorem dX6_row_5 : decode cX6_row 5 = .ok (.iload_n 1, 1) := by decide +kernel
theorem dX6_row_6 : decode cX6_row 6 = .ok (.iload_n 2, 1) := by decide +kernel
theorem dX6_row_7 : decode cX6_row 7 = .ok (.invokevirtual 66, 3) := by decide +kernel
theorem dX6_row_10 : decode cX6_row 10 = .ok (.ireturn, 1) := by decide +kernel
theorem dX6_lay_0 : decode cX6_lay 0 = .ok (.aload_n 0, 1) := by decide +kernel
theorem dX6_lay_1 : decode cX6_lay 1 = .ok (.aload_n 0, 1) := by decide +kernel
theorem dX6_lay_2 : decode cX6_lay 2 = .ok (.getfield 14, 3) := by decide +kernel
theorem dX6_lay_5 : decode cX6_lay 5 = .ok (.iload_n 1, 1) := by decide +kernel
theorem dX6_lay_6 : decode cX6_lay 6 = .ok (.iload_n 2, 1) := by decide +kernel
theorem dX6_lay_7 : decode cX6_lay 7 = .ok (.invokevirtual 70, 3) := by decide +kernel
theorem dX6_lay_10 : decode cX6_lay 10 = .ok (.istore 4, 2) := by decide +kernel
theorem dX6_lay_12 : decode cX6_lay 12 = .ok (.iload 4, 2) := by decide +kernel
theorem dX6_lay_14 : decode cX6_lay 14 = .ok (.ifCond .eq 6, 3) := by decide +kernel
theorem dX6_lay_17 : decode cX6_lay 17 = .ok (.iload 4, 2) := by decide +kernel
theorem dX6_lay_19 : decode cX6_lay 19 = .ok (.ireturn, 1) := by decide +kernel
theorem dX6_lay_20 : decode cX6_lay 20 = .ok (.aload_n 0, 1) := by decide +kernel
theorem dX6_lay_21 : decode cX6_lay 21 = .ok (.getfield 14, 3) := by decide +kernel
theorem dX6_lay_24 : decode cX6_lay 24 = .ok (.iload_n 1, 1) := by decide +kernel
theorem dX6_lay_25 : decode cX6_lay 25 = .ok (.iload_n 2, 1) := by decide +kernel
theorem dX6_lay_26 : decode cX6_lay 26 = .ok (.invokevirtual 73, 3) := by decide +kernel
theorem dX6_lay_29 : decode cX6_lay 29 = .ok (.istore 5, 2) := by decide +kernel
theorem dX6_lay_31 : decode cX6_lay 31 = .ok (.aload_n 0, 1) := by decide +kernel
end
section
theorem dX6_lay_32 : decode cX6_lay 32 = .ok (.getfield 14, 3) := by decide +kernel
theorem dX6_lay_35 : decode cX6_lay 35 = .ok (.iload_n 1, 1) := by decide +kernel
theorem dX6_lay_36 : decode cX6_lay 36 = .ok (.iload_n 2, 1) := by decide +kernel
theorem dX6_lay_37 : decode cX6_lay 37 = .ok (.iload_n 3, 1) := by decide +kernel
theorem dX6_lay_38 : decode cX6_lay 38 = .ok (.invokevirtual 77, 3) := by decide +kernel
theorem dX6_lay_41 : decode cX6_lay 41 = .ok (.aload_n 0, 1) := by decide +kernel
theorem dX6_lay_42 : decode cX6_lay 42 = .ok (.iload 5, 2) := by decide +kernel
theorem dX6_lay_44 : decode cX6_lay 44 = .ok (.invokevirtual 80, 3) := by decide +kernel
theorem dX6_lay_47 : decode cX6_lay 47 = .ok (.ireturn, 1) := by decide +kernel
theorem dX6_at_0 : decode cX6_at 0 = .ok (.aload_n 0, 1) := by decide +kernel
theorem dX6_at_1 : decode cX6_at 1 = .ok (.aload_n 0, 1) := by decide +kernel
theorem dX6_at_2 : decode cX6_at 2 = .ok (.getfield 14, 3) := by decide +kernel
theorem dX6_at_5 : decode cX6_at 5 = .ok (.iload_n 1, 1) := by decide +kernel
theorem dX6_at_6 : decode cX6_at 6 = .ok (.iload_n 2, 1) := by decide +kernel
theorem dX6_at_7 : decode cX6_at 7 = .ok (.invokevirtual 70, 3) := by decide +kernel
theorem dX6_at_10 : decode cX6_at 10 = .ok (.istore_n 3, 1) := by decide +kernel
theorem dX6_at_11 : decode cX6_at 11 = .ok (.iload_n 3, 1) := by decide +kernel
theorem dX6_at_12 : decode cX6_at 12 = .ok (.ifCond .eq 7, 3) := by decide +kernel
theorem dX6_at_15 : decode cX6_at 15 = .ok (.iload_n 3, 1) := by decide +kernel
theorem dX6_at_16 : decode cX6_at 16 = .ok (.goto 16, 3) := by decide +kernel
theorem dX6_at_19 : decode cX6_at 19 = .ok (.aload_n 0, 1) := by decide +kernel
theorem dX6_at_20 : decode cX6_at 20 = .ok (.aload_n 0, 1) := by decide +kernel
theorem dX6_at_21 : decode cX6_at 21 = .ok (.getfield 14, 3) := by decide +kernel
theorem dX6_at_24 : decode cX6_at 24 = .ok (.iload_n 1, 1) := by decide +kernel
theorem dX6_at_25 : decode cX6_at 25 = .ok (.iload_n 2, 1) := by decide +kernel
theorem dX6_at_26 : decode cX6_at 26 = .ok (.invokevirtual 73, 3) := by decide +kernel
theorem dX6_at_29 : decode cX6_at 29 = .ok (.invokevirtual 80, 3) := by decide +kernel
theorem dX6_at_32 : decode cX6_at 32 = .ok (.ireturn, 1) := by decide +kernel
theorem dX6_text_0 : decode cX6_text 0 = .ok (.aload_n 0, 1) := by decide +kernel
theorem dX6_text_1 : decode cX6_text 1 = .ok (.aload_n 0, 1) := by decide +kernel
theorem dX6_text_2 : decode cX6_text 2 = .ok (.getfield 18, 3) := by decide +kernel
theorem dX6_text_5 : decode cX6_text 5 = .ok (.iload_n 1, 1) := by decide +kernel
theorem dX6_text_6 : decode cX6_text 6 = .ok (.iload_n 2, 1) := by decide +kernel
theorem dX6_text_7 : decode cX6_text 7 = .ok (.invokevirtual 66, 3) := by decide +kernel
theorem dX6_text_10 : decode cX6_text 10 = .ok (.ireturn, 1) := by decide +kernel
theorem dX6_put_0 : decode cX6_put 0 = .ok (.aload_n 0, 1) := by decide +kernel
theorem dX6_put_1 : decode cX6_put 1 = .ok (.aload_n 0, 1) := by decide +kernel
theorem dX6_put_2 : decode cX6_put 2 = .ok (.getfield 18, 3) := by decide +kernel
theorem dX6_put_5 : decode cX6_put 5 = .ok (.iload_n 1, 1) := by decide +kernel
theorem dX6_put_6 : decode cX6_put 6 = .ok (.iload_n 2, 1) := by decide +kernel
theorem dX6_put_7 : decode cX6_put 7 = .ok (.invokevirtual 70, 3) := by decide +kernel
theorem dX6_put_10 : decode cX6_put 10 = .ok (.istore 4, 2) := by decide +kernel
theorem dX6_put_12 : decode cX6_put 12 = .ok (.iload 4, 2) := by decide +kernel
theorem dX6_put_14 : decode cX6_put 14 = .ok (.ifCond .eq 6, 3) := by decide +kernel
theorem dX6_put_17 : decode cX6_put 17 = .ok (.iload 4, 2) := by decide +kernel
theorem dX6_put_19 : decode cX6_put 19 = .ok (.ireturn, 1) := by decide +kernel
theorem dX6_put_20 : decode cX6_put 20 = .ok (.aload_n 0, 1) := by decide +kernel
theorem dX6_put_21 : decode cX6_put 21 = .ok (.getfield 18, 3) := by decide +kernel
theorem dX6_put_24 : decode cX6_put 24 = .ok (.iload_n 1, 1) := by decide +kernel
theorem dX6_put_25 : decode cX6_put 25 = .ok (.iload_n 2, 1) := by decide +kernel
theorem dX6_put_26 : decode cX6_put 26 = .ok (.invokevirtual 73, 3) := by decide +kernel
theorem dX6_put_29 : decode cX6_put 29 = .ok (.istore 5, 2) := by decide +kernel
theorem dX6_put_31 : decode cX6_put 31 = .ok (.aload_n 0, 1) := by decide +kernel
theorem dX6_put_32 : decode cX6_put 32 = .ok (.getfield 18, 3) := by decide +kernel
theorem dX6_put_35 : decode cX6_put 35 = .ok (.iload_n 1, 1) := by decide +kernel
theorem dX6_put_36 : decode cX6_put 36 = .ok (.iload_n 2, 1) := by decide +kernel
theorem dX6_put_37 : decode cX6_put 37 = .ok (.iload_n 3, 1) := by decide +kernel
theorem dX6_put_38 : decode cX6_put 38 = .ok (.i2b, 1) := by decide +kernel
theorem dX6_put_39 : decode cX6_put 39 = .ok (.invokevirtual 77, 3) := by decide +kernel
theorem dX6_put_42 : decode cX6_put 42 = .ok (.iload 5, 2) := by decide +kernel
theorem dX6_put_44 : decode cX6_put 44 = .ok (.sipush 1000, 3) := by decide +kernel
theorem dX6_put_47 : decode cX6_put 47 = .ok (.iadd, 1) := by decide +kernel
theorem dX6_put_48 : decode cX6_put 48 = .ok (.ireturn, 1) := by decide +kernel
theorem dX6_court_0 : decode cX6_court 0 = .ok (.aload_n 0, 1) := by decide +kernel
theorem dX6_court_1 : decode cX6_court 1 = .ok (.aload_n 0, 1) := by decide +kernel
theorem dX6_court_2 : decode cX6_court 2 = .ok (.getfield 18, 3) := by decide +kernel
theorem dX6_court_5 : decode cX6_court 5 = .ok (.iload_n 1, 1) := by decide +kernel
theorem dX6_court_6 : decode cX6_court 6 = .ok (.invokevirtual 84, 3) := by decide +kernel
theorem dX6_court_9 : decode cX6_court 9 = .ok (.istore_n 2, 1) := by decide +kernel
theorem dX6_court_10 : decode cX6_court 10 = .ok (.iload_n 2, 1) := by decide +kernel
theorem dX6_court_11 : decode cX6_court 11 = .ok (.ifCond .eq 5, 3) := by decide +kernel
theorem dX6_court_14 : decode cX6_court 14 = .ok (.iload_n 2, 1) := by decide +kernel
theorem dX6_court_15 : decode cX6_court 15 = .ok (.ireturn, 1) := by decide +kernel
theorem dX6_court_16 : decode cX6_court 16 = .ok (.aload_n 0, 1) := by decide +kernel
theorem dX6_court_17 : decode cX6_court 17 = .ok (.getfield 24, 3) := by decide +kernel
theorem dX6_court_20 : decode cX6_court 20 = .ok (.aload_n 0, 1) := by decide +kernel
theorem dX6_court_21 : decode cX6_court 21 = .ok (.getfield 18, 3) := by decide +kernel
theorem dX6_court_24 : decode cX6_court 24 = .ok (.iload_n 1, 1) := by decide +kernel
theorem dX6_court_25 : decode cX6_court 25 = .ok (.aload_n 0, 1) := by decide +kernel
theorem dX6_court_26 : decode cX6_court 26 = .ok (.getfield 49, 3) := by decide +kernel
theorem dX6_court_29 : decode cX6_court 29 = .ok (.invokevirtual 117, 3) := by decide +kernel
theorem dX6_court_32 : decode cX6_court 32 = .ok (.bipush (-9), 2) := by decide +kernel
theorem dX6_court_34 : decode cX6_court 34 = .ok (.if_icmp .eq 6, 3) := by decide +kernel
theorem dX6_court_37 : decode cX6_court 37 = .ok (.bipush (-4), 2) := by decide +kernel
theorem dX6_court_39 : decode cX6_court 39 = .ok (.ireturn, 1) := by decide +kernel
theorem dX6_court_40 : decode cX6_court 40 = .ok (.aload_n 0, 1) := by decide +kernel
theorem dX6_court_41 : decode cX6_court 41 = .ok (.getfield 49, 3) := by decide +kernel
theorem dX6_court_44 : decode cX6_court 44 = .ok (.astore_n 3, 1) := by decide +kernel
theorem dX6_court_45 : decode cX6_court 45 = .ok (.aload_n 0, 1) := by decide +kernel
theorem dX6_court_46 : decode cX6_court 46 = .ok (.aload_n 0, 1) := by decide +kernel
theorem dX6_court_47 : decode cX6_court 47 = .ok (.getfield 45, 3) := by decide +kernel
theorem dX6_court_50 : decode cX6_court 50 = .ok (.putfield 49, 3) := by decide +kernel
theorem dX6_court_53 : decode cX6_court 53 = .ok (.aload_n 0, 1) := by decide +kernel
theorem dX6_court_54 : decode cX6_court 54 = .ok (.aload_n 3, 1) := by decide +kernel
theorem dX6_court_55 : decode cX6_court 55 = .ok (.putfield 45, 3) := by decide +kernel
theorem dX6_court_58 : decode cX6_court 58 = .ok (.aload_n 0, 1) := by decide +kernel
theorem dX6_court_59 : decode cX6_court 59 = .ok (.getfield 31, 3) := by decide +kernel
theorem dX6_court_62 : decode cX6_court 62 = .ok (.aload_n 0, 1) := by decide +kernel
theorem dX6_court_63 : decode cX6_court 63 = .ok (.getfield 45, 3) := by decide +kernel
theorem dX6_court_66 : decode cX6_court 66 = .ok (.getfield 121, 3) := by decide +kernel
theorem dX6_court_69 : decode cX6_court 69 = .ok (.invokevirtual 124, 3) := by decide +kernel
theorem dX6_court_72 : decode cX6_court 72 = .ok (.aload_n 0, 1) := by decide +kernel
theorem dX6_court_73 : decode cX6_court 73 = .ok (.getfield 45, 3) := by decide +kernel
theorem dX6_court_76 : decode cX6_court 76 = .ok (.getfield 128, 3) := by decide +kernel
theorem dX6_court_79 : decode cX6_court 79 = .ok (.ireturn, 1) := by decide +kernel
theorem dX6_rope_0 : decode cX6_rope 0 = .ok (.aload_n 0, 1) := by decide +kernel
theorem dX6_rope_1 : decode cX6_rope 1 = .ok (.getfield 45, 3) := by decide +kernel
theorem dX6_rope_4 : decode cX6_rope 4 = .ok (.iload_n 1, 1) := by decide +kernel
theorem dX6_rope_5 : decode cX6_rope 5 = .ok (.invokevirtual 131, 3) := by decide +kernel
theorem dX6_rope_8 : decode cX6_rope 8 = .ok (.ifCond .eq 12, 3) := by decide +kernel
theorem dX6_rope_11 : decode cX6_rope 11 = .ok (.iload_n 2, 1) := by decide +kernel
theorem dX6_rope_12 : decode cX6_rope 12 = .ok (.ifCond .lt 8, 3) := by decide +kernel
theorem dX6_rope_15 : decode cX6_rope 15 = .ok (.iload_n 2, 1) := by decide +kernel
theorem dX6_rope_16 : decode cX6_rope 16 = .ok (.iconst 5, 1) := by decide +kernel
theorem dX6_rope_17 : decode cX6_rope 17 = .ok (.if_icmp .le 5, 3) := by decide +kernel
theorem dX6_rope_20 : decode cX6_rope 20 = .ok (.iconst (-1), 1) := by decide +kernel
theorem dX6_rope_21 : decode cX6_rope 21 = .ok (.ireturn, 1) := by decide +kernel
theorem dX6_rope_22 : decode cX6_rope 22 = .ok (.aload_n 0, 1) := by decide +kernel
theorem dX6_rope_23 : decode cX6_rope 23 = .ok (.aload_n 0, 1) := by decide +kernel
theorem dX6_rope_24 : decode cX6_rope 24 = .ok (.iload_n 1, 1) := by decide +kernel
theorem dX6_rope_25 : decode cX6_rope 25 = .ok (.iload_n 2, 1) := by decide +kernel
theorem dX6_rope_26 : decode cX6_rope 26 = .ok (.invokevirtual 134, 3) := by decide +kernel
theorem dX6_rope_29 : decode cX6_rope 29 = .ok (.invokevirtual 80, 3) := by decide +kernel
theorem dX6_rope_32 : decode cX6_rope 32 = .ok (.ireturn, 1) := by decide +kernel
theorem dX6_haul_0 : decode cX6_haul 0 = .ok (.aload_n 0, 1) := by decide +kernel
theorem dX6_haul_1 : decode cX6_haul 1 = .ok (.iload_n 1, 1) := by decide +kernel
theorem dX6_haul_2 : decode cX6_haul 2 = .ok (.iload_n 2, 1) := by decide +kernel
theorem dX6_haul_3 : decode cX6_haul 3 = .ok (.invokevirtual 175, 3) := by decide +kernel
theorem dX6_haul_6 : decode cX6_haul 6 = .ok (.istore_n 3, 1) := by decide +kernel
theorem dX6_haul_7 : decode cX6_haul 7 = .ok (.iload_n 3, 1) := by decide +kernel
theorem dX6_haul_8 : decode cX6_haul 8 = .ok (.ifCond .eq 5, 3) := by decide +kernel
theorem dX6_haul_11 : decode cX6_haul 11 = .ok (.iload_n 3, 1) := by decide +kernel
theorem dX6_haul_12 : decode cX6_haul 12 = .ok (.ireturn, 1) := by decide +kernel
theorem dX6_haul_13 : decode cX6_haul 13 = .ok (.aload_n 0, 1) := by decide +kernel
theorem dX6_haul_14 : decode cX6_haul 14 = .ok (.getfield 31, 3) := by decide +kernel
theorem dX6_haul_17 : decode cX6_haul 17 = .ok (.invokevirtual 144, 3) := by decide +kernel
theorem dX6_haul_20 : decode cX6_haul 20 = .ok (.lstore 4, 2) := by decide +kernel
theorem dX6_haul_22 : decode cX6_haul 22 = .ok (.aload_n 0, 1) := by decide +kernel
theorem dX6_haul_23 : decode cX6_haul 23 = .ok (.getfield 45, 3) := by decide +kernel
theorem dX6_haul_26 : decode cX6_haul 26 = .ok (.lload 4, 2) := by decide +kernel
theorem dX6_haul_28 : decode cX6_haul 28 = .ok (.iload_n 1, 1) := by decide +kernel
theorem dX6_haul_29 : decode cX6_haul 29 = .ok (.iload_n 2, 1) := by decide +kernel
theorem dX6_haul_30 : decode cX6_haul 30 = .ok (.invokevirtual 178, 3) := by decide +kernel
theorem dX6_haul_33 : decode cX6_haul 33 = .ok (.lstore 6, 2) := by decide +kernel
theorem dX6_haul_35 : decode cX6_haul 35 = .ok (.aload_n 0, 1) := by decide +kernel
theorem dX6_haul_36 : decode cX6_haul 36 = .ok (.lload 6, 2) := by decide +kernel
theorem dX6_haul_38 : decode cX6_haul 38 = .ok (.lload 4, 2) := by decide +kernel
theorem dX6_haul_40 : decode cX6_haul 40 = .ok (.lload 6, 2) := by decide +kernel
theorem dX6_haul_42 : decode cX6_haul 42 = .ok (.invokestatic 182, 3) := by decide +kernel
theorem dX6_haul_45 : decode cX6_haul 45 = .ok (.bipush (-9), 2) := by decide +kernel
theorem dX6_haul_47 : decode cX6_haul 47 = .ok (.if_icmp .ne 7, 3) := by decide +kernel
theorem dX6_haul_50 : decode cX6_haul 50 = .ok (.iconst 0, 1) := by decide +kernel
theorem dX6_haul_51 : decode cX6_haul 51 = .ok (.goto 4, 3) := by decide +kernel
theorem dX6_haul_54 : decode cX6_haul 54 = .ok (.iconst 1, 1) := by decide +kernel
theorem dX6_haul_55 : decode cX6_haul 55 = .ok (.invokevirtual 186, 3) := by decide +kernel
theorem dX6_haul_58 : decode cX6_haul 58 = .ok (.ireturn, 1) := by decide +kernel
theorem dX6_slack_0 : decode cX6_slack 0 = .ok (.aload_n 0, 1) := by decide +kernel
theorem dX6_slack_1 : decode cX6_slack 1 = .ok (.iload_n 1, 1) := by decide +kernel
theorem dX6_slack_2 : decode cX6_slack 2 = .ok (.invokevirtual 189, 3) := by decide +kernel
theorem dX6_slack_5 : decode cX6_slack 5 = .ok (.istore_n 2, 1) := by decide +kernel
theorem dX6_slack_6 : decode cX6_slack 6 = .ok (.iload_n 2, 1) := by decide +kernel
theorem dX6_slack_7 : decode cX6_slack 7 = .ok (.ifCond .eq 5, 3) := by decide +kernel
theorem dX6_slack_10 : decode cX6_slack 10 = .ok (.iload_n 2, 1) := by decide +kernel
theorem dX6_slack_11 : decode cX6_slack 11 = .ok (.ireturn, 1) := by decide +kernel
theorem dX6_slack_12 : decode cX6_slack 12 = .ok (.aload_n 0, 1) := by decide +kernel
theorem dX6_slack_13 : decode cX6_slack 13 = .ok (.getfield 31, 3) := by decide +kernel
theorem dX6_slack_16 : decode cX6_slack 16 = .ok (.invokevirtual 144, 3) := by decide +kernel
theorem dX6_slack_19 : decode cX6_slack 19 = .ok (.lstore_n 3, 1) := by decide +kernel
theorem dX6_slack_20 : decode cX6_slack 20 = .ok (.aload_n 0, 1) := by decide +kernel
theorem dX6_slack_21 : decode cX6_slack 21 = .ok (.lload_n 3, 1) := by decide +kernel
theorem dX6_slack_22 : decode cX6_slack 22 = .ok (.iload_n 1, 1) := by decide +kernel
theorem dX6_slack_23 : decode cX6_slack 23 = .ok (.invokestatic 192, 3) := by decide +kernel
theorem dX6_slack_26 : decode cX6_slack 26 = .ok (.lload_n 3, 1) := by decide +kernel
theorem dX6_slack_27 : decode cX6_slack 27 = .ok (.iload_n 1, 1) := by decide +kernel
theorem dX6_slack_28 : decode cX6_slack 28 = .ok (.invokestatic 151, 3) := by decide +kernel
theorem dX6_slack_31 : decode cX6_slack 31 = .ok (.invokevirtual 186, 3) := by decide +kernel
theorem dX6_slack_34 : decode cX6_slack 34 = .ok (.ireturn, 1) := by decide +kernel
theorem dX6_belay_0 : decode cX6_belay 0 = .ok (.aload_n 0, 1) := by decide +kernel
theorem dX6_belay_1 : decode cX6_belay 1 = .ok (.getfield 45, 3) := by decide +kernel
theorem dX6_belay_4 : decode cX6_belay 4 = .ok (.iload_n 1, 1) := by decide +kernel
theorem dX6_belay_5 : decode cX6_belay 5 = .ok (.invokevirtual 131, 3) := by decide +kernel
theorem dX6_belay_8 : decode cX6_belay 8 = .ok (.ifCond .ne 5, 3) := by decide +kernel
theorem dX6_belay_11 : decode cX6_belay 11 = .ok (.iconst (-1), 1) := by decide +kernel
theorem dX6_belay_12 : decode cX6_belay 12 = .ok (.ireturn, 1) := by decide +kernel
theorem dX6_belay_13 : decode cX6_belay 13 = .ok (.aload_n 0, 1) := by decide +kernel
theorem dX6_belay_14 : decode cX6_belay 14 = .ok (.getfield 31, 3) := by decide +kernel
theorem dX6_belay_17 : decode cX6_belay 17 = .ok (.invokevirtual 144, 3) := by decide +kernel
theorem dX6_belay_20 : decode cX6_belay 20 = .ok (.lstore_n 2, 1) := by decide +kernel
theorem dX6_belay_21 : decode cX6_belay 21 = .ok (.lload_n 2, 1) := by decide +kernel
theorem dX6_belay_22 : decode cX6_belay 22 = .ok (.iload_n 1, 1) := by decide +kernel
theorem dX6_belay_23 : decode cX6_belay 23 = .ok (.invokestatic 196, 3) := by decide +kernel
theorem dX6_belay_26 : decode cX6_belay 26 = .ok (.ifCond .ne 11, 3) := by decide +kernel
theorem dX6_belay_29 : decode cX6_belay 29 = .ok (.lload_n 2, 1) := by decide +kernel
theorem dX6_belay_30 : decode cX6_belay 30 = .ok (.iload_n 1, 1) := by decide +kernel
theorem dX6_belay_31 : decode cX6_belay 31 = .ok (.invokestatic 200, 3) := by decide +kernel
theorem dX6_belay_34 : decode cX6_belay 34 = .ok (.ifCond .ne 6, 3) := by decide +kernel
theorem dX6_belay_37 : decode cX6_belay 37 = .ok (.bipush (-4), 2) := by decide +kernel
theorem dX6_belay_39 : decode cX6_belay 39 = .ok (.ireturn, 1) := by decide +kernel
theorem dX6_belay_40 : decode cX6_belay 40 = .ok (.lload_n 2, 1) := by decide +kernel
theorem dX6_belay_41 : decode cX6_belay 41 = .ok (.iload_n 1, 1) := by decide +kernel
theorem dX6_belay_42 : decode cX6_belay 42 = .ok (.invokestatic 203, 3) := by decide +kernel
theorem dX6_belay_45 : decode cX6_belay 45 = .ok (.lstore 4, 2) := by decide +kernel
theorem dX6_belay_47 : decode cX6_belay 47 = .ok (.aload_n 0, 1) := by decide +kernel
theorem dX6_belay_48 : decode cX6_belay 48 = .ok (.lload 4, 2) := by decide +kernel
theorem dX6_belay_50 : decode cX6_belay 50 = .ok (.lload 4, 2) := by decide +kernel
theorem dX6_belay_52 : decode cX6_belay 52 = .ok (.invokestatic 206, 3) := by decide +kernel
theorem dX6_belay_55 : decode cX6_belay 55 = .ok (.invokestatic 170, 3) := by decide +kernel
theorem dX6_belay_58 : decode cX6_belay 58 = .ok (.invokevirtual 186, 3) := by decide +kernel
theorem dX6_belay_61 : decode cX6_belay 61 = .ok (.ireturn, 1) := by decide +kernel
theorem dX6_cut_0 : decode cX6_cut 0 = .ok (.aload_n 0, 1) := by decide +kernel
theorem dX6_cut_1 : decode cX6_cut 1 = .ok (.getfield 45, 3) := by decide +kernel
theorem dX6_cut_4 : decode cX6_cut 4 = .ok (.iload_n 1, 1) := by decide +kernel
theorem dX6_cut_5 : decode cX6_cut 5 = .ok (.invokevirtual 131, 3) := by decide +kernel
theorem dX6_cut_8 : decode cX6_cut 8 = .ok (.ifCond .ne 5, 3) := by decide +kernel
theorem dX6_cut_11 : decode cX6_cut 11 = .ok (.iconst (-1), 1) := by decide +kernel
theorem dX6_cut_12 : decode cX6_cut 12 = .ok (.ireturn, 1) := by decide +kernel
theorem dX6_cut_13 : decode cX6_cut 13 = .ok (.aload_n 0, 1) := by decide +kernel
theorem dX6_cut_14 : decode cX6_cut 14 = .ok (.getfield 31, 3) := by decide +kernel
theorem dX6_cut_17 : decode cX6_cut 17 = .ok (.invokevirtual 144, 3) := by decide +kernel
theorem dX6_cut_20 : decode cX6_cut 20 = .ok (.lstore_n 2, 1) := by decide +kernel
theorem dX6_cut_21 : decode cX6_cut 21 = .ok (.lload_n 2, 1) := by decide +kernel
theorem dX6_cut_22 : decode cX6_cut 22 = .ok (.iload_n 1, 1) := by decide +kernel
theorem dX6_cut_23 : decode cX6_cut 23 = .ok (.invokestatic 196, 3) := by decide +kernel
theorem dX6_cut_26 : decode cX6_cut 26 = .ok (.ifCond .eq 6, 3) := by decide +kernel
theorem dX6_cut_29 : decode cX6_cut 29 = .ok (.bipush (-4), 2) := by decide +kernel
theorem dX6_cut_31 : decode cX6_cut 31 = .ok (.ireturn, 1) := by decide +kernel
theorem dX6_cut_32 : decode cX6_cut 32 = .ok (.lload_n 2, 1) := by decide +kernel
theorem dX6_cut_33 : decode cX6_cut 33 = .ok (.iconst 1, 1) := by decide +kernel
theorem dX6_cut_34 : decode cX6_cut 34 = .ok (.iload_n 1, 1) := by decide +kernel
theorem dX6_cut_35 : decode cX6_cut 35 = .ok (.ishl, 1) := by decide +kernel
theorem dX6_cut_36 : decode cX6_cut 36 = .ok (.invokestatic 209, 3) := by decide +kernel
theorem dX6_cut_39 : decode cX6_cut 39 = .ok (.lstore 4, 2) := by decide +kernel
theorem dX6_cut_41 : decode cX6_cut 41 = .ok (.aload_n 0, 1) := by decide +kernel
theorem dX6_cut_42 : decode cX6_cut 42 = .ok (.lload 4, 2) := by decide +kernel
theorem dX6_cut_44 : decode cX6_cut 44 = .ok (.lload 4, 2) := by decide +kernel
theorem dX6_cut_46 : decode cX6_cut 46 = .ok (.invokestatic 212, 3) := by decide +kernel
theorem dX6_cut_49 : decode cX6_cut 49 = .ok (.invokestatic 170, 3) := by decide +kernel
theorem dX6_cut_52 : decode cX6_cut 52 = .ok (.invokevirtual 186, 3) := by decide +kernel
theorem dX6_cut_55 : decode cX6_cut 55 = .ok (.ireturn, 1) := by decide +kernel
theorem dX6_splice_0 : decode cX6_splice 0 = .ok (.aload_n 0, 1) := by decide +kernel
theorem dX6_splice_1 : decode cX6_splice 1 = .ok (.getfield 45, 3) := by decide +kernel
theorem dX6_splice_4 : decode cX6_splice 4 = .ok (.iload_n 1, 1) := by decide +kernel
theorem dX6_splice_5 : decode cX6_splice 5 = .ok (.invokevirtual 131, 3) := by decide +kernel
theorem dX6_splice_8 : decode cX6_splice 8 = .ok (.ifCond .ne 5, 3) := by decide +kernel
theorem dX6_splice_11 : decode cX6_splice 11 = .ok (.iconst (-1), 1) := by decide +kernel
theorem dX6_splice_12 : decode cX6_splice 12 = .ok (.ireturn, 1) := by decide +kernel
theorem dX6_splice_13 : decode cX6_splice 13 = .ok (.aload_n 0, 1) := by decide +kernel
theorem dX6_splice_14 : decode cX6_splice 14 = .ok (.getfield 31, 3) := by decide +kernel
theorem dX6_splice_17 : decode cX6_splice 17 = .ok (.invokevirtual 144, 3) := by decide +kernel
theorem dX6_splice_20 : decode cX6_splice 20 = .ok (.lstore_n 2, 1) := by decide +kernel
theorem dX6_splice_21 : decode cX6_splice 21 = .ok (.lload_n 2, 1) := by decide +kernel
theorem dX6_splice_22 : decode cX6_splice 22 = .ok (.iload_n 1, 1) := by decide +kernel
theorem dX6_splice_23 : decode cX6_splice 23 = .ok (.invokestatic 196, 3) := by decide +kernel
theorem dX6_splice_26 : decode cX6_splice 26 = .ok (.ifCond .ne 6, 3) := by decide +kernel
theorem dX6_splice_29 : decode cX6_splice 29 = .ok (.bipush (-4), 2) := by decide +kernel
theorem dX6_splice_31 : decode cX6_splice 31 = .ok (.ireturn, 1) := by decide +kernel
theorem dX6_splice_32 : decode cX6_splice 32 = .ok (.lload_n 2, 1) := by decide +kernel
theorem dX6_splice_33 : decode cX6_splice 33 = .ok (.iload_n 1, 1) := by decide +kernel
theorem dX6_splice_34 : decode cX6_splice 34 = .ok (.invokestatic 215, 3) := by decide +kernel
theorem dX6_splice_37 : decode cX6_splice 37 = .ok (.lstore 4, 2) := by decide +kernel
theorem dX6_splice_39 : decode cX6_splice 39 = .ok (.aload_n 0, 1) := by decide +kernel
theorem dX6_splice_40 : decode cX6_splice 40 = .ok (.lload 4, 2) := by decide +kernel
theorem dX6_splice_42 : decode cX6_splice 42 = .ok (.lload 4, 2) := by decide +kernel
theorem dX6_splice_44 : decode cX6_splice 44 = .ok (.invokestatic 212, 3) := by decide +kernel
theorem dX6_splice_47 : decode cX6_splice 47 = .ok (.invokestatic 170, 3) := by decide +kernel
theorem dX6_splice_50 : decode cX6_splice 50 = .ok (.invokevirtual 186, 3) := by decide +kernel
theorem dX6_splice_53 : decode cX6_splice 53 = .ok (.ireturn, 1) := by decide +kernel
theorem dX6_frost_0 : decode cX6_frost 0 = .ok (.iload_n 1, 1) := by decide +kernel
theorem dX6_frost_1 : decode cX6_frost 1 = .ok (.ifCond .eq 10, 3) := by decide +kernel
theorem dX6_frost_4 : decode cX6_frost 4 = .ok (.iload_n 1, 1) := by decide +kernel
theorem dX6_frost_5 : decode cX6_frost 5 = .ok (.iconst 1, 1) := by decide +kernel
theorem dX6_frost_6 : decode cX6_frost 6 = .ok (.if_icmp .eq 5, 3) := by decide +kernel
theorem dX6_frost_9 : decode cX6_frost 9 = .ok (.iconst (-1), 1) := by decide +kernel
theorem dX6_frost_10 : decode cX6_frost 10 = .ok (.ireturn, 1) := by decide +kernel
theorem dX6_frost_11 : decode cX6_frost 11 = .ok (.aload_n 0, 1) := by decide +kernel
theorem dX6_frost_12 : decode cX6_frost 12 = .ok (.getfield 31, 3) := by decide +kernel
theorem dX6_frost_15 : decode cX6_frost 15 = .ok (.invokevirtual 144, 3) := by decide +kernel
theorem dX6_frost_18 : decode cX6_frost 18 = .ok (.lstore_n 2, 1) := by decide +kernel
theorem dX6_frost_19 : decode cX6_frost 19 = .ok (.aload_n 0, 1) := by decide +kernel
theorem dX6_frost_20 : decode cX6_frost 20 = .ok (.getfield 45, 3) := by decide +kernel
theorem dX6_frost_23 : decode cX6_frost 23 = .ok (.invokevirtual 218, 3) := by decide +kernel
theorem dX6_frost_26 : decode cX6_frost 26 = .ok (.ifCond .ne 11, 3) := by decide +kernel
theorem dX6_frost_29 : decode cX6_frost 29 = .ok (.lload_n 2, 1) := by decide +kernel
theorem dX6_frost_30 : decode cX6_frost 30 = .ok (.invokestatic 222, 3) := by decide +kernel
theorem dX6_frost_33 : decode cX6_frost 33 = .ok (.iload_n 1, 1) := by decide +kernel
theorem dX6_frost_34 : decode cX6_frost 34 = .ok (.if_icmp .ne 6, 3) := by decide +kernel
theorem dX6_frost_37 : decode cX6_frost 37 = .ok (.bipush (-4), 2) := by decide +kernel
theorem dX6_frost_39 : decode cX6_frost 39 = .ok (.ireturn, 1) := by decide +kernel
theorem dX6_frost_40 : decode cX6_frost 40 = .ok (.aload_n 0, 1) := by decide +kernel
theorem dX6_frost_41 : decode cX6_frost 41 = .ok (.lload_n 2, 1) := by decide +kernel
theorem dX6_frost_42 : decode cX6_frost 42 = .ok (.iload_n 1, 1) := by decide +kernel
theorem dX6_frost_43 : decode cX6_frost 43 = .ok (.invokestatic 225, 3) := by decide +kernel
theorem dX6_frost_46 : decode cX6_frost 46 = .ok (.iload_n 1, 1) := by decide +kernel
theorem dX6_frost_47 : decode cX6_frost 47 = .ok (.invokevirtual 186, 3) := by decide +kernel
theorem dX6_frost_50 : decode cX6_frost 50 = .ok (.ireturn, 1) := by decide +kernel
theorem dX6_undo_0 : decode cX6_undo 0 = .ok (.aload_n 0, 1) := by decide +kernel
theorem dX6_undo_1 : decode cX6_undo 1 = .ok (.getfield 31, 3) := by decide +kernel
theorem dX6_undo_4 : decode cX6_undo 4 = .ok (.invokevirtual 228, 3) := by decide +kernel
theorem dX6_undo_7 : decode cX6_undo 7 = .ok (.istore_n 2, 1) := by decide +kernel
theorem dX6_undo_8 : decode cX6_undo 8 = .ok (.iload_n 1, 1) := by decide +kernel
theorem dX6_undo_9 : decode cX6_undo 9 = .ok (.ifCond .lt 8, 3) := by decide +kernel
theorem dX6_undo_12 : decode cX6_undo 12 = .ok (.iload_n 1, 1) := by decide +kernel
theorem dX6_undo_13 : decode cX6_undo 13 = .ok (.iload_n 2, 1) := by decide +kernel
theorem dX6_undo_14 : decode cX6_undo 14 = .ok (.if_icmp .le 5, 3) := by decide +kernel
theorem dX6_undo_17 : decode cX6_undo 17 = .ok (.iconst (-1), 1) := by decide +kernel
theorem dX6_undo_18 : decode cX6_undo 18 = .ok (.ireturn, 1) := by decide +kernel
theorem dX6_undo_19 : decode cX6_undo 19 = .ok (.aload_n 0, 1) := by decide +kernel
theorem dX6_undo_20 : decode cX6_undo 20 = .ok (.getfield 31, 3) := by decide +kernel
theorem dX6_undo_23 : decode cX6_undo 23 = .ok (.iload_n 1, 1) := by decide +kernel
theorem dX6_undo_24 : decode cX6_undo 24 = .ok (.invokevirtual 232, 3) := by decide +kernel
theorem dX6_undo_27 : decode cX6_undo 27 = .ok (.iload_n 2, 1) := by decide +kernel
theorem dX6_undo_28 : decode cX6_undo 28 = .ok (.iload_n 1, 1) := by decide +kernel
theorem dX6_undo_29 : decode cX6_undo 29 = .ok (.isub, 1) := by decide +kernel
theorem dX6_undo_30 : decode cX6_undo 30 = .ok (.ireturn, 1) := by decide +kernel
theorem dX6_keep_0 : decode cX6_keep 0 = .ok (.aload_n 0, 1) := by decide +kernel
theorem dX6_keep_1 : decode cX6_keep 1 = .ok (.getfield 31, 3) := by decide +kernel
theorem dX6_keep_4 : decode cX6_keep 4 = .ok (.iload_n 1, 1) := by decide +kernel
theorem dX6_keep_5 : decode cX6_keep 5 = .ok (.invokevirtual 235, 3) := by decide +kernel
theorem dX6_keep_8 : decode cX6_keep 8 = .ok (.ifCond .ne 5, 3) := by decide +kernel
theorem dX6_keep_11 : decode cX6_keep 11 = .ok (.iconst (-1), 1) := by decide +kernel
theorem dX6_keep_12 : decode cX6_keep 12 = .ok (.ireturn, 1) := by decide +kernel
theorem dX6_keep_13 : decode cX6_keep 13 = .ok (.aload_n 0, 1) := by decide +kernel
theorem dX6_keep_14 : decode cX6_keep 14 = .ok (.getfield 45, 3) := by decide +kernel
theorem dX6_keep_17 : decode cX6_keep 17 = .ok (.invokevirtual 218, 3) := by decide +kernel
theorem dX6_keep_20 : decode cX6_keep 20 = .ok (.ifCond .eq 6, 3) := by decide +kernel
theorem dX6_keep_23 : decode cX6_keep 23 = .ok (.bipush (-4), 2) := by decide +kernel
theorem dX6_keep_25 : decode cX6_keep 25 = .ok (.ireturn, 1) := by decide +kernel
theorem dX6_keep_26 : decode cX6_keep 26 = .ok (.aload_n 0, 1) := by decide +kernel
theorem dX6_keep_27 : decode cX6_keep 27 = .ok (.getfield 31, 3) := by decide +kernel
theorem dX6_keep_30 : decode cX6_keep 30 = .ok (.iload_n 1, 1) := by decide +kernel
theorem dX6_keep_31 : decode cX6_keep 31 = .ok (.invokevirtual 238, 3) := by decide +kernel
theorem dX6_keep_34 : decode cX6_keep 34 = .ok (.aload_n 0, 1) := by decide +kernel
theorem dX6_keep_35 : decode cX6_keep 35 = .ok (.getfield 31, 3) := by decide +kernel
theorem dX6_keep_38 : decode cX6_keep 38 = .ok (.invokevirtual 228, 3) := by decide +kernel
theorem dX6_keep_41 : decode cX6_keep 41 = .ok (.ireturn, 1) := by decide +kernel
theorem dX6_on_0 : decode cX6_on 0 = .ok (.aload_n 0, 1) := by decide +kernel
theorem dX6_on_1 : decode cX6_on 1 = .ok (.getfield 31, 3) := by decide +kernel
theorem dX6_on_4 : decode cX6_on 4 = .ok (.iload_n 1, 1) := by decide +kernel
theorem dX6_on_5 : decode cX6_on 5 = .ok (.invokevirtual 235, 3) := by decide +kernel
theorem dX6_on_8 : decode cX6_on 8 = .ok (.ifCond .ne 5, 3) := by decide +kernel
theorem dX6_on_11 : decode cX6_on 11 = .ok (.iconst (-1), 1) := by decide +kernel
theorem dX6_on_12 : decode cX6_on 12 = .ok (.ireturn, 1) := by decide +kernel
theorem dX6_on_13 : decode cX6_on 13 = .ok (.aload_n 0, 1) := by decide +kernel
theorem dX6_on_14 : decode cX6_on 14 = .ok (.getfield 31, 3) := by decide +kernel
theorem dX6_on_17 : decode cX6_on 17 = .ok (.iload_n 1, 1) := by decide +kernel
theorem dX6_on_18 : decode cX6_on 18 = .ok (.invokevirtual 241, 3) := by decide +kernel
theorem dX6_on_21 : decode cX6_on 21 = .ok (.iconst (-1), 1) := by decide +kernel
theorem dX6_on_22 : decode cX6_on 22 = .ok (.if_icmp .ne 9, 3) := by decide +kernel
theorem dX6_on_25 : decode cX6_on 25 = .ok (.aload_n 0, 1) := by decide +kernel
theorem dX6_on_26 : decode cX6_on 26 = .ok (.iconst 1, 1) := by decide +kernel
theorem dX6_on_27 : decode cX6_on 27 = .ok (.invokevirtual 96, 3) := by decide +kernel
theorem dX6_on_30 : decode cX6_on 30 = .ok (.ireturn, 1) := by decide +kernel
theorem dX6_on_31 : decode cX6_on 31 = .ok (.aload_n 0, 1) := by decide +kernel
theorem dX6_on_32 : decode cX6_on 32 = .ok (.getfield 31, 3) := by decide +kernel
theorem dX6_on_35 : decode cX6_on 35 = .ok (.iload_n 1, 1) := by decide +kernel
theorem dX6_on_36 : decode cX6_on 36 = .ok (.invokevirtual 244, 3) := by decide +kernel
theorem dX6_on_39 : decode cX6_on 39 = .ok (.aload_n 0, 1) := by decide +kernel
theorem dX6_on_40 : decode cX6_on 40 = .ok (.getfield 31, 3) := by decide +kernel
theorem dX6_on_43 : decode cX6_on 43 = .ok (.invokevirtual 228, 3) := by decide +kernel
theorem dX6_on_46 : decode cX6_on 46 = .ok (.ireturn, 1) := by decide +kernel
theorem dX6_passes_0 : decode cX6_passes 0 = .ok (.aload_n 0, 1) := by decide +kernel
theorem dX6_passes_1 : decode cX6_passes 1 = .ok (.getfield 45, 3) := by decide +kernel
theorem dX6_passes_4 : decode cX6_passes 4 = .ok (.iload_n 1, 1) := by decide +kernel
theorem dX6_passes_5 : decode cX6_passes 5 = .ok (.invokevirtual 131, 3) := by decide +kernel
theorem dX6_passes_8 : decode cX6_passes 8 = .ok (.ifCond .eq 13, 3) := by decide +kernel
theorem dX6_passes_11 : decode cX6_passes 11 = .ok (.iload_n 2, 1) := by decide +kernel
theorem dX6_passes_12 : decode cX6_passes 12 = .ok (.ifCond .lt 9, 3) := by decide +kernel
theorem dX6_passes_15 : decode cX6_passes 15 = .ok (.iload_n 2, 1) := by decide +kernel
theorem dX6_passes_16 : decode cX6_passes 16 = .ok (.bipush 99, 2) := by decide +kernel
theorem dX6_passes_18 : decode cX6_passes 18 = .ok (.if_icmp .le 5, 3) := by decide +kernel
theorem dX6_passes_21 : decode cX6_passes 21 = .ok (.iconst (-1), 1) := by decide +kernel
theorem dX6_passes_22 : decode cX6_passes 22 = .ok (.ireturn, 1) := by decide +kernel
theorem dX6_passes_23 : decode cX6_passes 23 = .ok (.aload_n 0, 1) := by decide +kernel
theorem dX6_passes_24 : decode cX6_passes 24 = .ok (.getfield 45, 3) := by decide +kernel
theorem dX6_passes_27 : decode cX6_passes 27 = .ok (.iload_n 1, 1) := by decide +kernel
theorem dX6_passes_28 : decode cX6_passes 28 = .ok (.invokevirtual 137, 3) := by decide +kernel
theorem dX6_passes_31 : decode cX6_passes 31 = .ok (.iload_n 2, 1) := by decide +kernel
theorem dX6_passes_32 : decode cX6_passes 32 = .ok (.invokestatic 163, 3) := by decide +kernel
theorem dX6_passes_35 : decode cX6_passes 35 = .ok (.ireturn, 1) := by decide +kernel
theorem dX6_moves_0 : decode cX6_moves 0 = .ok (.aload_n 0, 1) := by decide +kernel
theorem dX6_moves_1 : decode cX6_moves 1 = .ok (.iload_n 1, 1) := by decide +kernel
theorem dX6_moves_2 : decode cX6_moves 2 = .ok (.iload_n 2, 1) := by decide +kernel
theorem dX6_moves_3 : decode cX6_moves 3 = .ok (.invokevirtual 175, 3) := by decide +kernel
theorem dX6_moves_6 : decode cX6_moves 6 = .ok (.istore_n 3, 1) := by decide +kernel
theorem dX6_moves_7 : decode cX6_moves 7 = .ok (.iload_n 3, 1) := by decide +kernel
theorem dX6_moves_8 : decode cX6_moves 8 = .ok (.ifCond .eq 5, 3) := by decide +kernel
theorem dX6_moves_11 : decode cX6_moves 11 = .ok (.iload_n 3, 1) := by decide +kernel
theorem dX6_moves_12 : decode cX6_moves 12 = .ok (.ireturn, 1) := by decide +kernel
theorem dX6_moves_13 : decode cX6_moves 13 = .ok (.aload_n 0, 1) := by decide +kernel
theorem dX6_moves_14 : decode cX6_moves 14 = .ok (.getfield 31, 3) := by decide +kernel
theorem dX6_moves_17 : decode cX6_moves 17 = .ok (.invokevirtual 144, 3) := by decide +kernel
theorem dX6_moves_20 : decode cX6_moves 20 = .ok (.lstore 4, 2) := by decide +kernel
theorem dX6_moves_22 : decode cX6_moves 22 = .ok (.aload_n 0, 1) := by decide +kernel
theorem dX6_moves_23 : decode cX6_moves 23 = .ok (.lload 4, 2) := by decide +kernel
theorem dX6_moves_25 : decode cX6_moves 25 = .ok (.aload_n 0, 1) := by decide +kernel
theorem dX6_moves_26 : decode cX6_moves 26 = .ok (.getfield 45, 3) := by decide +kernel
theorem dX6_moves_29 : decode cX6_moves 29 = .ok (.lload 4, 2) := by decide +kernel
theorem dX6_moves_31 : decode cX6_moves 31 = .ok (.iload_n 1, 1) := by decide +kernel
theorem dX6_moves_32 : decode cX6_moves 32 = .ok (.iload_n 2, 1) := by decide +kernel
theorem dX6_moves_33 : decode cX6_moves 33 = .ok (.invokevirtual 178, 3) := by decide +kernel
theorem dX6_moves_36 : decode cX6_moves 36 = .ok (.invokestatic 182, 3) := by decide +kernel
theorem dX6_moves_39 : decode cX6_moves 39 = .ok (.invokevirtual 80, 3) := by decide +kernel
theorem dX6_moves_42 : decode cX6_moves 42 = .ok (.pop, 1) := by decide +kernel
theorem dX6_moves_43 : decode cX6_moves 43 = .ok (.aload_n 0, 1) := by decide +kernel
theorem dX6_moves_44 : decode cX6_moves 44 = .ok (.getfield 45, 3) := by decide +kernel
theorem dX6_moves_47 : decode cX6_moves 47 = .ok (.getfield 247, 3) := by decide +kernel
theorem dX6_moves_50 : decode cX6_moves 50 = .ok (.ireturn, 1) := by decide +kernel
theorem dX6_parts_0 : decode cX6_parts 0 = .ok (.aload_n 0, 1) := by decide +kernel
theorem dX6_parts_1 : decode cX6_parts 1 = .ok (.iload_n 1, 1) := by decide +kernel
theorem dX6_parts_2 : decode cX6_parts 2 = .ok (.invokevirtual 189, 3) := by decide +kernel
theorem dX6_parts_5 : decode cX6_parts 5 = .ok (.istore_n 2, 1) := by decide +kernel
theorem dX6_parts_6 : decode cX6_parts 6 = .ok (.iload_n 2, 1) := by decide +kernel
theorem dX6_parts_7 : decode cX6_parts 7 = .ok (.ifCond .eq 5, 3) := by decide +kernel
theorem dX6_parts_10 : decode cX6_parts 10 = .ok (.iload_n 2, 1) := by decide +kernel
theorem dX6_parts_11 : decode cX6_parts 11 = .ok (.ireturn, 1) := by decide +kernel
theorem dX6_parts_12 : decode cX6_parts 12 = .ok (.aload_n 0, 1) := by decide +kernel
theorem dX6_parts_13 : decode cX6_parts 13 = .ok (.getfield 31, 3) := by decide +kernel
theorem dX6_parts_16 : decode cX6_parts 16 = .ok (.invokevirtual 144, 3) := by decide +kernel
theorem dX6_parts_19 : decode cX6_parts 19 = .ok (.lstore_n 3, 1) := by decide +kernel
theorem dX6_parts_20 : decode cX6_parts 20 = .ok (.iconst 1, 1) := by decide +kernel
theorem dX6_parts_21 : decode cX6_parts 21 = .ok (.istore 5, 2) := by decide +kernel
theorem dX6_parts_23 : decode cX6_parts 23 = .ok (.iload 5, 2) := by decide +kernel
theorem dX6_parts_25 : decode cX6_parts 25 = .ok (.bipush 20, 2) := by decide +kernel
theorem dX6_parts_27 : decode cX6_parts 27 = .ok (.if_icmp .gt 43, 3) := by decide +kernel
theorem dX6_parts_30 : decode cX6_parts 30 = .ok (.lload_n 3, 1) := by decide +kernel
theorem dX6_parts_31 : decode cX6_parts 31 = .ok (.aload_n 0, 1) := by decide +kernel
theorem dX6_parts_32 : decode cX6_parts 32 = .ok (.getfield 45, 3) := by decide +kernel
theorem dX6_parts_35 : decode cX6_parts 35 = .ok (.lload_n 3, 1) := by decide +kernel
theorem dX6_parts_36 : decode cX6_parts 36 = .ok (.iload_n 1, 1) := by decide +kernel
theorem dX6_parts_37 : decode cX6_parts 37 = .ok (.iload 5, 2) := by decide +kernel
theorem dX6_parts_39 : decode cX6_parts 39 = .ok (.invokevirtual 178, 3) := by decide +kernel
theorem dX6_parts_42 : decode cX6_parts 42 = .ok (.invokestatic 182, 3) := by decide +kernel
theorem dX6_parts_45 : decode cX6_parts 45 = .ok (.istore 6, 2) := by decide +kernel
theorem dX6_parts_47 : decode cX6_parts 47 = .ok (.iload 6, 2) := by decide +kernel
theorem dX6_parts_49 : decode cX6_parts 49 = .ok (.bipush (-9), 2) := by decide +kernel
theorem dX6_parts_51 : decode cX6_parts 51 = .ok (.if_icmp .eq 13, 3) := by decide +kernel
theorem dX6_parts_54 : decode cX6_parts 54 = .ok (.aload_n 0, 1) := by decide +kernel
theorem dX6_parts_55 : decode cX6_parts 55 = .ok (.iload 6, 2) := by decide +kernel
theorem dX6_parts_57 : decode cX6_parts 57 = .ok (.invokevirtual 80, 3) := by decide +kernel
theorem dX6_parts_60 : decode cX6_parts 60 = .ok (.pop, 1) := by decide +kernel
theorem dX6_parts_61 : decode cX6_parts 61 = .ok (.iload 5, 2) := by decide +kernel
theorem dX6_parts_63 : decode cX6_parts 63 = .ok (.ireturn, 1) := by decide +kernel
theorem dX6_parts_64 : decode cX6_parts 64 = .ok (.iinc 5 1, 3) := by decide +kernel
theorem dX6_parts_67 : decode cX6_parts 67 = .ok (.goto (-44), 3) := by decide +kernel
theorem dX6_parts_70 : decode cX6_parts 70 = .ok (.bipush (-9), 2) := by decide +kernel
theorem dX6_parts_72 : decode cX6_parts 72 = .ok (.ireturn, 1) := by decide +kernel
theorem dX6_lawful_0 : decode cX6_lawful 0 = .ok (.aload_n 0, 1) := by decide +kernel
theorem dX6_lawful_1 : decode cX6_lawful 1 = .ok (.getfield 45, 3) := by decide +kernel
theorem dX6_lawful_4 : decode cX6_lawful 4 = .ok (.invokevirtual 218, 3) := by decide +kernel
theorem dX6_lawful_7 : decode cX6_lawful 7 = .ok (.ifCond .eq 8, 3) := by decide +kernel
theorem dX6_lawful_10 : decode cX6_lawful 10 = .ok (.bipush (-4), 2) := by decide +kernel
theorem dX6_lawful_12 : decode cX6_lawful 12 = .ok (.goto 17, 3) := by decide +kernel
theorem dX6_lawful_15 : decode cX6_lawful 15 = .ok (.aload_n 0, 1) := by decide +kernel
theorem dX6_lawful_16 : decode cX6_lawful 16 = .ok (.getfield 45, 3) := by decide +kernel
theorem dX6_lawful_19 : decode cX6_lawful 19 = .ok (.aload_n 0, 1) := by decide +kernel
theorem dX6_lawful_20 : decode cX6_lawful 20 = .ok (.getfield 31, 3) := by decide +kernel
theorem dX6_lawful_23 : decode cX6_lawful 23 = .ok (.invokevirtual 144, 3) := by decide +kernel
theorem dX6_lawful_26 : decode cX6_lawful 26 = .ok (.invokevirtual 250, 3) := by decide +kernel
theorem dX6_lawful_29 : decode cX6_lawful 29 = .ok (.ireturn, 1) := by decide +kernel
theorem dX6_least_0 : decode cX6_least 0 = .ok (.aload_n 0, 1) := by decide +kernel
theorem dX6_least_1 : decode cX6_least 1 = .ok (.getfield 45, 3) := by decide +kernel
theorem dX6_least_4 : decode cX6_least 4 = .ok (.iload_n 1, 1) := by decide +kernel
theorem dX6_least_5 : decode cX6_least 5 = .ok (.invokevirtual 253, 3) := by decide +kernel
theorem dX6_least_8 : decode cX6_least 8 = .ok (.ifCond .eq 14, 3) := by decide +kernel
theorem dX6_least_11 : decode cX6_least 11 = .ok (.aload_n 0, 1) := by decide +kernel
theorem dX6_least_12 : decode cX6_least 12 = .ok (.getfield 14, 3) := by decide +kernel
theorem dX6_least_15 : decode cX6_least 15 = .ok (.iload_n 2, 1) := by decide +kernel
theorem dX6_least_16 : decode cX6_least 16 = .ok (.invokevirtual 92, 3) := by decide +kernel
theorem dX6_least_19 : decode cX6_least 19 = .ok (.ifCond .ne 5, 3) := by decide +kernel
theorem dX6_least_22 : decode cX6_least 22 = .ok (.iconst (-1), 1) := by decide +kernel
theorem dX6_least_23 : decode cX6_least 23 = .ok (.ireturn, 1) := by decide +kernel
theorem dX6_least_24 : decode cX6_least 24 = .ok (.aload_n 0, 1) := by decide +kernel
theorem dX6_least_25 : decode cX6_least 25 = .ok (.getfield 45, 3) := by decide +kernel
theorem dX6_least_28 : decode cX6_least 28 = .ok (.iload_n 1, 1) := by decide +kernel
theorem dX6_least_29 : decode cX6_least 29 = .ok (.aload_n 0, 1) := by decide +kernel
theorem dX6_least_30 : decode cX6_least 30 = .ok (.getfield 31, 3) := by decide +kernel
theorem dX6_least_33 : decode cX6_least 33 = .ok (.invokevirtual 144, 3) := by decide +kernel
theorem dX6_least_36 : decode cX6_least 36 = .ok (.aload_n 0, 1) := by decide +kernel
theorem dX6_least_37 : decode cX6_least 37 = .ok (.getfield 35, 3) := by decide +kernel
theorem dX6_least_40 : decode cX6_least 40 = .ok (.invokestatic 256, 3) := by decide +kernel
theorem dX6_least_43 : decode cX6_least 43 = .ok (.istore_n 3, 1) := by decide +kernel
theorem dX6_least_44 : decode cX6_least 44 = .ok (.iload_n 3, 1) := by decide +kernel
theorem dX6_least_45 : decode cX6_least 45 = .ok (.bipush (-9), 2) := by decide +kernel
theorem dX6_least_47 : decode cX6_least 47 = .ok (.if_icmp .ne 6, 3) := by decide +kernel
theorem dX6_least_50 : decode cX6_least 50 = .ok (.bipush (-9), 2) := by decide +kernel
theorem dX6_least_52 : decode cX6_least 52 = .ok (.ireturn, 1) := by decide +kernel
theorem dX6_least_53 : decode cX6_least 53 = .ok (.aload_n 0, 1) := by decide +kernel
theorem dX6_least_54 : decode cX6_least 54 = .ok (.getfield 14, 3) := by decide +kernel
theorem dX6_least_57 : decode cX6_least 57 = .ok (.iload_n 2, 1) := by decide +kernel
theorem dX6_least_58 : decode cX6_least 58 = .ok (.iload_n 3, 1) := by decide +kernel
theorem dX6_least_59 : decode cX6_least 59 = .ok (.invokevirtual 262, 3) := by decide +kernel
theorem dX6_least_62 : decode cX6_least 62 = .ok (.iconst 0, 1) := by decide +kernel
theorem dX6_least_63 : decode cX6_least 63 = .ok (.istore 4, 2) := by decide +kernel
theorem dX6_least_65 : decode cX6_least 65 = .ok (.iload 4, 2) := by decide +kernel
theorem dX6_least_67 : decode cX6_least 67 = .ok (.iload_n 3, 1) := by decide +kernel
theorem dX6_least_68 : decode cX6_least 68 = .ok (.if_icmp .ge 36, 3) := by decide +kernel
theorem dX6_least_71 : decode cX6_least 71 = .ok (.iload 4, 2) := by decide +kernel
theorem dX6_least_73 : decode cX6_least 73 = .ok (.aload_n 0, 1) := by decide +kernel
theorem dX6_least_74 : decode cX6_least 74 = .ok (.getfield 35, 3) := by decide +kernel
theorem dX6_least_77 : decode cX6_least 77 = .ok (.arraylength, 1) := by decide +kernel
theorem dX6_least_78 : decode cX6_least 78 = .ok (.if_icmp .ge 26, 3) := by decide +kernel
theorem dX6_least_81 : decode cX6_least 81 = .ok (.aload_n 0, 1) := by decide +kernel
theorem dX6_least_82 : decode cX6_least 82 = .ok (.getfield 14, 3) := by decide +kernel
theorem dX6_least_85 : decode cX6_least 85 = .ok (.iload_n 2, 1) := by decide +kernel
theorem dX6_least_86 : decode cX6_least 86 = .ok (.iload 4, 2) := by decide +kernel
theorem dX6_least_88 : decode cX6_least 88 = .ok (.aload_n 0, 1) := by decide +kernel
theorem dX6_least_89 : decode cX6_least 89 = .ok (.getfield 35, 3) := by decide +kernel
theorem dX6_least_92 : decode cX6_least 92 = .ok (.iload 4, 2) := by decide +kernel
theorem dX6_least_94 : decode cX6_least 94 = .ok (.iaload, 1) := by decide +kernel
theorem dX6_least_95 : decode cX6_least 95 = .ok (.invokevirtual 77, 3) := by decide +kernel
theorem dX6_least_98 : decode cX6_least 98 = .ok (.iinc 4 1, 3) := by decide +kernel
theorem dX6_least_101 : decode cX6_least 101 = .ok (.goto (-36), 3) := by decide +kernel
theorem dX6_least_104 : decode cX6_least 104 = .ok (.iload_n 3, 1) := by decide +kernel
theorem dX6_least_105 : decode cX6_least 105 = .ok (.ireturn, 1) := by decide +kernel
theorem dX6_fall_0 : decode cX6_fall 0 = .ok (.aload_n 0, 1) := by decide +kernel
theorem dX6_fall_1 : decode cX6_fall 1 = .ok (.getfield 45, 3) := by decide +kernel
theorem dX6_fall_4 : decode cX6_fall 4 = .ok (.invokevirtual 218, 3) := by decide +kernel
theorem dX6_fall_7 : decode cX6_fall 7 = .ok (.ifCond .eq 6, 3) := by decide +kernel
theorem dX6_fall_10 : decode cX6_fall 10 = .ok (.bipush (-4), 2) := by decide +kernel
theorem dX6_fall_12 : decode cX6_fall 12 = .ok (.ireturn, 1) := by decide +kernel
theorem dX6_fall_13 : decode cX6_fall 13 = .ok (.bipush (-9), 2) := by decide +kernel
theorem dX6_fall_15 : decode cX6_fall 15 = .ok (.istore_n 1, 1) := by decide +kernel
theorem dX6_fall_16 : decode cX6_fall 16 = .ok (.iconst 0, 1) := by decide +kernel
theorem dX6_fall_17 : decode cX6_fall 17 = .ok (.istore_n 2, 1) := by decide +kernel
theorem dX6_fall_18 : decode cX6_fall 18 = .ok (.iload_n 2, 1) := by decide +kernel
theorem dX6_fall_19 : decode cX6_fall 19 = .ok (.bipush 64, 2) := by decide +kernel
theorem dX6_fall_21 : decode cX6_fall 21 = .ok (.if_icmp .ge 67, 3) := by decide +kernel
theorem dX6_fall_24 : decode cX6_fall 24 = .ok (.iload_n 1, 1) := by decide +kernel
theorem dX6_fall_25 : decode cX6_fall 25 = .ok (.bipush (-9), 2) := by decide +kernel
theorem dX6_fall_27 : decode cX6_fall 27 = .ok (.if_icmp .eq 14, 3) := by decide +kernel
theorem dX6_fall_30 : decode cX6_fall 30 = .ok (.iload_n 2, 1) := by decide +kernel
theorem dX6_fall_31 : decode cX6_fall 31 = .ok (.invokestatic 170, 3) := by decide +kernel
theorem dX6_fall_34 : decode cX6_fall 34 = .ok (.iload_n 1, 1) := by decide +kernel
theorem dX6_fall_35 : decode cX6_fall 35 = .ok (.invokestatic 170, 3) := by decide +kernel
theorem dX6_fall_38 : decode cX6_fall 38 = .ok (.if_icmp .ge 7, 3) := by decide +kernel
theorem dX6_fall_41 : decode cX6_fall 41 = .ok (.iconst 1, 1) := by decide +kernel
theorem dX6_fall_42 : decode cX6_fall 42 = .ok (.goto 4, 3) := by decide +kernel
theorem dX6_fall_45 : decode cX6_fall 45 = .ok (.iconst 0, 1) := by decide +kernel
theorem dX6_fall_46 : decode cX6_fall 46 = .ok (.istore_n 3, 1) := by decide +kernel
theorem dX6_fall_47 : decode cX6_fall 47 = .ok (.iload_n 3, 1) := by decide +kernel
theorem dX6_fall_48 : decode cX6_fall 48 = .ok (.ifCond .eq 34, 3) := by decide +kernel
theorem dX6_fall_51 : decode cX6_fall 51 = .ok (.aload_n 0, 1) := by decide +kernel
theorem dX6_fall_52 : decode cX6_fall 52 = .ok (.iload_n 2, 1) := by decide +kernel
theorem dX6_fall_53 : decode cX6_fall 53 = .ok (.invokevirtual 266, 3) := by decide +kernel
theorem dX6_fall_56 : decode cX6_fall 56 = .ok (.ifCond .eq 26, 3) := by decide +kernel
theorem dX6_fall_59 : decode cX6_fall 59 = .ok (.aload_n 0, 1) := by decide +kernel
theorem dX6_fall_60 : decode cX6_fall 60 = .ok (.getfield 45, 3) := by decide +kernel
theorem dX6_fall_63 : decode cX6_fall 63 = .ok (.aload_n 0, 1) := by decide +kernel
theorem dX6_fall_64 : decode cX6_fall 64 = .ok (.getfield 31, 3) := by decide +kernel
theorem dX6_fall_67 : decode cX6_fall 67 = .ok (.invokevirtual 144, 3) := by decide +kernel
theorem dX6_fall_70 : decode cX6_fall 70 = .ok (.iload_n 2, 1) := by decide +kernel
theorem dX6_fall_71 : decode cX6_fall 71 = .ok (.invokestatic 209, 3) := by decide +kernel
theorem dX6_fall_74 : decode cX6_fall 74 = .ok (.invokevirtual 250, 3) := by decide +kernel
theorem dX6_fall_77 : decode cX6_fall 77 = .ok (.ifCond .ne 5, 3) := by decide +kernel
theorem dX6_fall_80 : decode cX6_fall 80 = .ok (.iload_n 2, 1) := by decide +kernel
theorem dX6_fall_81 : decode cX6_fall 81 = .ok (.istore_n 1, 1) := by decide +kernel
theorem dX6_fall_82 : decode cX6_fall 82 = .ok (.iinc 2 1, 3) := by decide +kernel
theorem dX6_fall_85 : decode cX6_fall 85 = .ok (.goto (-67), 3) := by decide +kernel
theorem dX6_fall_88 : decode cX6_fall 88 = .ok (.iload_n 1, 1) := by decide +kernel
theorem dX6_fall_89 : decode cX6_fall 89 = .ok (.bipush (-9), 2) := by decide +kernel
theorem dX6_fall_91 : decode cX6_fall 91 = .ok (.if_icmp .ne 6, 3) := by decide +kernel
theorem dX6_fall_94 : decode cX6_fall 94 = .ok (.bipush (-9), 2) := by decide +kernel
theorem dX6_fall_96 : decode cX6_fall 96 = .ok (.ireturn, 1) := by decide +kernel
theorem dX6_fall_97 : decode cX6_fall 97 = .ok (.aload_n 0, 1) := by decide +kernel
theorem dX6_fall_98 : decode cX6_fall 98 = .ok (.iload_n 1, 1) := by decide +kernel
theorem dX6_fall_99 : decode cX6_fall 99 = .ok (.invokevirtual 80, 3) := by decide +kernel
theorem dX6_fall_102 : decode cX6_fall 102 = .ok (.pop, 1) := by decide +kernel
theorem dX6_fall_103 : decode cX6_fall 103 = .ok (.iload_n 1, 1) := by decide +kernel
theorem dX6_fall_104 : decode cX6_fall 104 = .ok (.invokestatic 170, 3) := by decide +kernel
theorem dX6_fall_107 : decode cX6_fall 107 = .ok (.ireturn, 1) := by decide +kernel
theorem dX6_idle_0 : decode cX6_idle 0 = .ok (.aload_n 0, 1) := by decide +kernel
theorem dX6_idle_1 : decode cX6_idle 1 = .ok (.getfield 45, 3) := by decide +kernel
theorem dX6_idle_4 : decode cX6_idle 4 = .ok (.invokevirtual 218, 3) := by decide +kernel
theorem dX6_idle_7 : decode cX6_idle 7 = .ok (.ifCond .eq 6, 3) := by decide +kernel
theorem dX6_idle_10 : decode cX6_idle 10 = .ok (.bipush (-4), 2) := by decide +kernel
theorem dX6_idle_12 : decode cX6_idle 12 = .ok (.ireturn, 1) := by decide +kernel
theorem dX6_idle_13 : decode cX6_idle 13 = .ok (.aload_n 0, 1) := by decide +kernel
theorem dX6_idle_14 : decode cX6_idle 14 = .ok (.getfield 31, 3) := by decide +kernel
theorem dX6_idle_17 : decode cX6_idle 17 = .ok (.invokevirtual 144, 3) := by decide +kernel
theorem dX6_idle_20 : decode cX6_idle 20 = .ok (.lstore_n 1, 1) := by decide +kernel
theorem dX6_idle_21 : decode cX6_idle 21 = .ok (.iconst 0, 1) := by decide +kernel
theorem dX6_idle_22 : decode cX6_idle 22 = .ok (.istore_n 3, 1) := by decide +kernel
theorem dX6_idle_23 : decode cX6_idle 23 = .ok (.iconst 0, 1) := by decide +kernel
theorem dX6_idle_24 : decode cX6_idle 24 = .ok (.istore 4, 2) := by decide +kernel
theorem dX6_idle_26 : decode cX6_idle 26 = .ok (.iload 4, 2) := by decide +kernel
theorem dX6_idle_28 : decode cX6_idle 28 = .ok (.aload_n 0, 1) := by decide +kernel
theorem dX6_idle_29 : decode cX6_idle 29 = .ok (.getfield 45, 3) := by decide +kernel
theorem dX6_idle_32 : decode cX6_idle 32 = .ok (.getfield 128, 3) := by decide +kernel
theorem dX6_idle_35 : decode cX6_idle 35 = .ok (.if_icmp .ge 53, 3) := by decide +kernel
theorem dX6_idle_38 : decode cX6_idle 38 = .ok (.iconst 1, 1) := by decide +kernel
theorem dX6_idle_39 : decode cX6_idle 39 = .ok (.iload 4, 2) := by decide +kernel
theorem dX6_idle_41 : decode cX6_idle 41 = .ok (.ishl, 1) := by decide +kernel
theorem dX6_idle_42 : decode cX6_idle 42 = .ok (.istore 5, 2) := by decide +kernel
theorem dX6_idle_44 : decode cX6_idle 44 = .ok (.aload_n 0, 1) := by decide +kernel
theorem dX6_idle_45 : decode cX6_idle 45 = .ok (.iload 5, 2) := by decide +kernel
theorem dX6_idle_47 : decode cX6_idle 47 = .ok (.invokevirtual 266, 3) := by decide +kernel
theorem dX6_idle_50 : decode cX6_idle 50 = .ok (.ifCond .eq 32, 3) := by decide +kernel
theorem dX6_idle_53 : decode cX6_idle 53 = .ok (.aload_n 0, 1) := by decide +kernel
theorem dX6_idle_54 : decode cX6_idle 54 = .ok (.getfield 45, 3) := by decide +kernel
theorem dX6_idle_57 : decode cX6_idle 57 = .ok (.lload_n 1, 1) := by decide +kernel
theorem dX6_idle_58 : decode cX6_idle 58 = .ok (.iload 5, 2) := by decide +kernel
theorem dX6_idle_60 : decode cX6_idle 60 = .ok (.invokestatic 209, 3) := by decide +kernel
theorem dX6_idle_63 : decode cX6_idle 63 = .ok (.invokevirtual 250, 3) := by decide +kernel
theorem dX6_idle_66 : decode cX6_idle 66 = .ok (.aload_n 0, 1) := by decide +kernel
theorem dX6_idle_67 : decode cX6_idle 67 = .ok (.getfield 45, 3) := by decide +kernel
theorem dX6_idle_70 : decode cX6_idle 70 = .ok (.lload_n 1, 1) := by decide +kernel
theorem dX6_idle_71 : decode cX6_idle 71 = .ok (.invokevirtual 250, 3) := by decide +kernel
theorem dX6_idle_74 : decode cX6_idle 74 = .ok (.if_icmp .ne 8, 3) := by decide +kernel
theorem dX6_idle_77 : decode cX6_idle 77 = .ok (.iload_n 3, 1) := by decide +kernel
theorem dX6_idle_78 : decode cX6_idle 78 = .ok (.iload 5, 2) := by decide +kernel
theorem dX6_idle_80 : decode cX6_idle 80 = .ok (.ior, 1) := by decide +kernel
theorem dX6_idle_81 : decode cX6_idle 81 = .ok (.istore_n 3, 1) := by decide +kernel
theorem dX6_idle_82 : decode cX6_idle 82 = .ok (.iinc 4 1, 3) := by decide +kernel
theorem dX6_idle_85 : decode cX6_idle 85 = .ok (.goto (-59), 3) := by decide +kernel
theorem dX6_idle_88 : decode cX6_idle 88 = .ok (.iload_n 3, 1) := by decide +kernel
theorem dX6_idle_89 : decode cX6_idle 89 = .ok (.ireturn, 1) := by decide +kernel
theorem dX6_share_0 : decode cX6_share 0 = .ok (.iload_n 1, 1) := by decide +kernel
theorem dX6_share_1 : decode cX6_share 1 = .ok (.ifCond .lt 20, 3) := by decide +kernel
theorem dX6_share_4 : decode cX6_share 4 = .ok (.iload_n 1, 1) := by decide +kernel
theorem dX6_share_5 : decode cX6_share 5 = .ok (.bipush 60, 2) := by decide +kernel
theorem dX6_share_7 : decode cX6_share 7 = .ok (.if_icmp .gt 14, 3) := by decide +kernel
theorem dX6_share_10 : decode cX6_share 10 = .ok (.aload_n 0, 1) := by decide +kernel
theorem dX6_share_11 : decode cX6_share 11 = .ok (.getfield 14, 3) := by decide +kernel
theorem dX6_share_14 : decode cX6_share 14 = .ok (.iload_n 2, 1) := by decide +kernel
theorem dX6_share_15 : decode cX6_share 15 = .ok (.invokevirtual 92, 3) := by decide +kernel
theorem dX6_share_18 : decode cX6_share 18 = .ok (.ifCond .ne 5, 3) := by decide +kernel
theorem dX6_share_21 : decode cX6_share 21 = .ok (.iconst (-1), 1) := by decide +kernel
theorem dX6_share_22 : decode cX6_share 22 = .ok (.ireturn, 1) := by decide +kernel
theorem dX6_share_23 : decode cX6_share 23 = .ok (.aload_n 0, 1) := by decide +kernel
theorem dX6_share_24 : decode cX6_share 24 = .ok (.getfield 45, 3) := by decide +kernel
theorem dX6_share_27 : decode cX6_share 27 = .ok (.invokevirtual 218, 3) := by decide +kernel
theorem dX6_share_30 : decode cX6_share 30 = .ok (.ifCond .eq 6, 3) := by decide +kernel
theorem dX6_share_33 : decode cX6_share 33 = .ok (.bipush (-4), 2) := by decide +kernel
theorem dX6_share_35 : decode cX6_share 35 = .ok (.ireturn, 1) := by decide +kernel
theorem dX6_share_36 : decode cX6_share 36 = .ok (.aload_n 0, 1) := by decide +kernel
theorem dX6_share_37 : decode cX6_share 37 = .ok (.getfield 14, 3) := by decide +kernel
theorem dX6_share_40 : decode cX6_share 40 = .ok (.iload_n 2, 1) := by decide +kernel
theorem dX6_share_41 : decode cX6_share 41 = .ok (.aload_n 0, 1) := by decide +kernel
theorem dX6_share_42 : decode cX6_share 42 = .ok (.getfield 45, 3) := by decide +kernel
theorem dX6_share_45 : decode cX6_share 45 = .ok (.getfield 128, 3) := by decide +kernel
theorem dX6_share_48 : decode cX6_share 48 = .ok (.invokevirtual 262, 3) := by decide +kernel
theorem dX6_share_51 : decode cX6_share 51 = .ok (.iconst 0, 1) := by decide +kernel
theorem dX6_share_52 : decode cX6_share 52 = .ok (.istore_n 3, 1) := by decide +kernel
theorem dX6_share_53 : decode cX6_share 53 = .ok (.iload_n 3, 1) := by decide +kernel
theorem dX6_share_54 : decode cX6_share 54 = .ok (.iload_n 1, 1) := by decide +kernel
theorem dX6_share_55 : decode cX6_share 55 = .ok (.if_icmp .ge 49, 3) := by decide +kernel
theorem dX6_share_58 : decode cX6_share 58 = .ok (.aload_n 0, 1) := by decide +kernel
theorem dX6_share_59 : decode cX6_share 59 = .ok (.iload_n 2, 1) := by decide +kernel
theorem dX6_share_60 : decode cX6_share 60 = .ok (.invokevirtual 269, 3) := by decide +kernel
theorem dX6_share_63 : decode cX6_share 63 = .ok (.istore 4, 2) := by decide +kernel
theorem dX6_share_65 : decode cX6_share 65 = .ok (.iload 4, 2) := by decide +kernel
theorem dX6_share_67 : decode cX6_share 67 = .ok (.bipush (-9), 2) := by decide +kernel
theorem dX6_share_69 : decode cX6_share 69 = .ok (.if_icmp .ne 7, 3) := by decide +kernel
theorem dX6_share_72 : decode cX6_share 72 = .ok (.iload_n 1, 1) := by decide +kernel
theorem dX6_share_73 : decode cX6_share 73 = .ok (.iload_n 3, 1) := by decide +kernel
theorem dX6_share_74 : decode cX6_share 74 = .ok (.isub, 1) := by decide +kernel
theorem dX6_share_75 : decode cX6_share 75 = .ok (.ireturn, 1) := by decide +kernel
theorem dX6_share_76 : decode cX6_share 76 = .ok (.aload_n 0, 1) := by decide +kernel
theorem dX6_share_77 : decode cX6_share 77 = .ok (.getfield 14, 3) := by decide +kernel
theorem dX6_share_80 : decode cX6_share 80 = .ok (.iload_n 2, 1) := by decide +kernel
theorem dX6_share_81 : decode cX6_share 81 = .ok (.iload 4, 2) := by decide +kernel
theorem dX6_share_83 : decode cX6_share 83 = .ok (.aload_n 0, 1) := by decide +kernel
theorem dX6_share_84 : decode cX6_share 84 = .ok (.getfield 14, 3) := by decide +kernel
theorem dX6_share_87 : decode cX6_share 87 = .ok (.iload_n 2, 1) := by decide +kernel
theorem dX6_share_88 : decode cX6_share 88 = .ok (.iload 4, 2) := by decide +kernel
theorem dX6_share_90 : decode cX6_share 90 = .ok (.invokevirtual 73, 3) := by decide +kernel
theorem dX6_share_93 : decode cX6_share 93 = .ok (.iconst 1, 1) := by decide +kernel
theorem dX6_share_94 : decode cX6_share 94 = .ok (.iadd, 1) := by decide +kernel
theorem dX6_share_95 : decode cX6_share 95 = .ok (.invokevirtual 77, 3) := by decide +kernel
theorem dX6_share_98 : decode cX6_share 98 = .ok (.iinc 3 1, 3) := by decide +kernel
theorem dX6_share_101 : decode cX6_share 101 = .ok (.goto (-48), 3) := by decide +kernel
theorem dX6_share_104 : decode cX6_share 104 = .ok (.iconst 0, 1) := by decide +kernel
theorem dX6_share_105 : decode cX6_share 105 = .ok (.ireturn, 1) := by decide +kernel
theorem dX6_who_0 : decode cX6_who 0 = .ok (.aload_n 0, 1) := by decide +kernel
theorem dX6_who_1 : decode cX6_who 1 = .ok (.iload_n 1, 1) := by decide +kernel
theorem dX6_who_2 : decode cX6_who 2 = .ok (.invokevirtual 272, 3) := by decide +kernel
theorem dX6_who_5 : decode cX6_who 5 = .ok (.istore_n 2, 1) := by decide +kernel
theorem dX6_who_6 : decode cX6_who 6 = .ok (.iload_n 2, 1) := by decide +kernel
theorem dX6_who_7 : decode cX6_who 7 = .ok (.ifCond .eq 5, 3) := by decide +kernel
theorem dX6_who_10 : decode cX6_who 10 = .ok (.iload_n 2, 1) := by decide +kernel
theorem dX6_who_11 : decode cX6_who 11 = .ok (.ireturn, 1) := by decide +kernel
theorem dX6_who_12 : decode cX6_who 12 = .ok (.aload_n 0, 1) := by decide +kernel
theorem dX6_who_13 : decode cX6_who 13 = .ok (.iload_n 1, 1) := by decide +kernel
theorem dX6_who_14 : decode cX6_who 14 = .ok (.invokevirtual 275, 3) := by decide +kernel
theorem dX6_who_17 : decode cX6_who 17 = .ok (.istore_n 3, 1) := by decide +kernel
theorem dX6_who_18 : decode cX6_who 18 = .ok (.iconst 0, 1) := by decide +kernel
theorem dX6_who_19 : decode cX6_who 19 = .ok (.istore 4, 2) := by decide +kernel
theorem dX6_who_21 : decode cX6_who 21 = .ok (.iconst 0, 1) := by decide +kernel
theorem dX6_who_22 : decode cX6_who 22 = .ok (.istore 5, 2) := by decide +kernel
theorem dX6_who_24 : decode cX6_who 24 = .ok (.iload 5, 2) := by decide +kernel
theorem dX6_who_26 : decode cX6_who 26 = .ok (.aload_n 0, 1) := by decide +kernel
theorem dX6_who_27 : decode cX6_who 27 = .ok (.getfield 45, 3) := by decide +kernel
theorem dX6_who_30 : decode cX6_who 30 = .ok (.getfield 128, 3) := by decide +kernel
theorem dX6_who_33 : decode cX6_who 33 = .ok (.if_icmp .ge 34, 3) := by decide +kernel
theorem dX6_who_36 : decode cX6_who 36 = .ok (.iload_n 3, 1) := by decide +kernel
theorem dX6_who_37 : decode cX6_who 37 = .ok (.aload_n 0, 1) := by decide +kernel
theorem dX6_who_38 : decode cX6_who 38 = .ok (.getfield 45, 3) := by decide +kernel
theorem dX6_who_41 : decode cX6_who 41 = .ok (.iload 5, 2) := by decide +kernel
theorem dX6_who_43 : decode cX6_who 43 = .ok (.invokevirtual 137, 3) := by decide +kernel
theorem dX6_who_46 : decode cX6_who 46 = .ok (.ishr, 1) := by decide +kernel
theorem dX6_who_47 : decode cX6_who 47 = .ok (.iconst 1, 1) := by decide +kernel
theorem dX6_who_48 : decode cX6_who 48 = .ok (.iand, 1) := by decide +kernel
theorem dX6_who_49 : decode cX6_who 49 = .ok (.ifCond .eq 12, 3) := by decide +kernel
theorem dX6_who_52 : decode cX6_who 52 = .ok (.iload 4, 2) := by decide +kernel
theorem dX6_who_54 : decode cX6_who 54 = .ok (.iconst 1, 1) := by decide +kernel
theorem dX6_who_55 : decode cX6_who 55 = .ok (.iload 5, 2) := by decide +kernel
theorem dX6_who_57 : decode cX6_who 57 = .ok (.ishl, 1) := by decide +kernel
theorem dX6_who_58 : decode cX6_who 58 = .ok (.ior, 1) := by decide +kernel
theorem dX6_who_59 : decode cX6_who 59 = .ok (.istore 4, 2) := by decide +kernel
theorem dX6_who_61 : decode cX6_who 61 = .ok (.iinc 5 1, 3) := by decide +kernel
theorem dX6_who_64 : decode cX6_who 64 = .ok (.goto (-40), 3) := by decide +kernel
theorem dX6_who_67 : decode cX6_who 67 = .ok (.iload 4, 2) := by decide +kernel
theorem dX6_who_69 : decode cX6_who 69 = .ok (.ireturn, 1) := by decide +kernel
theorem dX6_kinds_0 : decode cX6_kinds 0 = .ok (.aload_n 0, 1) := by decide +kernel
theorem dX6_kinds_1 : decode cX6_kinds 1 = .ok (.iload_n 1, 1) := by decide +kernel
theorem dX6_kinds_2 : decode cX6_kinds 2 = .ok (.invokevirtual 272, 3) := by decide +kernel
theorem dX6_kinds_5 : decode cX6_kinds 5 = .ok (.istore_n 2, 1) := by decide +kernel
theorem dX6_kinds_6 : decode cX6_kinds 6 = .ok (.iload_n 2, 1) := by decide +kernel
theorem dX6_kinds_7 : decode cX6_kinds 7 = .ok (.ifCond .eq 7, 3) := by decide +kernel
theorem dX6_kinds_10 : decode cX6_kinds 10 = .ok (.iload_n 2, 1) := by decide +kernel
theorem dX6_kinds_11 : decode cX6_kinds 11 = .ok (.goto 8, 3) := by decide +kernel
theorem dX6_kinds_14 : decode cX6_kinds 14 = .ok (.aload_n 0, 1) := by decide +kernel
theorem dX6_kinds_15 : decode cX6_kinds 15 = .ok (.iload_n 1, 1) := by decide +kernel
theorem dX6_kinds_16 : decode cX6_kinds 16 = .ok (.invokevirtual 275, 3) := by decide +kernel
theorem dX6_kinds_19 : decode cX6_kinds 19 = .ok (.ireturn, 1) := by decide +kernel
theorem dX6_test_0 : decode cX6_test 0 = .ok (.aload_n 0, 1) := by decide +kernel
theorem dX6_test_1 : decode cX6_test 1 = .ok (.iload_n 1, 1) := by decide +kernel
theorem dX6_test_2 : decode cX6_test 2 = .ok (.invokevirtual 272, 3) := by decide +kernel
theorem dX6_test_5 : decode cX6_test 5 = .ok (.istore_n 2, 1) := by decide +kernel
theorem dX6_test_6 : decode cX6_test 6 = .ok (.iload_n 2, 1) := by decide +kernel
theorem dX6_test_7 : decode cX6_test 7 = .ok (.ifCond .eq 5, 3) := by decide +kernel
theorem dX6_test_10 : decode cX6_test 10 = .ok (.iload_n 2, 1) := by decide +kernel
theorem dX6_test_11 : decode cX6_test 11 = .ok (.ireturn, 1) := by decide +kernel
theorem dX6_test_12 : decode cX6_test 12 = .ok (.aload_n 0, 1) := by decide +kernel
theorem dX6_test_13 : decode cX6_test 13 = .ok (.iload_n 1, 1) := by decide +kernel
theorem dX6_test_14 : decode cX6_test 14 = .ok (.invokevirtual 275, 3) := by decide +kernel
theorem dX6_test_17 : decode cX6_test 17 = .ok (.istore_n 3, 1) := by decide +kernel
theorem dX6_test_18 : decode cX6_test 18 = .ok (.iload_n 3, 1) := by decide +kernel
theorem dX6_test_19 : decode cX6_test 19 = .ok (.ifCond .ne 6, 3) := by decide +kernel
theorem dX6_test_22 : decode cX6_test 22 = .ok (.bipush (-9), 2) := by decide +kernel
theorem dX6_test_24 : decode cX6_test 24 = .ok (.ireturn, 1) := by decide +kernel
theorem dX6_test_25 : decode cX6_test 25 = .ok (.iconst 0, 1) := by decide +kernel
theorem dX6_test_26 : decode cX6_test 26 = .ok (.istore 4, 2) := by decide +kernel
theorem dX6_test_28 : decode cX6_test 28 = .ok (.iconst 1, 1) := by decide +kernel
theorem dX6_test_29 : decode cX6_test 29 = .ok (.istore 5, 2) := by decide +kernel
theorem dX6_test_31 : decode cX6_test 31 = .ok (.iload 5, 2) := by decide +kernel
theorem dX6_test_33 : decode cX6_test 33 = .ok (.bipush 20, 2) := by decide +kernel
theorem dX6_test_35 : decode cX6_test 35 = .ok (.if_icmp .gt 28, 3) := by decide +kernel
theorem dX6_test_38 : decode cX6_test 38 = .ok (.iload_n 3, 1) := by decide +kernel
theorem dX6_test_39 : decode cX6_test 39 = .ok (.iload 5, 2) := by decide +kernel
theorem dX6_test_41 : decode cX6_test 41 = .ok (.invokestatic 278, 3) := by decide +kernel
theorem dX6_test_44 : decode cX6_test 44 = .ok (.iload_n 3, 1) := by decide +kernel
theorem dX6_test_45 : decode cX6_test 45 = .ok (.iload 4, 2) := by decide +kernel
theorem dX6_test_47 : decode cX6_test 47 = .ok (.invokestatic 278, 3) := by decide +kernel
theorem dX6_test_50 : decode cX6_test 50 = .ok (.if_icmp .ge 7, 3) := by decide +kernel
theorem dX6_test_53 : decode cX6_test 53 = .ok (.iload 5, 2) := by decide +kernel
theorem dX6_test_55 : decode cX6_test 55 = .ok (.istore 4, 2) := by decide +kernel
theorem dX6_test_57 : decode cX6_test 57 = .ok (.iinc 5 1, 3) := by decide +kernel
theorem dX6_test_60 : decode cX6_test 60 = .ok (.goto (-29), 3) := by decide +kernel
theorem dX6_test_63 : decode cX6_test 63 = .ok (.aload_n 0, 1) := by decide +kernel
theorem dX6_test_64 : decode cX6_test 64 = .ok (.iload_n 3, 1) := by decide +kernel
theorem dX6_test_65 : decode cX6_test 65 = .ok (.iload 4, 2) := by decide +kernel
theorem dX6_test_67 : decode cX6_test 67 = .ok (.invokestatic 278, 3) := by decide +kernel
theorem dX6_test_70 : decode cX6_test 70 = .ok (.invokevirtual 80, 3) := by decide +kernel
theorem dX6_test_73 : decode cX6_test 73 = .ok (.pop, 1) := by decide +kernel
theorem dX6_test_74 : decode cX6_test 74 = .ok (.iload 4, 2) := by decide +kernel
theorem dX6_test_76 : decode cX6_test 76 = .ok (.ireturn, 1) := by decide +kernel
theorem dX6_duel_0 : decode cX6_duel 0 = .ok (.iload_n 1, 1) := by decide +kernel
theorem dX6_duel_1 : decode cX6_duel 1 = .ok (.ifCond .lt 8, 3) := by decide +kernel
theorem dX6_duel_4 : decode cX6_duel 4 = .ok (.iload_n 1, 1) := by decide +kernel
theorem dX6_duel_5 : decode cX6_duel 5 = .ok (.iconst 3, 1) := by decide +kernel
theorem dX6_duel_6 : decode cX6_duel 6 = .ok (.if_icmp .le 5, 3) := by decide +kernel
theorem dX6_duel_9 : decode cX6_duel 9 = .ok (.iconst (-1), 1) := by decide +kernel
theorem dX6_duel_10 : decode cX6_duel 10 = .ok (.ireturn, 1) := by decide +kernel
theorem dX6_duel_11 : decode cX6_duel 11 = .ok (.aload_n 0, 1) := by decide +kernel
theorem dX6_duel_12 : decode cX6_duel 12 = .ok (.getfield 45, 3) := by decide +kernel
theorem dX6_duel_15 : decode cX6_duel 15 = .ok (.invokevirtual 218, 3) := by decide +kernel
theorem dX6_duel_18 : decode cX6_duel 18 = .ok (.ifCond .eq 6, 3) := by decide +kernel
theorem dX6_duel_21 : decode cX6_duel 21 = .ok (.bipush (-4), 2) := by decide +kernel
theorem dX6_duel_23 : decode cX6_duel 23 = .ok (.ireturn, 1) := by decide +kernel
theorem dX6_duel_24 : decode cX6_duel 24 = .ok (.aload_n 0, 1) := by decide +kernel
theorem dX6_duel_25 : decode cX6_duel 25 = .ok (.aload_n 0, 1) := by decide +kernel
theorem dX6_duel_26 : decode cX6_duel 26 = .ok (.getfield 45, 3) := by decide +kernel
theorem dX6_duel_29 : decode cX6_duel 29 = .ok (.aload_n 0, 1) := by decide +kernel
theorem dX6_duel_30 : decode cX6_duel 30 = .ok (.getfield 31, 3) := by decide +kernel
theorem dX6_duel_33 : decode cX6_duel 33 = .ok (.invokevirtual 144, 3) := by decide +kernel
theorem dX6_duel_36 : decode cX6_duel 36 = .ok (.iconst 2, 1) := by decide +kernel
theorem dX6_duel_37 : decode cX6_duel 37 = .ok (.iload_n 1, 1) := by decide +kernel
theorem dX6_duel_38 : decode cX6_duel 38 = .ok (.imul, 1) := by decide +kernel
theorem dX6_duel_39 : decode cX6_duel 39 = .ok (.invokestatic 281, 3) := by decide +kernel
theorem dX6_duel_42 : decode cX6_duel 42 = .ok (.invokevirtual 80, 3) := by decide +kernel
theorem dX6_duel_45 : decode cX6_duel 45 = .ok (.ireturn, 1) := by decide +kernel
theorem dX6_odds_0 : decode cX6_odds 0 = .ok (.aload_n 0, 1) := by decide +kernel
theorem dX6_odds_1 : decode cX6_odds 1 = .ok (.getfield 45, 3) := by decide +kernel
theorem dX6_odds_4 : decode cX6_odds 4 = .ok (.iload_n 1, 1) := by decide +kernel
theorem dX6_odds_5 : decode cX6_odds 5 = .ok (.invokevirtual 253, 3) := by decide +kernel
theorem dX6_odds_8 : decode cX6_odds 8 = .ok (.ifCond .eq 13, 3) := by decide +kernel
theorem dX6_odds_11 : decode cX6_odds 11 = .ok (.iload_n 2, 1) := by decide +kernel
theorem dX6_odds_12 : decode cX6_odds 12 = .ok (.ifCond .lt 9, 3) := by decide +kernel
theorem dX6_odds_15 : decode cX6_odds 15 = .ok (.iload_n 2, 1) := by decide +kernel
theorem dX6_odds_16 : decode cX6_odds 16 = .ok (.bipush 12, 2) := by decide +kernel
theorem dX6_odds_18 : decode cX6_odds 18 = .ok (.if_icmp .le 5, 3) := by decide +kernel
theorem dX6_odds_21 : decode cX6_odds 21 = .ok (.iconst (-1), 1) := by decide +kernel
theorem dX6_odds_22 : decode cX6_odds 22 = .ok (.ireturn, 1) := by decide +kernel
theorem dX6_odds_23 : decode cX6_odds 23 = .ok (.aload_n 0, 1) := by decide +kernel
theorem dX6_odds_24 : decode cX6_odds 24 = .ok (.iconst 1, 1) := by decide +kernel
theorem dX6_odds_25 : decode cX6_odds 25 = .ok (.iload_n 1, 1) := by decide +kernel
theorem dX6_odds_26 : decode cX6_odds 26 = .ok (.ishl, 1) := by decide +kernel
theorem dX6_odds_27 : decode cX6_odds 27 = .ok (.iload_n 2, 1) := by decide +kernel
theorem dX6_odds_28 : decode cX6_odds 28 = .ok (.invokevirtual 285, 3) := by decide +kernel
theorem dX6_odds_31 : decode cX6_odds 31 = .ok (.ireturn, 1) := by decide +kernel
theorem dX6_mid_0 : decode cX6_mid 0 = .ok (.iload_n 1, 1) := by decide +kernel
theorem dX6_mid_1 : decode cX6_mid 1 = .ok (.ifCond .lt 9, 3) := by decide +kernel
theorem dX6_mid_4 : decode cX6_mid 4 = .ok (.iload_n 1, 1) := by decide +kernel
theorem dX6_mid_5 : decode cX6_mid 5 = .ok (.bipush 12, 2) := by decide +kernel
theorem dX6_mid_7 : decode cX6_mid 7 = .ok (.if_icmp .le 5, 3) := by decide +kernel
theorem dX6_mid_10 : decode cX6_mid 10 = .ok (.iconst (-1), 1) := by decide +kernel
theorem dX6_mid_11 : decode cX6_mid 11 = .ok (.ireturn, 1) := by decide +kernel
theorem dX6_mid_12 : decode cX6_mid 12 = .ok (.aload_n 0, 1) := by decide +kernel
theorem dX6_mid_13 : decode cX6_mid 13 = .ok (.getfield 45, 3) := by decide +kernel
theorem dX6_mid_16 : decode cX6_mid 16 = .ok (.invokevirtual 218, 3) := by decide +kernel
theorem dX6_mid_19 : decode cX6_mid 19 = .ok (.ifCond .eq 6, 3) := by decide +kernel
theorem dX6_mid_22 : decode cX6_mid 22 = .ok (.bipush (-4), 2) := by decide +kernel
theorem dX6_mid_24 : decode cX6_mid 24 = .ok (.ireturn, 1) := by decide +kernel
theorem dX6_mid_25 : decode cX6_mid 25 = .ok (.aload_n 0, 1) := by decide +kernel
theorem dX6_mid_26 : decode cX6_mid 26 = .ok (.bipush 15, 2) := by decide +kernel
theorem dX6_mid_28 : decode cX6_mid 28 = .ok (.iload_n 1, 1) := by decide +kernel
theorem dX6_mid_29 : decode cX6_mid 29 = .ok (.invokevirtual 285, 3) := by decide +kernel
theorem dX6_mid_32 : decode cX6_mid 32 = .ok (.ireturn, 1) := by decide +kernel
theorem dX6_lots_0 : decode cX6_lots 0 = .ok (.iload_n 1, 1) := by decide +kernel
theorem dX6_lots_1 : decode cX6_lots 1 = .ok (.iconst 1, 1) := by decide +kernel
theorem dX6_lots_2 : decode cX6_lots 2 = .ok (.if_icmp .lt 21, 3) := by decide +kernel
theorem dX6_lots_5 : decode cX6_lots 5 = .ok (.iload_n 1, 1) := by decide +kernel
theorem dX6_lots_6 : decode cX6_lots 6 = .ok (.bipush 20, 2) := by decide +kernel
theorem dX6_lots_8 : decode cX6_lots 8 = .ok (.if_icmp .gt 15, 3) := by decide +kernel
theorem dX6_lots_11 : decode cX6_lots 11 = .ok (.iload_n 2, 1) := by decide +kernel
theorem dX6_lots_12 : decode cX6_lots 12 = .ok (.iconst 1, 1) := by decide +kernel
theorem dX6_lots_13 : decode cX6_lots 13 = .ok (.if_icmp .lt 10, 3) := by decide +kernel
theorem dX6_lots_16 : decode cX6_lots 16 = .ok (.iload_n 2, 1) := by decide +kernel
theorem dX6_lots_17 : decode cX6_lots 17 = .ok (.ldc_w 288, 3) := by decide +kernel
theorem dX6_lots_20 : decode cX6_lots 20 = .ok (.if_icmp .le 5, 3) := by decide +kernel
theorem dX6_lots_23 : decode cX6_lots 23 = .ok (.iconst (-1), 1) := by decide +kernel
theorem dX6_lots_24 : decode cX6_lots 24 = .ok (.ireturn, 1) := by decide +kernel
theorem dX6_lots_25 : decode cX6_lots 25 = .ok (.aload_n 0, 1) := by decide +kernel
theorem dX6_lots_26 : decode cX6_lots 26 = .ok (.getfield 45, 3) := by decide +kernel
theorem dX6_lots_29 : decode cX6_lots 29 = .ok (.invokevirtual 218, 3) := by decide +kernel
theorem dX6_lots_32 : decode cX6_lots 32 = .ok (.ifCond .eq 6, 3) := by decide +kernel
theorem dX6_lots_35 : decode cX6_lots 35 = .ok (.bipush (-4), 2) := by decide +kernel
theorem dX6_lots_37 : decode cX6_lots 37 = .ok (.ireturn, 1) := by decide +kernel
theorem dX6_lots_38 : decode cX6_lots 38 = .ok (.aload_n 0, 1) := by decide +kernel
theorem dX6_lots_39 : decode cX6_lots 39 = .ok (.getfield 31, 3) := by decide +kernel
theorem dX6_lots_42 : decode cX6_lots 42 = .ok (.iload_n 1, 1) := by decide +kernel
theorem dX6_lots_43 : decode cX6_lots 43 = .ok (.invokevirtual 289, 3) := by decide +kernel
theorem dX6_lots_46 : decode cX6_lots 46 = .ok (.ifCond .eq 6, 3) := by decide +kernel
theorem dX6_lots_49 : decode cX6_lots 49 = .ok (.bipush (-2), 2) := by decide +kernel
theorem dX6_lots_51 : decode cX6_lots 51 = .ok (.ireturn, 1) := by decide +kernel
theorem dX6_lots_52 : decode cX6_lots 52 = .ok (.iload_n 2, 1) := by decide +kernel
theorem dX6_lots_53 : decode cX6_lots 53 = .ok (.istore_n 3, 1) := by decide +kernel
theorem dX6_lots_54 : decode cX6_lots 54 = .ok (.iconst 0, 1) := by decide +kernel
theorem dX6_lots_55 : decode cX6_lots 55 = .ok (.istore 4, 2) := by decide +kernel
theorem dX6_lots_57 : decode cX6_lots 57 = .ok (.iload 4, 2) := by decide +kernel
theorem dX6_lots_59 : decode cX6_lots 59 = .ok (.iload_n 1, 1) := by decide +kernel
theorem dX6_lots_60 : decode cX6_lots 60 = .ok (.if_icmp .ge 43, 3) := by decide +kernel
theorem dX6_lots_63 : decode cX6_lots 63 = .ok (.ldc2_w 292, 3) := by decide +kernel
theorem dX6_lots_66 : decode cX6_lots 66 = .ok (.iload_n 3, 1) := by decide +kernel
theorem dX6_lots_67 : decode cX6_lots 67 = .ok (.i2l, 1) := by decide +kernel
theorem dX6_lots_68 : decode cX6_lots 68 = .ok (.lmul, 1) := by decide +kernel
theorem dX6_lots_69 : decode cX6_lots 69 = .ok (.ldc2_w 294, 3) := by decide +kernel
theorem dX6_lots_72 : decode cX6_lots 72 = .ok (.lrem, 1) := by decide +kernel
theorem dX6_lots_73 : decode cX6_lots 73 = .ok (.l2i, 1) := by decide +kernel
theorem dX6_lots_74 : decode cX6_lots 74 = .ok (.istore_n 3, 1) := by decide +kernel
theorem dX6_lots_75 : decode cX6_lots 75 = .ok (.aload_n 0, 1) := by decide +kernel
theorem dX6_lots_76 : decode cX6_lots 76 = .ok (.getfield 31, 3) := by decide +kernel
theorem dX6_lots_79 : decode cX6_lots 79 = .ok (.aload_n 0, 1) := by decide +kernel
theorem dX6_lots_80 : decode cX6_lots 80 = .ok (.getfield 45, 3) := by decide +kernel
theorem dX6_lots_83 : decode cX6_lots 83 = .ok (.aload_n 0, 1) := by decide +kernel
theorem dX6_lots_84 : decode cX6_lots 84 = .ok (.getfield 31, 3) := by decide +kernel
theorem dX6_lots_87 : decode cX6_lots 87 = .ok (.invokevirtual 144, 3) := by decide +kernel
theorem dX6_lots_90 : decode cX6_lots 90 = .ok (.iload_n 3, 1) := by decide +kernel
theorem dX6_lots_91 : decode cX6_lots 91 = .ok (.invokevirtual 296, 3) := by decide +kernel
theorem dX6_lots_94 : decode cX6_lots 94 = .ok (.invokevirtual 299, 3) := by decide +kernel
theorem dX6_lots_97 : decode cX6_lots 97 = .ok (.iinc 4 1, 3) := by decide +kernel
theorem dX6_lots_100 : decode cX6_lots 100 = .ok (.goto (-43), 3) := by decide +kernel
theorem dX6_lots_103 : decode cX6_lots 103 = .ok (.aload_n 0, 1) := by decide +kernel
theorem dX6_lots_104 : decode cX6_lots 104 = .ok (.getfield 45, 3) := by decide +kernel
theorem dX6_lots_107 : decode cX6_lots 107 = .ok (.aload_n 0, 1) := by decide +kernel
theorem dX6_lots_108 : decode cX6_lots 108 = .ok (.getfield 31, 3) := by decide +kernel
theorem dX6_lots_111 : decode cX6_lots 111 = .ok (.invokevirtual 144, 3) := by decide +kernel
theorem dX6_lots_114 : decode cX6_lots 114 = .ok (.invokevirtual 250, 3) := by decide +kernel
theorem dX6_lots_117 : decode cX6_lots 117 = .ok (.invokestatic 170, 3) := by decide +kernel
theorem dX6_lots_120 : decode cX6_lots 120 = .ok (.ireturn, 1) := by decide +kernel
theorem dX6_asked_0 : decode cX6_asked 0 = .ok (.aload_n 0, 1) := by decide +kernel
theorem dX6_asked_1 : decode cX6_asked 1 = .ok (.getfield 56, 3) := by decide +kernel
theorem dX6_asked_4 : decode cX6_asked 4 = .ok (.ireturn, 1) := by decide +kernel
theorem dX6_upper_0 : decode cX6_upper 0 = .ok (.aload_n 0, 1) := by decide +kernel
theorem dX6_upper_1 : decode cX6_upper 1 = .ok (.getfield 59, 3) := by decide +kernel
theorem dX6_upper_4 : decode cX6_upper 4 = .ok (.lreturn, 1) := by decide +kernel
theorem dX6_lower_0 : decode cX6_lower 0 = .ok (.aload_n 0, 1) := by decide +kernel
theorem dX6_lower_1 : decode cX6_lower 1 = .ok (.getfield 63, 3) := by decide +kernel
theorem dX6_lower_4 : decode cX6_lower 4 = .ok (.lreturn, 1) := by decide +kernel
theorem dX6_count_0 : decode cX6_count 0 = .ok (.iload_n 1, 1) := by decide +kernel
theorem dX6_count_1 : decode cX6_count 1 = .ok (.ifCond .lt 9, 3) := by decide +kernel
theorem dX6_count_4 : decode cX6_count 4 = .ok (.iload_n 1, 1) := by decide +kernel
theorem dX6_count_5 : decode cX6_count 5 = .ok (.bipush 12, 2) := by decide +kernel
theorem dX6_count_7 : decode cX6_count 7 = .ok (.if_icmp .le 5, 3) := by decide +kernel
theorem dX6_count_10 : decode cX6_count 10 = .ok (.iconst (-1), 1) := by decide +kernel
theorem dX6_count_11 : decode cX6_count 11 = .ok (.ireturn, 1) := by decide +kernel
theorem dX6_count_12 : decode cX6_count 12 = .ok (.aload_n 0, 1) := by decide +kernel
theorem dX6_count_13 : decode cX6_count 13 = .ok (.getfield 31, 3) := by decide +kernel
theorem dX6_count_16 : decode cX6_count 16 = .ok (.invokevirtual 144, 3) := by decide +kernel
theorem dX6_count_19 : decode cX6_count 19 = .ok (.lstore_n 2, 1) := by decide +kernel
theorem dX6_count_20 : decode cX6_count 20 = .ok (.iload_n 1, 1) := by decide +kernel
theorem dX6_count_21 : decode cX6_count 21 = .ok (.tableswitch 146 0 11 #[63, 71, 79, 87, 92, 97, 102, 107, 112, 121, 130, 138], 63) := by decide +kernel
theorem dX6_count_84 : decode cX6_count 84 = .ok (.aload_n 0, 1) := by decide +kernel
theorem dX6_count_85 : decode cX6_count 85 = .ok (.getfield 45, 3) := by decide +kernel
theorem dX6_count_88 : decode cX6_count 88 = .ok (.getfield 128, 3) := by decide +kernel
theorem dX6_count_91 : decode cX6_count 91 = .ok (.ireturn, 1) := by decide +kernel
theorem dX6_count_92 : decode cX6_count 92 = .ok (.aload_n 0, 1) := by decide +kernel
theorem dX6_count_93 : decode cX6_count 93 = .ok (.getfield 45, 3) := by decide +kernel
theorem dX6_count_96 : decode cX6_count 96 = .ok (.getfield 302, 3) := by decide +kernel
theorem dX6_count_99 : decode cX6_count 99 = .ok (.ireturn, 1) := by decide +kernel
theorem dX6_count_100 : decode cX6_count 100 = .ok (.aload_n 0, 1) := by decide +kernel
theorem dX6_count_101 : decode cX6_count 101 = .ok (.getfield 31, 3) := by decide +kernel
theorem dX6_count_104 : decode cX6_count 104 = .ok (.invokevirtual 228, 3) := by decide +kernel
theorem dX6_count_107 : decode cX6_count 107 = .ok (.ireturn, 1) := by decide +kernel
theorem dX6_count_108 : decode cX6_count 108 = .ok (.lload_n 2, 1) := by decide +kernel
theorem dX6_count_109 : decode cX6_count 109 = .ok (.invokestatic 222, 3) := by decide +kernel
theorem dX6_count_112 : decode cX6_count 112 = .ok (.ireturn, 1) := by decide +kernel
theorem dX6_count_113 : decode cX6_count 113 = .ok (.lload_n 2, 1) := by decide +kernel
theorem dX6_count_114 : decode cX6_count 114 = .ok (.invokestatic 166, 3) := by decide +kernel
theorem dX6_count_117 : decode cX6_count 117 = .ok (.ireturn, 1) := by decide +kernel
theorem dX6_count_118 : decode cX6_count 118 = .ok (.lload_n 2, 1) := by decide +kernel
theorem dX6_count_119 : decode cX6_count 119 = .ok (.invokestatic 206, 3) := by decide +kernel
theorem dX6_count_122 : decode cX6_count 122 = .ok (.ireturn, 1) := by decide +kernel
theorem dX6_count_123 : decode cX6_count 123 = .ok (.lload_n 2, 1) := by decide +kernel
theorem dX6_count_124 : decode cX6_count 124 = .ok (.invokestatic 212, 3) := by decide +kernel
theorem dX6_count_127 : decode cX6_count 127 = .ok (.ireturn, 1) := by decide +kernel
theorem dX6_count_128 : decode cX6_count 128 = .ok (.lload_n 2, 1) := by decide +kernel
theorem dX6_count_129 : decode cX6_count 129 = .ok (.invokestatic 305, 3) := by decide +kernel
theorem dX6_count_132 : decode cX6_count 132 = .ok (.ireturn, 1) := by decide +kernel
theorem dX6_count_133 : decode cX6_count 133 = .ok (.aload_n 0, 1) := by decide +kernel
theorem dX6_count_134 : decode cX6_count 134 = .ok (.getfield 45, 3) := by decide +kernel
theorem dX6_count_137 : decode cX6_count 137 = .ok (.iconst 1, 1) := by decide +kernel
theorem dX6_count_138 : decode cX6_count 138 = .ok (.invokevirtual 308, 3) := by decide +kernel
theorem dX6_count_141 : decode cX6_count 141 = .ok (.ireturn, 1) := by decide +kernel
theorem dX6_count_142 : decode cX6_count 142 = .ok (.aload_n 0, 1) := by decide +kernel
theorem dX6_count_143 : decode cX6_count 143 = .ok (.getfield 45, 3) := by decide +kernel
theorem dX6_count_146 : decode cX6_count 146 = .ok (.iconst 3, 1) := by decide +kernel
theorem dX6_count_147 : decode cX6_count 147 = .ok (.invokevirtual 308, 3) := by decide +kernel
theorem dX6_count_150 : decode cX6_count 150 = .ok (.ireturn, 1) := by decide +kernel
theorem dX6_count_151 : decode cX6_count 151 = .ok (.aload_n 0, 1) := by decide +kernel
theorem dX6_count_152 : decode cX6_count 152 = .ok (.getfield 14, 3) := by decide +kernel
theorem dX6_count_155 : decode cX6_count 155 = .ok (.invokevirtual 311, 3) := by decide +kernel
theorem dX6_count_158 : decode cX6_count 158 = .ok (.ireturn, 1) := by decide +kernel
theorem dX6_count_159 : decode cX6_count 159 = .ok (.aload_n 0, 1) := by decide +kernel
theorem dX6_count_160 : decode cX6_count 160 = .ok (.getfield 18, 3) := by decide +kernel
theorem dX6_count_163 : decode cX6_count 163 = .ok (.invokevirtual 311, 3) := by decide +kernel
theorem dX6_count_166 : decode cX6_count 166 = .ok (.ireturn, 1) := by decide +kernel
theorem dX6_count_167 : decode cX6_count 167 = .ok (.aload_n 0, 1) := by decide +kernel
theorem dX6_count_168 : decode cX6_count 168 = .ok (.getfield 31, 3) := by decide +kernel
theorem dX6_count_171 : decode cX6_count 171 = .ok (.invokevirtual 314, 3) := by decide +kernel
theorem dX6_count_174 : decode cX6_count 174 = .ok (.ireturn, 1) := by decide +kernel
theorem dX6_digest_0 : decode cX6_digest 0 = .ok (.ldc2_w 317, 3) := by decide +kernel
theorem dX6_digest_3 : decode cX6_digest 3 = .ok (.lstore_n 1, 1) := by decide +kernel
theorem dX6_digest_4 : decode cX6_digest 4 = .ok (.iconst 0, 1) := by decide +kernel
theorem dX6_digest_5 : decode cX6_digest 5 = .ok (.istore_n 3, 1) := by decide +kernel
theorem dX6_digest_6 : decode cX6_digest 6 = .ok (.iload_n 3, 1) := by decide +kernel
theorem dX6_digest_7 : decode cX6_digest 7 = .ok (.bipush 12, 2) := by decide +kernel
theorem dX6_digest_9 : decode cX6_digest 9 = .ok (.if_icmp .gt 22, 3) := by decide +kernel
theorem dX6_digest_12 : decode cX6_digest 12 = .ok (.ldc2_w 319, 3) := by decide +kernel
theorem dX6_digest_15 : decode cX6_digest 15 = .ok (.lload_n 1, 1) := by decide +kernel
theorem dX6_digest_16 : decode cX6_digest 16 = .ok (.lmul, 1) := by decide +kernel
theorem dX6_digest_17 : decode cX6_digest 17 = .ok (.aload_n 0, 1) := by decide +kernel
theorem dX6_digest_18 : decode cX6_digest 18 = .ok (.iload_n 3, 1) := by decide +kernel
theorem dX6_digest_19 : decode cX6_digest 19 = .ok (.invokevirtual 321, 3) := by decide +kernel
theorem dX6_digest_22 : decode cX6_digest 22 = .ok (.i2l, 1) := by decide +kernel
theorem dX6_digest_23 : decode cX6_digest 23 = .ok (.ladd, 1) := by decide +kernel
theorem dX6_digest_24 : decode cX6_digest 24 = .ok (.lstore_n 1, 1) := by decide +kernel
theorem dX6_digest_25 : decode cX6_digest 25 = .ok (.iinc 3 1, 3) := by decide +kernel
theorem dX6_digest_28 : decode cX6_digest 28 = .ok (.goto (-22), 3) := by decide +kernel
theorem dX6_digest_31 : decode cX6_digest 31 = .ok (.iconst 0, 1) := by decide +kernel
theorem dX6_digest_32 : decode cX6_digest 32 = .ok (.istore_n 3, 1) := by decide +kernel
theorem dX6_digest_33 : decode cX6_digest 33 = .ok (.iload_n 3, 1) := by decide +kernel
theorem dX6_digest_34 : decode cX6_digest 34 = .ok (.aload_n 0, 1) := by decide +kernel
theorem dX6_digest_35 : decode cX6_digest 35 = .ok (.getfield 45, 3) := by decide +kernel
theorem dX6_digest_38 : decode cX6_digest 38 = .ok (.getfield 128, 3) := by decide +kernel
theorem dX6_digest_41 : decode cX6_digest 41 = .ok (.if_icmp .ge 39, 3) := by decide +kernel
theorem dX6_digest_44 : decode cX6_digest 44 = .ok (.iconst 0, 1) := by decide +kernel
theorem dX6_digest_45 : decode cX6_digest 45 = .ok (.istore 4, 2) := by decide +kernel
theorem dX6_digest_47 : decode cX6_digest 47 = .ok (.iload 4, 2) := by decide +kernel
theorem dX6_digest_49 : decode cX6_digest 49 = .ok (.iconst 5, 1) := by decide +kernel
theorem dX6_digest_50 : decode cX6_digest 50 = .ok (.if_icmp .gt 24, 3) := by decide +kernel
theorem dX6_digest_53 : decode cX6_digest 53 = .ok (.ldc2_w 319, 3) := by decide +kernel
theorem dX6_digest_56 : decode cX6_digest 56 = .ok (.lload_n 1, 1) := by decide +kernel
theorem dX6_digest_57 : decode cX6_digest 57 = .ok (.lmul, 1) := by decide +kernel
theorem dX6_digest_58 : decode cX6_digest 58 = .ok (.aload_n 0, 1) := by decide +kernel
theorem dX6_digest_59 : decode cX6_digest 59 = .ok (.iload_n 3, 1) := by decide +kernel
theorem dX6_digest_60 : decode cX6_digest 60 = .ok (.iload 4, 2) := by decide +kernel
theorem dX6_digest_62 : decode cX6_digest 62 = .ok (.invokevirtual 134, 3) := by decide +kernel
theorem dX6_digest_65 : decode cX6_digest 65 = .ok (.i2l, 1) := by decide +kernel
theorem dX6_digest_66 : decode cX6_digest 66 = .ok (.ladd, 1) := by decide +kernel
theorem dX6_digest_67 : decode cX6_digest 67 = .ok (.lstore_n 1, 1) := by decide +kernel
theorem dX6_digest_68 : decode cX6_digest 68 = .ok (.iinc 4 1, 3) := by decide +kernel
theorem dX6_digest_71 : decode cX6_digest 71 = .ok (.goto (-24), 3) := by decide +kernel
theorem dX6_digest_74 : decode cX6_digest 74 = .ok (.iinc 3 1, 3) := by decide +kernel
theorem dX6_digest_77 : decode cX6_digest 77 = .ok (.goto (-44), 3) := by decide +kernel
theorem dX6_digest_80 : decode cX6_digest 80 = .ok (.aload_n 0, 1) := by decide +kernel
theorem dX6_digest_81 : decode cX6_digest 81 = .ok (.getfield 45, 3) := by decide +kernel
theorem dX6_digest_84 : decode cX6_digest 84 = .ok (.aload_n 0, 1) := by decide +kernel
theorem dX6_digest_85 : decode cX6_digest 85 = .ok (.getfield 31, 3) := by decide +kernel
theorem dX6_digest_88 : decode cX6_digest 88 = .ok (.invokevirtual 144, 3) := by decide +kernel
theorem dX6_digest_91 : decode cX6_digest 91 = .ok (.invokevirtual 250, 3) := by decide +kernel
theorem dX6_digest_94 : decode cX6_digest 94 = .ok (.istore_n 3, 1) := by decide +kernel
theorem dX6_digest_95 : decode cX6_digest 95 = .ok (.iconst 0, 1) := by decide +kernel
theorem dX6_digest_96 : decode cX6_digest 96 = .ok (.istore 4, 2) := by decide +kernel
theorem dX6_digest_98 : decode cX6_digest 98 = .ok (.iload 4, 2) := by decide +kernel
theorem dX6_digest_100 : decode cX6_digest 100 = .ok (.aload_n 0, 1) := by decide +kernel
theorem dX6_digest_101 : decode cX6_digest 101 = .ok (.getfield 45, 3) := by decide +kernel
theorem dX6_digest_104 : decode cX6_digest 104 = .ok (.getfield 302, 3) := by decide +kernel
theorem dX6_digest_107 : decode cX6_digest 107 = .ok (.if_icmp .ge 23, 3) := by decide +kernel
theorem dX6_digest_110 : decode cX6_digest 110 = .ok (.ldc2_w 319, 3) := by decide +kernel
theorem dX6_digest_113 : decode cX6_digest 113 = .ok (.lload_n 1, 1) := by decide +kernel
theorem dX6_digest_114 : decode cX6_digest 114 = .ok (.lmul, 1) := by decide +kernel
theorem dX6_digest_115 : decode cX6_digest 115 = .ok (.iload_n 3, 1) := by decide +kernel
theorem dX6_digest_116 : decode cX6_digest 116 = .ok (.iload 4, 2) := by decide +kernel
theorem dX6_digest_118 : decode cX6_digest 118 = .ok (.ishr, 1) := by decide +kernel
theorem dX6_digest_119 : decode cX6_digest 119 = .ok (.iconst 1, 1) := by decide +kernel
theorem dX6_digest_120 : decode cX6_digest 120 = .ok (.iand, 1) := by decide +kernel
theorem dX6_digest_121 : decode cX6_digest 121 = .ok (.i2l, 1) := by decide +kernel
theorem dX6_digest_122 : decode cX6_digest 122 = .ok (.ladd, 1) := by decide +kernel
theorem dX6_digest_123 : decode cX6_digest 123 = .ok (.lstore_n 1, 1) := by decide +kernel
theorem dX6_digest_124 : decode cX6_digest 124 = .ok (.iinc 4 1, 3) := by decide +kernel
theorem dX6_digest_127 : decode cX6_digest 127 = .ok (.goto (-29), 3) := by decide +kernel
theorem dX6_digest_130 : decode cX6_digest 130 = .ok (.iconst 0, 1) := by decide +kernel
theorem dX6_digest_131 : decode cX6_digest 131 = .ok (.istore 4, 2) := by decide +kernel
theorem dX6_digest_133 : decode cX6_digest 133 = .ok (.iload 4, 2) := by decide +kernel
theorem dX6_digest_135 : decode cX6_digest 135 = .ok (.iconst 3, 1) := by decide +kernel
theorem dX6_digest_136 : decode cX6_digest 136 = .ok (.if_icmp .ge 26, 3) := by decide +kernel
theorem dX6_digest_139 : decode cX6_digest 139 = .ok (.ldc2_w 319, 3) := by decide +kernel
theorem dX6_digest_142 : decode cX6_digest 142 = .ok (.lload_n 1, 1) := by decide +kernel
theorem dX6_digest_143 : decode cX6_digest 143 = .ok (.lmul, 1) := by decide +kernel
theorem dX6_digest_144 : decode cX6_digest 144 = .ok (.aload_n 0, 1) := by decide +kernel
theorem dX6_digest_145 : decode cX6_digest 145 = .ok (.getfield 31, 3) := by decide +kernel
theorem dX6_digest_148 : decode cX6_digest 148 = .ok (.iload 4, 2) := by decide +kernel
theorem dX6_digest_150 : decode cX6_digest 150 = .ok (.invokevirtual 241, 3) := by decide +kernel
theorem dX6_digest_153 : decode cX6_digest 153 = .ok (.i2l, 1) := by decide +kernel
theorem dX6_digest_154 : decode cX6_digest 154 = .ok (.ladd, 1) := by decide +kernel
theorem dX6_digest_155 : decode cX6_digest 155 = .ok (.lstore_n 1, 1) := by decide +kernel
theorem dX6_digest_156 : decode cX6_digest 156 = .ok (.iinc 4 1, 3) := by decide +kernel
theorem dX6_digest_159 : decode cX6_digest 159 = .ok (.goto (-26), 3) := by decide +kernel
theorem dX6_digest_162 : decode cX6_digest 162 = .ok (.aload_n 0, 1) := by decide +kernel
theorem dX6_digest_163 : decode cX6_digest 163 = .ok (.getfield 18, 3) := by decide +kernel
theorem dX6_digest_166 : decode cX6_digest 166 = .ok (.aload_n 0, 1) := by decide +kernel
theorem dX6_digest_167 : decode cX6_digest 167 = .ok (.getfield 14, 3) := by decide +kernel
theorem dX6_digest_170 : decode cX6_digest 170 = .ok (.lload_n 1, 1) := by decide +kernel
theorem dX6_digest_171 : decode cX6_digest 171 = .ok (.invokevirtual 324, 3) := by decide +kernel
theorem dX6_digest_174 : decode cX6_digest 174 = .ok (.invokevirtual 324, 3) := by decide +kernel
theorem dX6_digest_177 : decode cX6_digest 177 = .ok (.lreturn, 1) := by decide +kernel
theorem dX6_tell_0 : decode cX6_tell 0 = .ok (.aload_n 0, 1) := by decide +kernel
theorem dX6_tell_1 : decode cX6_tell 1 = .ok (.iload_n 1, 1) := by decide +kernel
theorem dX6_tell_2 : decode cX6_tell 2 = .ok (.putfield 56, 3) := by decide +kernel
theorem dX6_tell_5 : decode cX6_tell 5 = .ok (.iconst 1, 1) := by decide +kernel
theorem dX6_tell_6 : decode cX6_tell 6 = .ok (.ireturn, 1) := by decide +kernel
theorem dX6_found_0 : decode cX6_found 0 = .ok (.iload_n 1, 1) := by decide +kernel
theorem dX6_found_1 : decode cX6_found 1 = .ok (.iconst 1, 1) := by decide +kernel
theorem dX6_found_2 : decode cX6_found 2 = .ok (.if_icmp .lt 23, 3) := by decide +kernel
theorem dX6_found_5 : decode cX6_found 5 = .ok (.iload_n 1, 1) := by decide +kernel
theorem dX6_found_6 : decode cX6_found 6 = .ok (.iconst 5, 1) := by decide +kernel
theorem dX6_found_7 : decode cX6_found 7 = .ok (.if_icmp .gt 18, 3) := by decide +kernel
theorem dX6_found_10 : decode cX6_found 10 = .ok (.aload_n 0, 1) := by decide +kernel
theorem dX6_found_11 : decode cX6_found 11 = .ok (.iload_n 1, 1) := by decide +kernel
theorem dX6_found_12 : decode cX6_found 12 = .ok (.putfield 52, 3) := by decide +kernel
theorem dX6_found_15 : decode cX6_found 15 = .ok (.aload_n 0, 1) := by decide +kernel
theorem dX6_found_16 : decode cX6_found 16 = .ok (.getfield 39, 3) := by decide +kernel
theorem dX6_found_19 : decode cX6_found 19 = .ok (.iload_n 1, 1) := by decide +kernel
theorem dX6_found_20 : decode cX6_found 20 = .ok (.dup2, 1) := by decide +kernel
theorem dX6_found_21 : decode cX6_found 21 = .ok (.iaload, 1) := by decide +kernel
theorem dX6_found_22 : decode cX6_found 22 = .ok (.iconst 1, 1) := by decide +kernel
theorem dX6_found_23 : decode cX6_found 23 = .ok (.iadd, 1) := by decide +kernel
theorem dX6_found_24 : decode cX6_found 24 = .ok (.iastore, 1) := by decide +kernel
theorem dX6_found_25 : decode cX6_found 25 = .ok (.bipush (-3), 2) := by decide +kernel
theorem dX6_found_27 : decode cX6_found 27 = .ok (.ireturn, 1) := by decide +kernel
theorem dX6_made_0 : decode cX6_made 0 = .ok (.aload_n 1, 1) := by decide +kernel
theorem dX6_made_1 : decode cX6_made 1 = .ok (.iload_n 2, 1) := by decide +kernel
theorem dX6_made_2 : decode cX6_made 2 = .ok (.invokevirtual 92, 3) := by decide +kernel
theorem dX6_made_5 : decode cX6_made 5 = .ok (.ifCond .eq 11, 3) := by decide +kernel
theorem dX6_made_8 : decode cX6_made 8 = .ok (.iload_n 3, 1) := by decide +kernel
theorem dX6_made_9 : decode cX6_made 9 = .ok (.aload_n 1, 1) := by decide +kernel
theorem dX6_made_10 : decode cX6_made 10 = .ok (.getfield 328, 3) := by decide +kernel
theorem dX6_made_13 : decode cX6_made 13 = .ok (.if_icmp .le 5, 3) := by decide +kernel
theorem dX6_made_16 : decode cX6_made 16 = .ok (.iconst (-1), 1) := by decide +kernel
theorem dX6_made_17 : decode cX6_made 17 = .ok (.ireturn, 1) := by decide +kernel
theorem dX6_made_18 : decode cX6_made 18 = .ok (.iload_n 3, 1) := by decide +kernel
theorem dX6_made_19 : decode cX6_made 19 = .ok (.ifCond .ge 9, 3) := by decide +kernel
theorem dX6_made_22 : decode cX6_made 22 = .ok (.aload_n 0, 1) := by decide +kernel
theorem dX6_made_23 : decode cX6_made 23 = .ok (.iconst 5, 1) := by decide +kernel
theorem dX6_made_24 : decode cX6_made 24 = .ok (.invokevirtual 96, 3) := by decide +kernel
theorem dX6_made_27 : decode cX6_made 27 = .ok (.ireturn, 1) := by decide +kernel
theorem dX6_made_28 : decode cX6_made 28 = .ok (.aload_n 1, 1) := by decide +kernel
theorem dX6_made_29 : decode cX6_made 29 = .ok (.iload_n 2, 1) := by decide +kernel
theorem dX6_made_30 : decode cX6_made 30 = .ok (.iload_n 3, 1) := by decide +kernel
theorem dX6_made_31 : decode cX6_made 31 = .ok (.invokevirtual 262, 3) := by decide +kernel
theorem dX6_made_34 : decode cX6_made 34 = .ok (.iload_n 3, 1) := by decide +kernel
theorem dX6_made_35 : decode cX6_made 35 = .ok (.ireturn, 1) := by decide +kernel
theorem dX6_refusalOfMissing_0 : decode cX6_refusalOfMissing 0 = .ok (.aload_n 1, 1) := by decide +kernel
theorem dX6_refusalOfMissing_1 : decode cX6_refusalOfMissing 1 = .ok (.iload_n 2, 1) := by decide +kernel
theorem dX6_refusalOfMissing_2 : decode cX6_refusalOfMissing 2 = .ok (.invokevirtual 92, 3) := by decide +kernel
theorem dX6_refusalOfMissing_5 : decode cX6_refusalOfMissing 5 = .ok (.ifCond .ne 5, 3) := by decide +kernel
theorem dX6_refusalOfMissing_8 : decode cX6_refusalOfMissing 8 = .ok (.iconst (-1), 1) := by decide +kernel
theorem dX6_refusalOfMissing_9 : decode cX6_refusalOfMissing 9 = .ok (.ireturn, 1) := by decide +kernel
theorem dX6_refusalOfMissing_10 : decode cX6_refusalOfMissing 10 = .ok (.aload_n 1, 1) := by decide +kernel
theorem dX6_refusalOfMissing_11 : decode cX6_refusalOfMissing 11 = .ok (.iload_n 2, 1) := by decide +kernel
theorem dX6_refusalOfMissing_12 : decode cX6_refusalOfMissing 12 = .ok (.invokevirtual 99, 3) := by decide +kernel
theorem dX6_refusalOfMissing_15 : decode cX6_refusalOfMissing 15 = .ok (.ifCond .eq 7, 3) := by decide +kernel
theorem dX6_refusalOfMissing_18 : decode cX6_refusalOfMissing 18 = .ok (.iconst 0, 1) := by decide +kernel
theorem dX6_refusalOfMissing_19 : decode cX6_refusalOfMissing 19 = .ok (.goto 8, 3) := by decide +kernel
theorem dX6_refusalOfMissing_22 : decode cX6_refusalOfMissing 22 = .ok (.aload_n 0, 1) := by decide +kernel
theorem dX6_refusalOfMissing_23 : decode cX6_refusalOfMissing 23 = .ok (.iconst 1, 1) := by decide +kernel
theorem dX6_refusalOfMissing_24 : decode cX6_refusalOfMissing 24 = .ok (.invokevirtual 96, 3) := by decide +kernel
theorem dX6_refusalOfMissing_27 : decode cX6_refusalOfMissing 27 = .ok (.ireturn, 1) := by decide +kernel
theorem dX6_refusalOfPlace_0 : decode cX6_refusalOfPlace 0 = .ok (.aload_n 0, 1) := by decide +kernel
theorem dX6_refusalOfPlace_1 : decode cX6_refusalOfPlace 1 = .ok (.aload_n 1, 1) := by decide +kernel
theorem dX6_refusalOfPlace_2 : decode cX6_refusalOfPlace 2 = .ok (.iload_n 2, 1) := by decide +kernel
theorem dX6_refusalOfPlace_3 : decode cX6_refusalOfPlace 3 = .ok (.invokevirtual 84, 3) := by decide +kernel
theorem dX6_refusalOfPlace_6 : decode cX6_refusalOfPlace 6 = .ok (.istore 4, 2) := by decide +kernel
theorem dX6_refusalOfPlace_8 : decode cX6_refusalOfPlace 8 = .ok (.iload 4, 2) := by decide +kernel
theorem dX6_refusalOfPlace_10 : decode cX6_refusalOfPlace 10 = .ok (.ifCond .eq 6, 3) := by decide +kernel
theorem dX6_refusalOfPlace_13 : decode cX6_refusalOfPlace 13 = .ok (.iload 4, 2) := by decide +kernel
theorem dX6_refusalOfPlace_15 : decode cX6_refusalOfPlace 15 = .ok (.ireturn, 1) := by decide +kernel
theorem dX6_refusalOfPlace_16 : decode cX6_refusalOfPlace 16 = .ok (.aload_n 1, 1) := by decide +kernel
theorem dX6_refusalOfPlace_17 : decode cX6_refusalOfPlace 17 = .ok (.iload_n 2, 1) := by decide +kernel
theorem dX6_refusalOfPlace_18 : decode cX6_refusalOfPlace 18 = .ok (.iload_n 3, 1) := by decide +kernel
theorem dX6_refusalOfPlace_19 : decode cX6_refusalOfPlace 19 = .ok (.invokevirtual 331, 3) := by decide +kernel
theorem dX6_refusalOfPlace_22 : decode cX6_refusalOfPlace 22 = .ok (.ifCond .eq 7, 3) := by decide +kernel
theorem dX6_refusalOfPlace_25 : decode cX6_refusalOfPlace 25 = .ok (.iconst 0, 1) := by decide +kernel
theorem dX6_refusalOfPlace_26 : decode cX6_refusalOfPlace 26 = .ok (.goto 8, 3) := by decide +kernel
theorem dX6_refusalOfPlace_29 : decode cX6_refusalOfPlace 29 = .ok (.aload_n 0, 1) := by decide +kernel
theorem dX6_refusalOfPlace_30 : decode cX6_refusalOfPlace 30 = .ok (.iconst 2, 1) := by decide +kernel
theorem dX6_refusalOfPlace_31 : decode cX6_refusalOfPlace 31 = .ok (.invokevirtual 96, 3) := by decide +kernel
theorem dX6_refusalOfPlace_34 : decode cX6_refusalOfPlace 34 = .ok (.ireturn, 1) := by decide +kernel
theorem dX6_refusalOfFast_0 : decode cX6_refusalOfFast 0 = .ok (.aload_n 0, 1) := by decide +kernel
theorem dX6_refusalOfFast_1 : decode cX6_refusalOfFast 1 = .ok (.getfield 45, 3) := by decide +kernel
theorem dX6_refusalOfFast_4 : decode cX6_refusalOfFast 4 = .ok (.iload_n 1, 1) := by decide +kernel
theorem dX6_refusalOfFast_5 : decode cX6_refusalOfFast 5 = .ok (.invokevirtual 131, 3) := by decide +kernel
theorem dX6_refusalOfFast_8 : decode cX6_refusalOfFast 8 = .ok (.ifCond .ne 5, 3) := by decide +kernel
theorem dX6_refusalOfFast_11 : decode cX6_refusalOfFast 11 = .ok (.iconst (-1), 1) := by decide +kernel
theorem dX6_refusalOfFast_12 : decode cX6_refusalOfFast 12 = .ok (.ireturn, 1) := by decide +kernel
theorem dX6_refusalOfFast_13 : decode cX6_refusalOfFast 13 = .ok (.aload_n 0, 1) := by decide +kernel
theorem dX6_refusalOfFast_14 : decode cX6_refusalOfFast 14 = .ok (.getfield 31, 3) := by decide +kernel
theorem dX6_refusalOfFast_17 : decode cX6_refusalOfFast 17 = .ok (.invokevirtual 144, 3) := by decide +kernel
theorem dX6_refusalOfFast_20 : decode cX6_refusalOfFast 20 = .ok (.iload_n 1, 1) := by decide +kernel
theorem dX6_refusalOfFast_21 : decode cX6_refusalOfFast 21 = .ok (.invokestatic 334, 3) := by decide +kernel
theorem dX6_refusalOfFast_24 : decode cX6_refusalOfFast 24 = .ok (.ifCond .eq 7, 3) := by decide +kernel
theorem dX6_refusalOfFast_27 : decode cX6_refusalOfFast 27 = .ok (.iconst 0, 1) := by decide +kernel
theorem dX6_refusalOfFast_28 : decode cX6_refusalOfFast 28 = .ok (.goto 5, 3) := by decide +kernel
theorem dX6_refusalOfFast_31 : decode cX6_refusalOfFast 31 = .ok (.bipush (-4), 2) := by decide +kernel
theorem dX6_refusalOfFast_33 : decode cX6_refusalOfFast 33 = .ok (.ireturn, 1) := by decide +kernel
theorem dX6_refusalOfHaul_0 : decode cX6_refusalOfHaul 0 = .ok (.iload_n 2, 1) := by decide +kernel
theorem dX6_refusalOfHaul_1 : decode cX6_refusalOfHaul 1 = .ok (.iconst 1, 1) := by decide +kernel
theorem dX6_refusalOfHaul_2 : decode cX6_refusalOfHaul 2 = .ok (.if_icmp .lt 9, 3) := by decide +kernel
theorem dX6_refusalOfHaul_5 : decode cX6_refusalOfHaul 5 = .ok (.iload_n 2, 1) := by decide +kernel
theorem dX6_refusalOfHaul_6 : decode cX6_refusalOfHaul 6 = .ok (.bipush 9, 2) := by decide +kernel
theorem dX6_refusalOfHaul_8 : decode cX6_refusalOfHaul 8 = .ok (.if_icmp .le 7, 3) := by decide +kernel
theorem dX6_refusalOfHaul_11 : decode cX6_refusalOfHaul 11 = .ok (.iconst (-1), 1) := by decide +kernel
theorem dX6_refusalOfHaul_12 : decode cX6_refusalOfHaul 12 = .ok (.goto 8, 3) := by decide +kernel
theorem dX6_refusalOfHaul_15 : decode cX6_refusalOfHaul 15 = .ok (.aload_n 0, 1) := by decide +kernel
theorem dX6_refusalOfHaul_16 : decode cX6_refusalOfHaul 16 = .ok (.iload_n 1, 1) := by decide +kernel
theorem dX6_refusalOfHaul_17 : decode cX6_refusalOfHaul 17 = .ok (.invokevirtual 189, 3) := by decide +kernel
theorem dX6_refusalOfHaul_20 : decode cX6_refusalOfHaul 20 = .ok (.ireturn, 1) := by decide +kernel
theorem dX6_done_0 : decode cX6_done 0 = .ok (.aload_n 0, 1) := by decide +kernel
theorem dX6_done_1 : decode cX6_done 1 = .ok (.getfield 31, 3) := by decide +kernel
theorem dX6_done_4 : decode cX6_done 4 = .ok (.iconst 1, 1) := by decide +kernel
theorem dX6_done_5 : decode cX6_done 5 = .ok (.invokevirtual 289, 3) := by decide +kernel
theorem dX6_done_8 : decode cX6_done 8 = .ok (.ifCond .eq 6, 3) := by decide +kernel
theorem dX6_done_11 : decode cX6_done 11 = .ok (.bipush (-2), 2) := by decide +kernel
theorem dX6_done_13 : decode cX6_done 13 = .ok (.ireturn, 1) := by decide +kernel
theorem dX6_done_14 : decode cX6_done 14 = .ok (.aload_n 0, 1) := by decide +kernel
theorem dX6_done_15 : decode cX6_done 15 = .ok (.getfield 31, 3) := by decide +kernel
theorem dX6_done_18 : decode cX6_done 18 = .ok (.lload_n 1, 1) := by decide +kernel
theorem dX6_done_19 : decode cX6_done 19 = .ok (.invokevirtual 299, 3) := by decide +kernel
theorem dX6_done_22 : decode cX6_done 22 = .ok (.iload_n 3, 1) := by decide +kernel
theorem dX6_done_23 : decode cX6_done 23 = .ok (.ireturn, 1) := by decide +kernel
theorem dX6_detail_0 : decode cX6_detail 0 = .ok (.aload_n 0, 1) := by decide +kernel
theorem dX6_detail_1 : decode cX6_detail 1 = .ok (.getfield 31, 3) := by decide +kernel
theorem dX6_detail_4 : decode cX6_detail 4 = .ok (.invokevirtual 144, 3) := by decide +kernel
theorem dX6_detail_7 : decode cX6_detail 7 = .ok (.lstore_n 3, 1) := by decide +kernel
theorem dX6_detail_8 : decode cX6_detail 8 = .ok (.iload_n 2, 1) := by decide +kernel
theorem dX6_detail_9 : decode cX6_detail 9 = .ok (.tableswitch 82 0 4 #[35, 44, 53, 62, 68], 35) := by decide +kernel
theorem dX6_detail_44 : decode cX6_detail 44 = .ok (.aload_n 0, 1) := by decide +kernel
theorem dX6_detail_45 : decode cX6_detail 45 = .ok (.getfield 45, 3) := by decide +kernel
theorem dX6_detail_48 : decode cX6_detail 48 = .ok (.iload_n 1, 1) := by decide +kernel
theorem dX6_detail_49 : decode cX6_detail 49 = .ok (.invokevirtual 137, 3) := by decide +kernel
theorem dX6_detail_52 : decode cX6_detail 52 = .ok (.ireturn, 1) := by decide +kernel
theorem dX6_detail_53 : decode cX6_detail 53 = .ok (.aload_n 0, 1) := by decide +kernel
theorem dX6_detail_54 : decode cX6_detail 54 = .ok (.getfield 45, 3) := by decide +kernel
theorem dX6_detail_57 : decode cX6_detail 57 = .ok (.iload_n 1, 1) := by decide +kernel
theorem dX6_detail_58 : decode cX6_detail 58 = .ok (.invokevirtual 148, 3) := by decide +kernel
theorem dX6_detail_61 : decode cX6_detail 61 = .ok (.ireturn, 1) := by decide +kernel
theorem dX6_detail_62 : decode cX6_detail 62 = .ok (.aload_n 0, 1) := by decide +kernel
theorem dX6_detail_63 : decode cX6_detail 63 = .ok (.getfield 45, 3) := by decide +kernel
theorem dX6_detail_66 : decode cX6_detail 66 = .ok (.iload_n 1, 1) := by decide +kernel
theorem dX6_detail_67 : decode cX6_detail 67 = .ok (.invokevirtual 157, 3) := by decide +kernel
theorem dX6_detail_70 : decode cX6_detail 70 = .ok (.ireturn, 1) := by decide +kernel
theorem dX6_detail_71 : decode cX6_detail 71 = .ok (.lload_n 3, 1) := by decide +kernel
theorem dX6_detail_72 : decode cX6_detail 72 = .ok (.iload_n 1, 1) := by decide +kernel
theorem dX6_detail_73 : decode cX6_detail 73 = .ok (.invokestatic 151, 3) := by decide +kernel
theorem dX6_detail_76 : decode cX6_detail 76 = .ok (.ireturn, 1) := by decide +kernel
theorem dX6_detail_77 : decode cX6_detail 77 = .ok (.lload_n 3, 1) := by decide +kernel
theorem dX6_detail_78 : decode cX6_detail 78 = .ok (.iload_n 1, 1) := by decide +kernel
theorem dX6_detail_79 : decode cX6_detail 79 = .ok (.invokestatic 200, 3) := by decide +kernel
theorem dX6_detail_82 : decode cX6_detail 82 = .ok (.ifCond .eq 7, 3) := by decide +kernel
theorem dX6_detail_85 : decode cX6_detail 85 = .ok (.iconst 0, 1) := by decide +kernel
theorem dX6_detail_86 : decode cX6_detail 86 = .ok (.goto 4, 3) := by decide +kernel
theorem dX6_detail_89 : decode cX6_detail 89 = .ok (.iconst 1, 1) := by decide +kernel
theorem dX6_detail_90 : decode cX6_detail 90 = .ok (.ireturn, 1) := by decide +kernel
theorem dX6_detail_91 : decode cX6_detail 91 = .ok (.lload_n 3, 1) := by decide +kernel
theorem dX6_detail_92 : decode cX6_detail 92 = .ok (.iload_n 1, 1) := by decide +kernel
theorem dX6_detail_93 : decode cX6_detail 93 = .ok (.invokestatic 196, 3) := by decide +kernel
theorem dX6_detail_96 : decode cX6_detail 96 = .ok (.ifCond .eq 7, 3) := by decide +kernel
theorem dX6_detail_99 : decode cX6_detail 99 = .ok (.iconst 1, 1) := by decide +kernel
theorem dX6_detail_100 : decode cX6_detail 100 = .ok (.goto 4, 3) := by decide +kernel
theorem dX6_detail_103 : decode cX6_detail 103 = .ok (.iconst 0, 1) := by decide +kernel
theorem dX6_detail_104 : decode cX6_detail 104 = .ok (.ireturn, 1) := by decide +kernel
theorem dX6_firstParted_0 : decode cX6_firstParted 0 = .ok (.lload_n 2, 1) := by decide +kernel
theorem dX6_firstParted_1 : decode cX6_firstParted 1 = .ok (.invokestatic 212, 3) := by decide +kernel
theorem dX6_firstParted_4 : decode cX6_firstParted 4 = .ok (.lload_n 0, 1) := by decide +kernel
theorem dX6_firstParted_5 : decode cX6_firstParted 5 = .ok (.invokestatic 212, 3) := by decide +kernel
theorem dX6_firstParted_8 : decode cX6_firstParted 8 = .ok (.iconst (-1), 1) := by decide +kernel
theorem dX6_firstParted_9 : decode cX6_firstParted 9 = .ok (.ixor, 1) := by decide +kernel
theorem dX6_firstParted_10 : decode cX6_firstParted 10 = .ok (.iand, 1) := by decide +kernel
theorem dX6_firstParted_11 : decode cX6_firstParted 11 = .ok (.istore 4, 2) := by decide +kernel
theorem dX6_firstParted_13 : decode cX6_firstParted 13 = .ok (.iload 4, 2) := by decide +kernel
theorem dX6_firstParted_15 : decode cX6_firstParted 15 = .ok (.ifCond .ne 8, 3) := by decide +kernel
theorem dX6_firstParted_18 : decode cX6_firstParted 18 = .ok (.bipush (-9), 2) := by decide +kernel
theorem dX6_firstParted_20 : decode cX6_firstParted 20 = .ok (.goto 8, 3) := by decide +kernel
theorem dX6_firstParted_23 : decode cX6_firstParted 23 = .ok (.iload 4, 2) := by decide +kernel
theorem dX6_firstParted_25 : decode cX6_firstParted 25 = .ok (.invokestatic 337, 3) := by decide +kernel
theorem dX6_firstParted_28 : decode cX6_firstParted 28 = .ok (.ireturn, 1) := by decide +kernel
theorem dX6_canFall_0 : decode cX6_canFall 0 = .ok (.iload_n 1, 1) := by decide +kernel
theorem dX6_canFall_1 : decode cX6_canFall 1 = .ok (.aload_n 0, 1) := by decide +kernel
theorem dX6_canFall_2 : decode cX6_canFall 2 = .ok (.getfield 45, 3) := by decide +kernel
theorem dX6_canFall_5 : decode cX6_canFall 5 = .ok (.invokevirtual 340, 3) := by decide +kernel
theorem dX6_canFall_8 : decode cX6_canFall 8 = .ok (.aload_n 0, 1) := by decide +kernel
theorem dX6_canFall_9 : decode cX6_canFall 9 = .ok (.getfield 31, 3) := by decide +kernel
theorem dX6_canFall_12 : decode cX6_canFall 12 = .ok (.invokevirtual 144, 3) := by decide +kernel
theorem dX6_canFall_15 : decode cX6_canFall 15 = .ok (.invokestatic 212, 3) := by decide +kernel
theorem dX6_canFall_18 : decode cX6_canFall 18 = .ok (.iconst (-1), 1) := by decide +kernel
theorem dX6_canFall_19 : decode cX6_canFall 19 = .ok (.ixor, 1) := by decide +kernel
theorem dX6_canFall_20 : decode cX6_canFall 20 = .ok (.iand, 1) := by decide +kernel
theorem dX6_canFall_21 : decode cX6_canFall 21 = .ok (.iconst (-1), 1) := by decide +kernel
theorem dX6_canFall_22 : decode cX6_canFall 22 = .ok (.ixor, 1) := by decide +kernel
theorem dX6_canFall_23 : decode cX6_canFall 23 = .ok (.iand, 1) := by decide +kernel
theorem dX6_canFall_24 : decode cX6_canFall 24 = .ok (.ifCond .ne 7, 3) := by decide +kernel
theorem dX6_canFall_27 : decode cX6_canFall 27 = .ok (.iconst 1, 1) := by decide +kernel
theorem dX6_canFall_28 : decode cX6_canFall 28 = .ok (.goto 4, 3) := by decide +kernel
theorem dX6_canFall_31 : decode cX6_canFall 31 = .ok (.iconst 0, 1) := by decide +kernel
theorem dX6_canFall_32 : decode cX6_canFall 32 = .ok (.ireturn, 1) := by decide +kernel
theorem dX6_roomiest_0 : decode cX6_roomiest 0 = .ok (.aload_n 0, 1) := by decide +kernel
theorem dX6_roomiest_1 : decode cX6_roomiest 1 = .ok (.getfield 31, 3) := by decide +kernel
theorem dX6_roomiest_4 : decode cX6_roomiest 4 = .ok (.invokevirtual 144, 3) := by decide +kernel
theorem dX6_roomiest_7 : decode cX6_roomiest 7 = .ok (.lstore_n 2, 1) := by decide +kernel
theorem dX6_roomiest_8 : decode cX6_roomiest 8 = .ok (.bipush (-9), 2) := by decide +kernel
theorem dX6_roomiest_10 : decode cX6_roomiest 10 = .ok (.istore 4, 2) := by decide +kernel
theorem dX6_roomiest_12 : decode cX6_roomiest 12 = .ok (.iconst 0, 1) := by decide +kernel
theorem dX6_roomiest_13 : decode cX6_roomiest 13 = .ok (.istore 5, 2) := by decide +kernel
theorem dX6_roomiest_15 : decode cX6_roomiest 15 = .ok (.iconst 0, 1) := by decide +kernel
theorem dX6_roomiest_16 : decode cX6_roomiest 16 = .ok (.istore 6, 2) := by decide +kernel
theorem dX6_roomiest_18 : decode cX6_roomiest 18 = .ok (.iload 6, 2) := by decide +kernel
theorem dX6_roomiest_20 : decode cX6_roomiest 20 = .ok (.aload_n 0, 1) := by decide +kernel
theorem dX6_roomiest_21 : decode cX6_roomiest 21 = .ok (.getfield 45, 3) := by decide +kernel
theorem dX6_roomiest_24 : decode cX6_roomiest 24 = .ok (.getfield 128, 3) := by decide +kernel
theorem dX6_roomiest_27 : decode cX6_roomiest 27 = .ok (.if_icmp .ge 62, 3) := by decide +kernel
theorem dX6_roomiest_30 : decode cX6_roomiest 30 = .ok (.aload_n 0, 1) := by decide +kernel
theorem dX6_roomiest_31 : decode cX6_roomiest 31 = .ok (.getfield 45, 3) := by decide +kernel
theorem dX6_roomiest_34 : decode cX6_roomiest 34 = .ok (.iload 6, 2) := by decide +kernel
theorem dX6_roomiest_36 : decode cX6_roomiest 36 = .ok (.invokevirtual 148, 3) := by decide +kernel
theorem dX6_roomiest_39 : decode cX6_roomiest 39 = .ok (.lload_n 2, 1) := by decide +kernel
theorem dX6_roomiest_40 : decode cX6_roomiest 40 = .ok (.iload 6, 2) := by decide +kernel
theorem dX6_roomiest_42 : decode cX6_roomiest 42 = .ok (.invokestatic 151, 3) := by decide +kernel
theorem dX6_roomiest_45 : decode cX6_roomiest 45 = .ok (.isub, 1) := by decide +kernel
theorem dX6_roomiest_46 : decode cX6_roomiest 46 = .ok (.aload_n 0, 1) := by decide +kernel
theorem dX6_roomiest_47 : decode cX6_roomiest 47 = .ok (.getfield 14, 3) := by decide +kernel
theorem dX6_roomiest_50 : decode cX6_roomiest 50 = .ok (.iload_n 1, 1) := by decide +kernel
theorem dX6_roomiest_51 : decode cX6_roomiest 51 = .ok (.iload 6, 2) := by decide +kernel
theorem dX6_roomiest_53 : decode cX6_roomiest 53 = .ok (.invokevirtual 73, 3) := by decide +kernel
theorem dX6_roomiest_56 : decode cX6_roomiest 56 = .ok (.isub, 1) := by decide +kernel
theorem dX6_roomiest_57 : decode cX6_roomiest 57 = .ok (.istore 7, 2) := by decide +kernel
theorem dX6_roomiest_59 : decode cX6_roomiest 59 = .ok (.lload_n 2, 1) := by decide +kernel
theorem dX6_roomiest_60 : decode cX6_roomiest 60 = .ok (.iload 6, 2) := by decide +kernel
theorem dX6_roomiest_62 : decode cX6_roomiest 62 = .ok (.invokestatic 334, 3) := by decide +kernel
theorem dX6_roomiest_65 : decode cX6_roomiest 65 = .ok (.ifCond .eq 18, 3) := by decide +kernel
theorem dX6_roomiest_68 : decode cX6_roomiest 68 = .ok (.iload 7, 2) := by decide +kernel
theorem dX6_roomiest_70 : decode cX6_roomiest 70 = .ok (.iload 5, 2) := by decide +kernel
theorem dX6_roomiest_72 : decode cX6_roomiest 72 = .ok (.if_icmp .le 11, 3) := by decide +kernel
theorem dX6_roomiest_75 : decode cX6_roomiest 75 = .ok (.iload 6, 2) := by decide +kernel
theorem dX6_roomiest_77 : decode cX6_roomiest 77 = .ok (.istore 4, 2) := by decide +kernel
theorem dX6_roomiest_79 : decode cX6_roomiest 79 = .ok (.iload 7, 2) := by decide +kernel
theorem dX6_roomiest_81 : decode cX6_roomiest 81 = .ok (.istore 5, 2) := by decide +kernel
theorem dX6_roomiest_83 : decode cX6_roomiest 83 = .ok (.iinc 6 1, 3) := by decide +kernel
theorem dX6_roomiest_86 : decode cX6_roomiest 86 = .ok (.goto (-68), 3) := by decide +kernel
theorem dX6_roomiest_89 : decode cX6_roomiest 89 = .ok (.iload 4, 2) := by decide +kernel
theorem dX6_roomiest_91 : decode cX6_roomiest 91 = .ok (.ireturn, 1) := by decide +kernel
theorem dX6_refusalOfPairs_0 : decode cX6_refusalOfPairs 0 = .ok (.aload_n 0, 1) := by decide +kernel
theorem dX6_refusalOfPairs_1 : decode cX6_refusalOfPairs 1 = .ok (.aload_n 0, 1) := by decide +kernel
theorem dX6_refusalOfPairs_2 : decode cX6_refusalOfPairs 2 = .ok (.getfield 14, 3) := by decide +kernel
theorem dX6_refusalOfPairs_5 : decode cX6_refusalOfPairs 5 = .ok (.iload_n 1, 1) := by decide +kernel
theorem dX6_refusalOfPairs_6 : decode cX6_refusalOfPairs 6 = .ok (.invokevirtual 84, 3) := by decide +kernel
theorem dX6_refusalOfPairs_9 : decode cX6_refusalOfPairs 9 = .ok (.istore_n 2, 1) := by decide +kernel
theorem dX6_refusalOfPairs_10 : decode cX6_refusalOfPairs 10 = .ok (.iload_n 2, 1) := by decide +kernel
theorem dX6_refusalOfPairs_11 : decode cX6_refusalOfPairs 11 = .ok (.ifCond .eq 5, 3) := by decide +kernel
theorem dX6_refusalOfPairs_14 : decode cX6_refusalOfPairs 14 = .ok (.iload_n 2, 1) := by decide +kernel
theorem dX6_refusalOfPairs_15 : decode cX6_refusalOfPairs 15 = .ok (.ireturn, 1) := by decide +kernel
theorem dX6_refusalOfPairs_16 : decode cX6_refusalOfPairs 16 = .ok (.aload_n 0, 1) := by decide +kernel
theorem dX6_refusalOfPairs_17 : decode cX6_refusalOfPairs 17 = .ok (.getfield 14, 3) := by decide +kernel
theorem dX6_refusalOfPairs_20 : decode cX6_refusalOfPairs 20 = .ok (.iload_n 1, 1) := by decide +kernel
theorem dX6_refusalOfPairs_21 : decode cX6_refusalOfPairs 21 = .ok (.invokevirtual 110, 3) := by decide +kernel
theorem dX6_refusalOfPairs_24 : decode cX6_refusalOfPairs 24 = .ok (.istore_n 3, 1) := by decide +kernel
theorem dX6_refusalOfPairs_25 : decode cX6_refusalOfPairs 25 = .ok (.iload_n 3, 1) := by decide +kernel
theorem dX6_refusalOfPairs_26 : decode cX6_refusalOfPairs 26 = .ok (.bipush 16, 2) := by decide +kernel
theorem dX6_refusalOfPairs_28 : decode cX6_refusalOfPairs 28 = .ok (.if_icmp .gt 9, 3) := by decide +kernel
theorem dX6_refusalOfPairs_31 : decode cX6_refusalOfPairs 31 = .ok (.iload_n 3, 1) := by decide +kernel
theorem dX6_refusalOfPairs_32 : decode cX6_refusalOfPairs 32 = .ok (.iconst 2, 1) := by decide +kernel
theorem dX6_refusalOfPairs_33 : decode cX6_refusalOfPairs 33 = .ok (.irem, 1) := by decide +kernel
theorem dX6_refusalOfPairs_34 : decode cX6_refusalOfPairs 34 = .ok (.ifCond .eq 9, 3) := by decide +kernel
theorem dX6_refusalOfPairs_37 : decode cX6_refusalOfPairs 37 = .ok (.aload_n 0, 1) := by decide +kernel
theorem dX6_refusalOfPairs_38 : decode cX6_refusalOfPairs 38 = .ok (.iconst 5, 1) := by decide +kernel
theorem dX6_refusalOfPairs_39 : decode cX6_refusalOfPairs 39 = .ok (.invokevirtual 96, 3) := by decide +kernel
theorem dX6_refusalOfPairs_42 : decode cX6_refusalOfPairs 42 = .ok (.ireturn, 1) := by decide +kernel
theorem dX6_refusalOfPairs_43 : decode cX6_refusalOfPairs 43 = .ok (.iconst 0, 1) := by decide +kernel
theorem dX6_refusalOfPairs_44 : decode cX6_refusalOfPairs 44 = .ok (.istore 4, 2) := by decide +kernel
theorem dX6_refusalOfPairs_46 : decode cX6_refusalOfPairs 46 = .ok (.iload 4, 2) := by decide +kernel
theorem dX6_refusalOfPairs_48 : decode cX6_refusalOfPairs 48 = .ok (.iload_n 3, 1) := by decide +kernel
theorem dX6_refusalOfPairs_49 : decode cX6_refusalOfPairs 49 = .ok (.if_icmp .ge 43, 3) := by decide +kernel
theorem dX6_refusalOfPairs_52 : decode cX6_refusalOfPairs 52 = .ok (.aload_n 0, 1) := by decide +kernel
theorem dX6_refusalOfPairs_53 : decode cX6_refusalOfPairs 53 = .ok (.getfield 14, 3) := by decide +kernel
theorem dX6_refusalOfPairs_56 : decode cX6_refusalOfPairs 56 = .ok (.iload_n 1, 1) := by decide +kernel
theorem dX6_refusalOfPairs_57 : decode cX6_refusalOfPairs 57 = .ok (.iload 4, 2) := by decide +kernel
theorem dX6_refusalOfPairs_59 : decode cX6_refusalOfPairs 59 = .ok (.invokevirtual 73, 3) := by decide +kernel
theorem dX6_refusalOfPairs_62 : decode cX6_refusalOfPairs 62 = .ok (.ifCond .lt 18, 3) := by decide +kernel
theorem dX6_refusalOfPairs_65 : decode cX6_refusalOfPairs 65 = .ok (.aload_n 0, 1) := by decide +kernel
theorem dX6_refusalOfPairs_66 : decode cX6_refusalOfPairs 66 = .ok (.getfield 14, 3) := by decide +kernel
theorem dX6_refusalOfPairs_69 : decode cX6_refusalOfPairs 69 = .ok (.iload_n 1, 1) := by decide +kernel
theorem dX6_refusalOfPairs_70 : decode cX6_refusalOfPairs 70 = .ok (.iload 4, 2) := by decide +kernel
theorem dX6_refusalOfPairs_72 : decode cX6_refusalOfPairs 72 = .ok (.invokevirtual 73, 3) := by decide +kernel
theorem dX6_refusalOfPairs_75 : decode cX6_refusalOfPairs 75 = .ok (.bipush 99, 2) := by decide +kernel
theorem dX6_refusalOfPairs_77 : decode cX6_refusalOfPairs 77 = .ok (.if_icmp .le 9, 3) := by decide +kernel
theorem dX6_refusalOfPairs_80 : decode cX6_refusalOfPairs 80 = .ok (.aload_n 0, 1) := by decide +kernel
theorem dX6_refusalOfPairs_81 : decode cX6_refusalOfPairs 81 = .ok (.iconst 3, 1) := by decide +kernel
theorem dX6_refusalOfPairs_82 : decode cX6_refusalOfPairs 82 = .ok (.invokevirtual 96, 3) := by decide +kernel
theorem dX6_refusalOfPairs_85 : decode cX6_refusalOfPairs 85 = .ok (.ireturn, 1) := by decide +kernel
theorem dX6_refusalOfPairs_86 : decode cX6_refusalOfPairs 86 = .ok (.iinc 4 1, 3) := by decide +kernel
theorem dX6_refusalOfPairs_89 : decode cX6_refusalOfPairs 89 = .ok (.goto (-43), 3) := by decide +kernel
theorem dX6_refusalOfPairs_92 : decode cX6_refusalOfPairs 92 = .ok (.iconst 0, 1) := by decide +kernel
theorem dX6_refusalOfPairs_93 : decode cX6_refusalOfPairs 93 = .ok (.ireturn, 1) := by decide +kernel
theorem dX6_kindsThatFit_0 : decode cX6_kindsThatFit 0 = .ok (.iconst 0, 1) := by decide +kernel
theorem dX6_kindsThatFit_1 : decode cX6_kindsThatFit 1 = .ok (.istore_n 2, 1) := by decide +kernel
theorem dX6_kindsThatFit_2 : decode cX6_kindsThatFit 2 = .ok (.iconst 0, 1) := by decide +kernel
theorem dX6_kindsThatFit_3 : decode cX6_kindsThatFit 3 = .ok (.istore_n 3, 1) := by decide +kernel
theorem dX6_kindsThatFit_4 : decode cX6_kindsThatFit 4 = .ok (.iload_n 3, 1) := by decide +kernel
theorem dX6_kindsThatFit_5 : decode cX6_kindsThatFit 5 = .ok (.bipush 6, 2) := by decide +kernel
theorem dX6_kindsThatFit_7 : decode cX6_kindsThatFit 7 = .ok (.if_icmp .ge 88, 3) := by decide +kernel
theorem dX6_kindsThatFit_10 : decode cX6_kindsThatFit 10 = .ok (.iconst 1, 1) := by decide +kernel
theorem dX6_kindsThatFit_11 : decode cX6_kindsThatFit 11 = .ok (.istore 4, 2) := by decide +kernel
theorem dX6_kindsThatFit_13 : decode cX6_kindsThatFit 13 = .ok (.iconst 0, 1) := by decide +kernel
theorem dX6_kindsThatFit_14 : decode cX6_kindsThatFit 14 = .ok (.istore 5, 2) := by decide +kernel
theorem dX6_kindsThatFit_16 : decode cX6_kindsThatFit 16 = .ok (.iload 5, 2) := by decide +kernel
theorem dX6_kindsThatFit_18 : decode cX6_kindsThatFit 18 = .ok (.iconst 1, 1) := by decide +kernel
theorem dX6_kindsThatFit_19 : decode cX6_kindsThatFit 19 = .ok (.iadd, 1) := by decide +kernel
theorem dX6_kindsThatFit_20 : decode cX6_kindsThatFit 20 = .ok (.aload_n 0, 1) := by decide +kernel
theorem dX6_kindsThatFit_21 : decode cX6_kindsThatFit 21 = .ok (.getfield 14, 3) := by decide +kernel
theorem dX6_kindsThatFit_24 : decode cX6_kindsThatFit 24 = .ok (.iload_n 1, 1) := by decide +kernel
theorem dX6_kindsThatFit_25 : decode cX6_kindsThatFit 25 = .ok (.invokevirtual 110, 3) := by decide +kernel
theorem dX6_kindsThatFit_28 : decode cX6_kindsThatFit 28 = .ok (.if_icmp .ge 50, 3) := by decide +kernel
theorem dX6_kindsThatFit_31 : decode cX6_kindsThatFit 31 = .ok (.iload 4, 2) := by decide +kernel
theorem dX6_kindsThatFit_33 : decode cX6_kindsThatFit 33 = .ok (.ifCond .eq 36, 3) := by decide +kernel
theorem dX6_kindsThatFit_36 : decode cX6_kindsThatFit 36 = .ok (.iload_n 3, 1) := by decide +kernel
theorem dX6_kindsThatFit_37 : decode cX6_kindsThatFit 37 = .ok (.aload_n 0, 1) := by decide +kernel
theorem dX6_kindsThatFit_38 : decode cX6_kindsThatFit 38 = .ok (.getfield 14, 3) := by decide +kernel
theorem dX6_kindsThatFit_41 : decode cX6_kindsThatFit 41 = .ok (.iload_n 1, 1) := by decide +kernel
theorem dX6_kindsThatFit_42 : decode cX6_kindsThatFit 42 = .ok (.iload 5, 2) := by decide +kernel
theorem dX6_kindsThatFit_44 : decode cX6_kindsThatFit 44 = .ok (.invokevirtual 73, 3) := by decide +kernel
theorem dX6_kindsThatFit_47 : decode cX6_kindsThatFit 47 = .ok (.invokestatic 163, 3) := by decide +kernel
theorem dX6_kindsThatFit_50 : decode cX6_kindsThatFit 50 = .ok (.aload_n 0, 1) := by decide +kernel
theorem dX6_kindsThatFit_51 : decode cX6_kindsThatFit 51 = .ok (.getfield 14, 3) := by decide +kernel
theorem dX6_kindsThatFit_54 : decode cX6_kindsThatFit 54 = .ok (.iload_n 1, 1) := by decide +kernel
theorem dX6_kindsThatFit_55 : decode cX6_kindsThatFit 55 = .ok (.iload 5, 2) := by decide +kernel
theorem dX6_kindsThatFit_57 : decode cX6_kindsThatFit 57 = .ok (.iconst 1, 1) := by decide +kernel
theorem dX6_kindsThatFit_58 : decode cX6_kindsThatFit 58 = .ok (.iadd, 1) := by decide +kernel
theorem dX6_kindsThatFit_59 : decode cX6_kindsThatFit 59 = .ok (.invokevirtual 73, 3) := by decide +kernel
theorem dX6_kindsThatFit_62 : decode cX6_kindsThatFit 62 = .ok (.if_icmp .ne 7, 3) := by decide +kernel
theorem dX6_kindsThatFit_65 : decode cX6_kindsThatFit 65 = .ok (.iconst 1, 1) := by decide +kernel
theorem dX6_kindsThatFit_66 : decode cX6_kindsThatFit 66 = .ok (.goto 4, 3) := by decide +kernel
theorem dX6_kindsThatFit_69 : decode cX6_kindsThatFit 69 = .ok (.iconst 0, 1) := by decide +kernel
theorem dX6_kindsThatFit_70 : decode cX6_kindsThatFit 70 = .ok (.istore 4, 2) := by decide +kernel
theorem dX6_kindsThatFit_72 : decode cX6_kindsThatFit 72 = .ok (.iinc 5 2, 3) := by decide +kernel
theorem dX6_kindsThatFit_75 : decode cX6_kindsThatFit 75 = .ok (.goto (-59), 3) := by decide +kernel
theorem dX6_kindsThatFit_78 : decode cX6_kindsThatFit 78 = .ok (.iload 4, 2) := by decide +kernel
theorem dX6_kindsThatFit_80 : decode cX6_kindsThatFit 80 = .ok (.ifCond .eq 9, 3) := by decide +kernel
theorem dX6_kindsThatFit_83 : decode cX6_kindsThatFit 83 = .ok (.iload_n 2, 1) := by decide +kernel
theorem dX6_kindsThatFit_84 : decode cX6_kindsThatFit 84 = .ok (.iconst 1, 1) := by decide +kernel
theorem dX6_kindsThatFit_85 : decode cX6_kindsThatFit 85 = .ok (.iload_n 3, 1) := by decide +kernel
theorem dX6_kindsThatFit_86 : decode cX6_kindsThatFit 86 = .ok (.ishl, 1) := by decide +kernel
theorem dX6_kindsThatFit_87 : decode cX6_kindsThatFit 87 = .ok (.ior, 1) := by decide +kernel
theorem dX6_kindsThatFit_88 : decode cX6_kindsThatFit 88 = .ok (.istore_n 2, 1) := by decide +kernel
theorem dX6_kindsThatFit_89 : decode cX6_kindsThatFit 89 = .ok (.iinc 3 1, 3) := by decide +kernel
theorem dX6_kindsThatFit_92 : decode cX6_kindsThatFit 92 = .ok (.goto (-88), 3) := by decide +kernel
theorem dX6_kindsThatFit_95 : decode cX6_kindsThatFit 95 = .ok (.iload_n 2, 1) := by decide +kernel
theorem dX6_kindsThatFit_96 : decode cX6_kindsThatFit 96 = .ok (.ireturn, 1) := by decide +kernel
theorem dX6_greatestPart_0 : decode cX6_greatestPart 0 = .ok (.iconst 0, 1) := by decide +kernel
theorem dX6_greatestPart_1 : decode cX6_greatestPart 1 = .ok (.istore_n 2, 1) := by decide +kernel
theorem dX6_greatestPart_2 : decode cX6_greatestPart 2 = .ok (.iconst 0, 1) := by decide +kernel
theorem dX6_greatestPart_3 : decode cX6_greatestPart 3 = .ok (.istore_n 3, 1) := by decide +kernel
theorem dX6_greatestPart_4 : decode cX6_greatestPart 4 = .ok (.iload_n 3, 1) := by decide +kernel
theorem dX6_greatestPart_5 : decode cX6_greatestPart 5 = .ok (.bipush 6, 2) := by decide +kernel
theorem dX6_greatestPart_7 : decode cX6_greatestPart 7 = .ok (.if_icmp .ge 61, 3) := by decide +kernel
theorem dX6_greatestPart_10 : decode cX6_greatestPart 10 = .ok (.iconst 0, 1) := by decide +kernel
theorem dX6_greatestPart_11 : decode cX6_greatestPart 11 = .ok (.istore 4, 2) := by decide +kernel
theorem dX6_greatestPart_13 : decode cX6_greatestPart 13 = .ok (.iconst 0, 1) := by decide +kernel
theorem dX6_greatestPart_14 : decode cX6_greatestPart 14 = .ok (.istore 5, 2) := by decide +kernel
theorem dX6_greatestPart_16 : decode cX6_greatestPart 16 = .ok (.iload 5, 2) := by decide +kernel
theorem dX6_greatestPart_18 : decode cX6_greatestPart 18 = .ok (.bipush 6, 2) := by decide +kernel
theorem dX6_greatestPart_20 : decode cX6_greatestPart 20 = .ok (.if_icmp .ge 35, 3) := by decide +kernel
theorem dX6_greatestPart_23 : decode cX6_greatestPart 23 = .ok (.iload_n 0, 1) := by decide +kernel
theorem dX6_greatestPart_24 : decode cX6_greatestPart 24 = .ok (.iload 5, 2) := by decide +kernel
theorem dX6_greatestPart_26 : decode cX6_greatestPart 26 = .ok (.ishr, 1) := by decide +kernel
theorem dX6_greatestPart_27 : decode cX6_greatestPart 27 = .ok (.iconst 1, 1) := by decide +kernel
theorem dX6_greatestPart_28 : decode cX6_greatestPart 28 = .ok (.iand, 1) := by decide +kernel
theorem dX6_greatestPart_29 : decode cX6_greatestPart 29 = .ok (.ifCond .eq 20, 3) := by decide +kernel
theorem dX6_greatestPart_32 : decode cX6_greatestPart 32 = .ok (.iload 5, 2) := by decide +kernel
theorem dX6_greatestPart_34 : decode cX6_greatestPart 34 = .ok (.iload_n 1, 1) := by decide +kernel
theorem dX6_greatestPart_35 : decode cX6_greatestPart 35 = .ok (.invokestatic 163, 3) := by decide +kernel
theorem dX6_greatestPart_38 : decode cX6_greatestPart 38 = .ok (.iload_n 3, 1) := by decide +kernel
theorem dX6_greatestPart_39 : decode cX6_greatestPart 39 = .ok (.iload_n 1, 1) := by decide +kernel
theorem dX6_greatestPart_40 : decode cX6_greatestPart 40 = .ok (.invokestatic 163, 3) := by decide +kernel
theorem dX6_greatestPart_43 : decode cX6_greatestPart 43 = .ok (.if_icmp .ne 6, 3) := by decide +kernel
theorem dX6_greatestPart_46 : decode cX6_greatestPart 46 = .ok (.iinc 4 1, 3) := by decide +kernel
theorem dX6_greatestPart_49 : decode cX6_greatestPart 49 = .ok (.iinc 5 1, 3) := by decide +kernel
theorem dX6_greatestPart_52 : decode cX6_greatestPart 52 = .ok (.goto (-36), 3) := by decide +kernel
theorem dX6_greatestPart_55 : decode cX6_greatestPart 55 = .ok (.iload_n 2, 1) := by decide +kernel
theorem dX6_greatestPart_56 : decode cX6_greatestPart 56 = .ok (.iload 4, 2) := by decide +kernel
theorem dX6_greatestPart_58 : decode cX6_greatestPart 58 = .ok (.invokestatic 343, 3) := by decide +kernel
theorem dX6_greatestPart_61 : decode cX6_greatestPart 61 = .ok (.istore_n 2, 1) := by decide +kernel
theorem dX6_greatestPart_62 : decode cX6_greatestPart 62 = .ok (.iinc 3 1, 3) := by decide +kernel
theorem dX6_greatestPart_65 : decode cX6_greatestPart 65 = .ok (.goto (-61), 3) := by decide +kernel
theorem dX6_greatestPart_68 : decode cX6_greatestPart 68 = .ok (.iload_n 2, 1) := by decide +kernel
theorem dX6_greatestPart_69 : decode cX6_greatestPart 69 = .ok (.ireturn, 1) := by decide +kernel
theorem dX6_blow_0 : decode cX6_blow 0 = .ok (.aload_n 0, 1) := by decide +kernel
theorem dX6_blow_1 : decode cX6_blow 1 = .ok (.getfield 31, 3) := by decide +kernel
theorem dX6_blow_4 : decode cX6_blow 4 = .ok (.invokevirtual 144, 3) := by decide +kernel
theorem dX6_blow_7 : decode cX6_blow 7 = .ok (.lstore_n 3, 1) := by decide +kernel
theorem dX6_blow_8 : decode cX6_blow 8 = .ok (.aload_n 0, 1) := by decide +kernel
theorem dX6_blow_9 : decode cX6_blow 9 = .ok (.getfield 45, 3) := by decide +kernel
theorem dX6_blow_12 : decode cX6_blow 12 = .ok (.invokevirtual 340, 3) := by decide +kernel
theorem dX6_blow_15 : decode cX6_blow 15 = .ok (.lload_n 3, 1) := by decide +kernel
theorem dX6_blow_16 : decode cX6_blow 16 = .ok (.invokestatic 212, 3) := by decide +kernel
theorem dX6_blow_19 : decode cX6_blow 19 = .ok (.iconst (-1), 1) := by decide +kernel
theorem dX6_blow_20 : decode cX6_blow 20 = .ok (.ixor, 1) := by decide +kernel
theorem dX6_blow_21 : decode cX6_blow 21 = .ok (.iand, 1) := by decide +kernel
theorem dX6_blow_22 : decode cX6_blow 22 = .ok (.istore 5, 2) := by decide +kernel
theorem dX6_blow_24 : decode cX6_blow 24 = .ok (.iload 5, 2) := by decide +kernel
theorem dX6_blow_26 : decode cX6_blow 26 = .ok (.invokestatic 170, 3) := by decide +kernel
theorem dX6_blow_29 : decode cX6_blow 29 = .ok (.istore 6, 2) := by decide +kernel
theorem dX6_blow_31 : decode cX6_blow 31 = .ok (.lconst 0, 1) := by decide +kernel
theorem dX6_blow_32 : decode cX6_blow 32 = .ok (.lstore 7, 2) := by decide +kernel
theorem dX6_blow_34 : decode cX6_blow 34 = .ok (.iconst 0, 1) := by decide +kernel
theorem dX6_blow_35 : decode cX6_blow 35 = .ok (.istore 9, 2) := by decide +kernel
theorem dX6_blow_37 : decode cX6_blow 37 = .ok (.iload 9, 2) := by decide +kernel
theorem dX6_blow_39 : decode cX6_blow 39 = .ok (.bipush 64, 2) := by decide +kernel
theorem dX6_blow_41 : decode cX6_blow 41 = .ok (.if_icmp .ge 74, 3) := by decide +kernel
theorem dX6_blow_44 : decode cX6_blow 44 = .ok (.iload 9, 2) := by decide +kernel
theorem dX6_blow_46 : decode cX6_blow 46 = .ok (.iload 5, 2) := by decide +kernel
theorem dX6_blow_48 : decode cX6_blow 48 = .ok (.iconst (-1), 1) := by decide +kernel
theorem dX6_blow_49 : decode cX6_blow 49 = .ok (.ixor, 1) := by decide +kernel
theorem dX6_blow_50 : decode cX6_blow 50 = .ok (.iand, 1) := by decide +kernel
theorem dX6_blow_51 : decode cX6_blow 51 = .ok (.ifCond .ne 58, 3) := by decide +kernel
theorem dX6_blow_54 : decode cX6_blow 54 = .ok (.iload 9, 2) := by decide +kernel
theorem dX6_blow_56 : decode cX6_blow 56 = .ok (.invokestatic 170, 3) := by decide +kernel
theorem dX6_blow_59 : decode cX6_blow 59 = .ok (.istore 10, 2) := by decide +kernel
theorem dX6_blow_61 : decode cX6_blow 61 = .ok (.iload_n 2, 1) := by decide +kernel
theorem dX6_blow_62 : decode cX6_blow 62 = .ok (.iload 10, 2) := by decide +kernel
theorem dX6_blow_64 : decode cX6_blow 64 = .ok (.invokestatic 348, 3) := by decide +kernel
theorem dX6_blow_67 : decode cX6_blow 67 = .ok (.bipush 12, 2) := by decide +kernel
theorem dX6_blow_69 : decode cX6_blow 69 = .ok (.iload_n 2, 1) := by decide +kernel
theorem dX6_blow_70 : decode cX6_blow 70 = .ok (.isub, 1) := by decide +kernel
theorem dX6_blow_71 : decode cX6_blow 71 = .ok (.iload 6, 2) := by decide +kernel
theorem dX6_blow_73 : decode cX6_blow 73 = .ok (.iload 10, 2) := by decide +kernel
theorem dX6_blow_75 : decode cX6_blow 75 = .ok (.isub, 1) := by decide +kernel
theorem dX6_blow_76 : decode cX6_blow 76 = .ok (.invokestatic 348, 3) := by decide +kernel
theorem dX6_blow_79 : decode cX6_blow 79 = .ok (.lmul, 1) := by decide +kernel
theorem dX6_blow_80 : decode cX6_blow 80 = .ok (.lstore 11, 2) := by decide +kernel
theorem dX6_blow_82 : decode cX6_blow 82 = .ok (.lload 7, 2) := by decide +kernel
theorem dX6_blow_84 : decode cX6_blow 84 = .ok (.lload 11, 2) := by decide +kernel
theorem dX6_blow_86 : decode cX6_blow 86 = .ok (.aload_n 0, 1) := by decide +kernel
theorem dX6_blow_87 : decode cX6_blow 87 = .ok (.getfield 45, 3) := by decide +kernel
theorem dX6_blow_90 : decode cX6_blow 90 = .ok (.lload_n 3, 1) := by decide +kernel
theorem dX6_blow_91 : decode cX6_blow 91 = .ok (.iload 9, 2) := by decide +kernel
theorem dX6_blow_93 : decode cX6_blow 93 = .ok (.invokestatic 209, 3) := by decide +kernel
theorem dX6_blow_96 : decode cX6_blow 96 = .ok (.invokevirtual 250, 3) := by decide +kernel
theorem dX6_blow_99 : decode cX6_blow 99 = .ok (.iload_n 1, 1) := by decide +kernel
theorem dX6_blow_100 : decode cX6_blow 100 = .ok (.iand, 1) := by decide +kernel
theorem dX6_blow_101 : decode cX6_blow 101 = .ok (.invokestatic 170, 3) := by decide +kernel
theorem dX6_blow_104 : decode cX6_blow 104 = .ok (.i2l, 1) := by decide +kernel
theorem dX6_blow_105 : decode cX6_blow 105 = .ok (.lmul, 1) := by decide +kernel
theorem dX6_blow_106 : decode cX6_blow 106 = .ok (.ladd, 1) := by decide +kernel
theorem dX6_blow_107 : decode cX6_blow 107 = .ok (.lstore 7, 2) := by decide +kernel
theorem dX6_blow_109 : decode cX6_blow 109 = .ok (.iinc 9 1, 3) := by decide +kernel
theorem dX6_blow_112 : decode cX6_blow 112 = .ok (.goto (-75), 3) := by decide +kernel
theorem dX6_blow_115 : decode cX6_blow 115 = .ok (.aload_n 0, 1) := by decide +kernel
theorem dX6_blow_116 : decode cX6_blow 116 = .ok (.lload 7, 2) := by decide +kernel
theorem dX6_blow_118 : decode cX6_blow 118 = .ok (.bipush 12, 2) := by decide +kernel
theorem dX6_blow_120 : decode cX6_blow 120 = .ok (.iload 6, 2) := by decide +kernel
theorem dX6_blow_122 : decode cX6_blow 122 = .ok (.invokestatic 348, 3) := by decide +kernel
theorem dX6_blow_125 : decode cX6_blow 125 = .ok (.invokevirtual 352, 3) := by decide +kernel
theorem dX6_blow_128 : decode cX6_blow 128 = .ok (.ireturn, 1) := by decide +kernel
theorem dX6_tellPart_0 : decode cX6_tellPart 0 = .ok (.lload_n 1, 1) := by decide +kernel
theorem dX6_tellPart_1 : decode cX6_tellPart 1 = .ok (.lload_n 3, 1) := by decide +kernel
theorem dX6_tellPart_2 : decode cX6_tellPart 2 = .ok (.invokestatic 355, 3) := by decide +kernel
theorem dX6_tellPart_5 : decode cX6_tellPart 5 = .ok (.lstore 5, 2) := by decide +kernel
theorem dX6_tellPart_7 : decode cX6_tellPart 7 = .ok (.lload 5, 2) := by decide +kernel
theorem dX6_tellPart_9 : decode cX6_tellPart 9 = .ok (.lconst 0, 1) := by decide +kernel
theorem dX6_tellPart_10 : decode cX6_tellPart 10 = .ok (.lcmp, 1) := by decide +kernel
theorem dX6_tellPart_11 : decode cX6_tellPart 11 = .ok (.ifCond .le 19, 3) := by decide +kernel
theorem dX6_tellPart_14 : decode cX6_tellPart 14 = .ok (.aload_n 0, 1) := by decide +kernel
theorem dX6_tellPart_15 : decode cX6_tellPart 15 = .ok (.lload_n 1, 1) := by decide +kernel
theorem dX6_tellPart_16 : decode cX6_tellPart 16 = .ok (.lload 5, 2) := by decide +kernel
theorem dX6_tellPart_18 : decode cX6_tellPart 18 = .ok (.ldiv, 1) := by decide +kernel
theorem dX6_tellPart_19 : decode cX6_tellPart 19 = .ok (.putfield 59, 3) := by decide +kernel
theorem dX6_tellPart_22 : decode cX6_tellPart 22 = .ok (.aload_n 0, 1) := by decide +kernel
theorem dX6_tellPart_23 : decode cX6_tellPart 23 = .ok (.lload_n 3, 1) := by decide +kernel
theorem dX6_tellPart_24 : decode cX6_tellPart 24 = .ok (.lload 5, 2) := by decide +kernel
theorem dX6_tellPart_26 : decode cX6_tellPart 26 = .ok (.ldiv, 1) := by decide +kernel
theorem dX6_tellPart_27 : decode cX6_tellPart 27 = .ok (.putfield 63, 3) := by decide +kernel
theorem dX6_tellPart_30 : decode cX6_tellPart 30 = .ok (.iconst 1, 1) := by decide +kernel
theorem dX6_tellPart_31 : decode cX6_tellPart 31 = .ok (.ireturn, 1) := by decide +kernel
theorem dX6_greatestDivisor_0 : decode cX6_greatestDivisor 0 = .ok (.lload_n 0, 1) := by decide +kernel
theorem dX6_greatestDivisor_1 : decode cX6_greatestDivisor 1 = .ok (.lstore 4, 2) := by decide +kernel
theorem dX6_greatestDivisor_3 : decode cX6_greatestDivisor 3 = .ok (.lload_n 2, 1) := by decide +kernel
theorem dX6_greatestDivisor_4 : decode cX6_greatestDivisor 4 = .ok (.lstore 6, 2) := by decide +kernel
theorem dX6_greatestDivisor_6 : decode cX6_greatestDivisor 6 = .ok (.iconst 0, 1) := by decide +kernel
theorem dX6_greatestDivisor_7 : decode cX6_greatestDivisor 7 = .ok (.istore 8, 2) := by decide +kernel
theorem dX6_greatestDivisor_9 : decode cX6_greatestDivisor 9 = .ok (.iload 8, 2) := by decide +kernel
theorem dX6_greatestDivisor_11 : decode cX6_greatestDivisor 11 = .ok (.sipush 200, 3) := by decide +kernel
theorem dX6_greatestDivisor_14 : decode cX6_greatestDivisor 14 = .ok (.if_icmp .ge 31, 3) := by decide +kernel
theorem dX6_greatestDivisor_17 : decode cX6_greatestDivisor 17 = .ok (.lload 6, 2) := by decide +kernel
theorem dX6_greatestDivisor_19 : decode cX6_greatestDivisor 19 = .ok (.lconst 0, 1) := by decide +kernel
theorem dX6_greatestDivisor_20 : decode cX6_greatestDivisor 20 = .ok (.lcmp, 1) := by decide +kernel
theorem dX6_greatestDivisor_21 : decode cX6_greatestDivisor 21 = .ok (.ifCond .eq 24, 3) := by decide +kernel
theorem dX6_greatestDivisor_24 : decode cX6_greatestDivisor 24 = .ok (.lload 4, 2) := by decide +kernel
theorem dX6_greatestDivisor_26 : decode cX6_greatestDivisor 26 = .ok (.lload 6, 2) := by decide +kernel
theorem dX6_greatestDivisor_28 : decode cX6_greatestDivisor 28 = .ok (.lrem, 1) := by decide +kernel
theorem dX6_greatestDivisor_29 : decode cX6_greatestDivisor 29 = .ok (.lstore 9, 2) := by decide +kernel
theorem dX6_greatestDivisor_31 : decode cX6_greatestDivisor 31 = .ok (.lload 6, 2) := by decide +kernel
theorem dX6_greatestDivisor_33 : decode cX6_greatestDivisor 33 = .ok (.lstore 4, 2) := by decide +kernel
theorem dX6_greatestDivisor_35 : decode cX6_greatestDivisor 35 = .ok (.lload 9, 2) := by decide +kernel
theorem dX6_greatestDivisor_37 : decode cX6_greatestDivisor 37 = .ok (.lstore 6, 2) := by decide +kernel
theorem dX6_greatestDivisor_39 : decode cX6_greatestDivisor 39 = .ok (.iinc 8 1, 3) := by decide +kernel
theorem dX6_greatestDivisor_42 : decode cX6_greatestDivisor 42 = .ok (.goto (-33), 3) := by decide +kernel
theorem dX6_greatestDivisor_45 : decode cX6_greatestDivisor 45 = .ok (.lload 4, 2) := by decide +kernel
theorem dX6_greatestDivisor_47 : decode cX6_greatestDivisor 47 = .ok (.lreturn, 1) := by decide +kernel
theorem dX6_power_0 : decode cX6_power 0 = .ok (.lconst 1, 1) := by decide +kernel
theorem dX6_power_1 : decode cX6_power 1 = .ok (.lstore_n 2, 1) := by decide +kernel
theorem dX6_power_2 : decode cX6_power 2 = .ok (.iconst 0, 1) := by decide +kernel
theorem dX6_power_3 : decode cX6_power 3 = .ok (.istore 4, 2) := by decide +kernel
theorem dX6_power_5 : decode cX6_power 5 = .ok (.iload 4, 2) := by decide +kernel
theorem dX6_power_7 : decode cX6_power 7 = .ok (.iload_n 1, 1) := by decide +kernel
theorem dX6_power_8 : decode cX6_power 8 = .ok (.if_icmp .ge 14, 3) := by decide +kernel
theorem dX6_power_11 : decode cX6_power 11 = .ok (.lload_n 2, 1) := by decide +kernel
theorem dX6_power_12 : decode cX6_power 12 = .ok (.iload_n 0, 1) := by decide +kernel
theorem dX6_power_13 : decode cX6_power 13 = .ok (.i2l, 1) := by decide +kernel
theorem dX6_power_14 : decode cX6_power 14 = .ok (.lmul, 1) := by decide +kernel
theorem dX6_power_15 : decode cX6_power 15 = .ok (.lstore_n 2, 1) := by decide +kernel
theorem dX6_power_16 : decode cX6_power 16 = .ok (.iinc 4 1, 3) := by decide +kernel
theorem dX6_power_19 : decode cX6_power 19 = .ok (.goto (-14), 3) := by decide +kernel
theorem dX6_power_22 : decode cX6_power 22 = .ok (.lload_n 2, 1) := by decide +kernel
theorem dX6_power_23 : decode cX6_power 23 = .ok (.lreturn, 1) := by decide +kernel
theorem dX6_isOf_0 : decode cX6_isOf 0 = .ok (.iload_n 0, 1) := by decide +kernel
theorem dX6_isOf_1 : decode cX6_isOf 1 = .ok (.iload_n 1, 1) := by decide +kernel
theorem dX6_isOf_2 : decode cX6_isOf 2 = .ok (.if_icmp .eq 27, 3) := by decide +kernel
theorem dX6_isOf_5 : decode cX6_isOf 5 = .ok (.iload_n 1, 1) := by decide +kernel
theorem dX6_isOf_6 : decode cX6_isOf 6 = .ok (.ifCond .eq 23, 3) := by decide +kernel
theorem dX6_isOf_9 : decode cX6_isOf 9 = .ok (.iload_n 0, 1) := by decide +kernel
theorem dX6_isOf_10 : decode cX6_isOf 10 = .ok (.iconst 4, 1) := by decide +kernel
theorem dX6_isOf_11 : decode cX6_isOf 11 = .ok (.if_icmp .ne 8, 3) := by decide +kernel
theorem dX6_isOf_14 : decode cX6_isOf 14 = .ok (.iload_n 1, 1) := by decide +kernel
theorem dX6_isOf_15 : decode cX6_isOf 15 = .ok (.iconst 1, 1) := by decide +kernel
theorem dX6_isOf_16 : decode cX6_isOf 16 = .ok (.if_icmp .eq 13, 3) := by decide +kernel
theorem dX6_isOf_19 : decode cX6_isOf 19 = .ok (.iload_n 0, 1) := by decide +kernel
theorem dX6_isOf_20 : decode cX6_isOf 20 = .ok (.iconst 5, 1) := by decide +kernel
theorem dX6_isOf_21 : decode cX6_isOf 21 = .ok (.if_icmp .ne 12, 3) := by decide +kernel
theorem dX6_isOf_24 : decode cX6_isOf 24 = .ok (.iload_n 1, 1) := by decide +kernel
theorem dX6_isOf_25 : decode cX6_isOf 25 = .ok (.iconst 3, 1) := by decide +kernel
theorem dX6_isOf_26 : decode cX6_isOf 26 = .ok (.if_icmp .ne 7, 3) := by decide +kernel
theorem dX6_isOf_29 : decode cX6_isOf 29 = .ok (.iconst 1, 1) := by decide +kernel
theorem dX6_isOf_30 : decode cX6_isOf 30 = .ok (.goto 4, 3) := by decide +kernel
theorem dX6_isOf_33 : decode cX6_isOf 33 = .ok (.iconst 0, 1) := by decide +kernel
theorem dX6_isOf_34 : decode cX6_isOf 34 = .ok (.ireturn, 1) := by decide +kernel
theorem dX6_passed_0 : decode cX6_passed 0 = .ok (.iload_n 0, 1) := by decide +kernel
theorem dX6_passed_1 : decode cX6_passed 1 = .ok (.tableswitch 57 1 5 #[35, 37, 39, 35, 47], 35) := by decide +kernel
theorem dX6_passed_36 : decode cX6_passed 36 = .ok (.iconst 0, 1) := by decide +kernel
theorem dX6_passed_37 : decode cX6_passed 37 = .ok (.ireturn, 1) := by decide +kernel
theorem dX6_passed_38 : decode cX6_passed 38 = .ok (.iload_n 1, 1) := by decide +kernel
theorem dX6_passed_39 : decode cX6_passed 39 = .ok (.ireturn, 1) := by decide +kernel
theorem dX6_passed_40 : decode cX6_passed 40 = .ok (.iload_n 1, 1) := by decide +kernel
theorem dX6_passed_41 : decode cX6_passed 41 = .ok (.iconst 1, 1) := by decide +kernel
theorem dX6_passed_42 : decode cX6_passed 42 = .ok (.isub, 1) := by decide +kernel
theorem dX6_passed_43 : decode cX6_passed 43 = .ok (.iconst 0, 1) := by decide +kernel
theorem dX6_passed_44 : decode cX6_passed 44 = .ok (.invokestatic 343, 3) := by decide +kernel
theorem dX6_passed_47 : decode cX6_passed 47 = .ok (.ireturn, 1) := by decide +kernel
theorem dX6_passed_48 : decode cX6_passed 48 = .ok (.iload_n 1, 1) := by decide +kernel
theorem dX6_passed_49 : decode cX6_passed 49 = .ok (.iconst 1, 1) := by decide +kernel
theorem dX6_passed_50 : decode cX6_passed 50 = .ok (.isub, 1) := by decide +kernel
theorem dX6_passed_51 : decode cX6_passed 51 = .ok (.iconst 0, 1) := by decide +kernel
theorem dX6_passed_52 : decode cX6_passed 52 = .ok (.invokestatic 343, 3) := by decide +kernel
theorem dX6_passed_55 : decode cX6_passed 55 = .ok (.iconst 2, 1) := by decide +kernel
theorem dX6_passed_56 : decode cX6_passed 56 = .ok (.idiv, 1) := by decide +kernel
theorem dX6_passed_57 : decode cX6_passed 57 = .ok (.ireturn, 1) := by decide +kernel
theorem dX6_passed_58 : decode cX6_passed 58 = .ok (.iload_n 1, 1) := by decide +kernel
theorem dX6_passed_59 : decode cX6_passed 59 = .ok (.iconst 2, 1) := by decide +kernel
theorem dX6_passed_60 : decode cX6_passed 60 = .ok (.idiv, 1) := by decide +kernel
theorem dX6_passed_61 : decode cX6_passed 61 = .ok (.ireturn, 1) := by decide +kernel
theorem dJ6_numberOfTrailingZeros_0f7a4_0 : decode cJ6_numberOfTrailingZeros_0f7a4 0 = .ok (.iload_n 0, 1) := by decide +kernel
theorem dJ6_numberOfTrailingZeros_0f7a4_1 : decode cJ6_numberOfTrailingZeros_0f7a4 1 = .ok (.iconst (-1), 1) := by decide +kernel
theorem dJ6_numberOfTrailingZeros_0f7a4_2 : decode cJ6_numberOfTrailingZeros_0f7a4 2 = .ok (.ixor, 1) := by decide +kernel
theorem dJ6_numberOfTrailingZeros_0f7a4_3 : decode cJ6_numberOfTrailingZeros_0f7a4 3 = .ok (.iload_n 0, 1) := by decide +kernel
theorem dJ6_numberOfTrailingZeros_0f7a4_4 : decode cJ6_numberOfTrailingZeros_0f7a4 4 = .ok (.iconst 1, 1) := by decide +kernel
theorem dJ6_numberOfTrailingZeros_0f7a4_5 : decode cJ6_numberOfTrailingZeros_0f7a4 5 = .ok (.isub, 1) := by decide +kernel
theorem dJ6_numberOfTrailingZeros_0f7a4_6 : decode cJ6_numberOfTrailingZeros_0f7a4 6 = .ok (.iand, 1) := by decide +kernel
theorem dJ6_numberOfTrailingZeros_0f7a4_7 : decode cJ6_numberOfTrailingZeros_0f7a4 7 = .ok (.istore_n 0, 1) := by decide +kernel
theorem dJ6_numberOfTrailingZeros_0f7a4_8 : decode cJ6_numberOfTrailingZeros_0f7a4 8 = .ok (.iload_n 0, 1) := by decide +kernel
theorem dJ6_numberOfTrailingZeros_0f7a4_9 : decode cJ6_numberOfTrailingZeros_0f7a4 9 = .ok (.ifCond .gt 8, 3) := by decide +kernel
theorem dJ6_numberOfTrailingZeros_0f7a4_12 : decode cJ6_numberOfTrailingZeros_0f7a4 12 = .ok (.iload_n 0, 1) := by decide +kernel
theorem dJ6_numberOfTrailingZeros_0f7a4_13 : decode cJ6_numberOfTrailingZeros_0f7a4 13 = .ok (.bipush 32, 2) := by decide +kernel
theorem dJ6_numberOfTrailingZeros_0f7a4_15 : decode cJ6_numberOfTrailingZeros_0f7a4 15 = .ok (.iand, 1) := by decide +kernel
theorem dJ6_numberOfTrailingZeros_0f7a4_16 : decode cJ6_numberOfTrailingZeros_0f7a4 16 = .ok (.ireturn, 1) := by decide +kernel
theorem dJ6_numberOfTrailingZeros_0f7a4_17 : decode cJ6_numberOfTrailingZeros_0f7a4 17 = .ok (.iconst 1, 1) := by decide +kernel
theorem dJ6_numberOfTrailingZeros_0f7a4_18 : decode cJ6_numberOfTrailingZeros_0f7a4 18 = .ok (.istore_n 1, 1) := by decide +kernel
theorem dJ6_numberOfTrailingZeros_0f7a4_19 : decode cJ6_numberOfTrailingZeros_0f7a4 19 = .ok (.iload_n 0, 1) := by decide +kernel
theorem dJ6_numberOfTrailingZeros_0f7a4_20 : decode cJ6_numberOfTrailingZeros_0f7a4 20 = .ok (.ldc_w 264, 3) := by decide +kernel
theorem dJ6_numberOfTrailingZeros_0f7a4_23 : decode cJ6_numberOfTrailingZeros_0f7a4 23 = .ok (.if_icmp .le 11, 3) := by decide +kernel
theorem dJ6_numberOfTrailingZeros_0f7a4_26 : decode cJ6_numberOfTrailingZeros_0f7a4 26 = .ok (.iinc 1 16, 3) := by decide +kernel
theorem dJ6_numberOfTrailingZeros_0f7a4_29 : decode cJ6_numberOfTrailingZeros_0f7a4 29 = .ok (.iload_n 0, 1) := by decide +kernel
theorem dJ6_numberOfTrailingZeros_0f7a4_30 : decode cJ6_numberOfTrailingZeros_0f7a4 30 = .ok (.bipush 16, 2) := by decide +kernel
theorem dJ6_numberOfTrailingZeros_0f7a4_32 : decode cJ6_numberOfTrailingZeros_0f7a4 32 = .ok (.iushr, 1) := by decide +kernel
theorem dJ6_numberOfTrailingZeros_0f7a4_33 : decode cJ6_numberOfTrailingZeros_0f7a4 33 = .ok (.istore_n 0, 1) := by decide +kernel
theorem dJ6_numberOfTrailingZeros_0f7a4_34 : decode cJ6_numberOfTrailingZeros_0f7a4 34 = .ok (.iload_n 0, 1) := by decide +kernel
theorem dJ6_numberOfTrailingZeros_0f7a4_35 : decode cJ6_numberOfTrailingZeros_0f7a4 35 = .ok (.sipush 256, 3) := by decide +kernel
theorem dJ6_numberOfTrailingZeros_0f7a4_38 : decode cJ6_numberOfTrailingZeros_0f7a4 38 = .ok (.if_icmp .le 11, 3) := by decide +kernel
theorem dJ6_numberOfTrailingZeros_0f7a4_41 : decode cJ6_numberOfTrailingZeros_0f7a4 41 = .ok (.iinc 1 8, 3) := by decide +kernel
theorem dJ6_numberOfTrailingZeros_0f7a4_44 : decode cJ6_numberOfTrailingZeros_0f7a4 44 = .ok (.iload_n 0, 1) := by decide +kernel
theorem dJ6_numberOfTrailingZeros_0f7a4_45 : decode cJ6_numberOfTrailingZeros_0f7a4 45 = .ok (.bipush 8, 2) := by decide +kernel
theorem dJ6_numberOfTrailingZeros_0f7a4_47 : decode cJ6_numberOfTrailingZeros_0f7a4 47 = .ok (.iushr, 1) := by decide +kernel
theorem dJ6_numberOfTrailingZeros_0f7a4_48 : decode cJ6_numberOfTrailingZeros_0f7a4 48 = .ok (.istore_n 0, 1) := by decide +kernel
theorem dJ6_numberOfTrailingZeros_0f7a4_49 : decode cJ6_numberOfTrailingZeros_0f7a4 49 = .ok (.iload_n 0, 1) := by decide +kernel
theorem dJ6_numberOfTrailingZeros_0f7a4_50 : decode cJ6_numberOfTrailingZeros_0f7a4 50 = .ok (.bipush 16, 2) := by decide +kernel
theorem dJ6_numberOfTrailingZeros_0f7a4_52 : decode cJ6_numberOfTrailingZeros_0f7a4 52 = .ok (.if_icmp .le 10, 3) := by decide +kernel
theorem dJ6_numberOfTrailingZeros_0f7a4_55 : decode cJ6_numberOfTrailingZeros_0f7a4 55 = .ok (.iinc 1 4, 3) := by decide +kernel
theorem dJ6_numberOfTrailingZeros_0f7a4_58 : decode cJ6_numberOfTrailingZeros_0f7a4 58 = .ok (.iload_n 0, 1) := by decide +kernel
theorem dJ6_numberOfTrailingZeros_0f7a4_59 : decode cJ6_numberOfTrailingZeros_0f7a4 59 = .ok (.iconst 4, 1) := by decide +kernel
theorem dJ6_numberOfTrailingZeros_0f7a4_60 : decode cJ6_numberOfTrailingZeros_0f7a4 60 = .ok (.iushr, 1) := by decide +kernel
theorem dJ6_numberOfTrailingZeros_0f7a4_61 : decode cJ6_numberOfTrailingZeros_0f7a4 61 = .ok (.istore_n 0, 1) := by decide +kernel
theorem dJ6_numberOfTrailingZeros_0f7a4_62 : decode cJ6_numberOfTrailingZeros_0f7a4 62 = .ok (.iload_n 0, 1) := by decide +kernel
theorem dJ6_numberOfTrailingZeros_0f7a4_63 : decode cJ6_numberOfTrailingZeros_0f7a4 63 = .ok (.iconst 4, 1) := by decide +kernel
theorem dJ6_numberOfTrailingZeros_0f7a4_64 : decode cJ6_numberOfTrailingZeros_0f7a4 64 = .ok (.if_icmp .le 10, 3) := by decide +kernel
theorem dJ6_numberOfTrailingZeros_0f7a4_67 : decode cJ6_numberOfTrailingZeros_0f7a4 67 = .ok (.iinc 1 2, 3) := by decide +kernel
theorem dJ6_numberOfTrailingZeros_0f7a4_70 : decode cJ6_numberOfTrailingZeros_0f7a4 70 = .ok (.iload_n 0, 1) := by decide +kernel
theorem dJ6_numberOfTrailingZeros_0f7a4_71 : decode cJ6_numberOfTrailingZeros_0f7a4 71 = .ok (.iconst 2, 1) := by decide +kernel
theorem dJ6_numberOfTrailingZeros_0f7a4_72 : decode cJ6_numberOfTrailingZeros_0f7a4 72 = .ok (.iushr, 1) := by decide +kernel
theorem dJ6_numberOfTrailingZeros_0f7a4_73 : decode cJ6_numberOfTrailingZeros_0f7a4 73 = .ok (.istore_n 0, 1) := by decide +kernel
theorem dJ6_numberOfTrailingZeros_0f7a4_74 : decode cJ6_numberOfTrailingZeros_0f7a4 74 = .ok (.iload_n 1, 1) := by decide +kernel
theorem dJ6_numberOfTrailingZeros_0f7a4_75 : decode cJ6_numberOfTrailingZeros_0f7a4 75 = .ok (.iload_n 0, 1) := by decide +kernel
theorem dJ6_numberOfTrailingZeros_0f7a4_76 : decode cJ6_numberOfTrailingZeros_0f7a4 76 = .ok (.iconst 1, 1) := by decide +kernel
theorem dJ6_numberOfTrailingZeros_0f7a4_77 : decode cJ6_numberOfTrailingZeros_0f7a4 77 = .ok (.iushr, 1) := by decide +kernel
theorem dJ6_numberOfTrailingZeros_0f7a4_78 : decode cJ6_numberOfTrailingZeros_0f7a4 78 = .ok (.iadd, 1) := by decide +kernel
theorem dJ6_numberOfTrailingZeros_0f7a4_79 : decode cJ6_numberOfTrailingZeros_0f7a4 79 = .ok (.ireturn, 1) := by decide +kernel
theorem dJ6_bitCount_0f7a4_0 : decode cJ6_bitCount_0f7a4 0 = .ok (.iload_n 0, 1) := by decide +kernel
theorem dJ6_bitCount_0f7a4_1 : decode cJ6_bitCount_0f7a4 1 = .ok (.iload_n 0, 1) := by decide +kernel
theorem dJ6_bitCount_0f7a4_2 : decode cJ6_bitCount_0f7a4 2 = .ok (.iconst 1, 1) := by decide +kernel
theorem dJ6_bitCount_0f7a4_3 : decode cJ6_bitCount_0f7a4 3 = .ok (.iushr, 1) := by decide +kernel
theorem dJ6_bitCount_0f7a4_4 : decode cJ6_bitCount_0f7a4 4 = .ok (.ldc_w 265, 3) := by decide +kernel
theorem dJ6_bitCount_0f7a4_7 : decode cJ6_bitCount_0f7a4 7 = .ok (.iand, 1) := by decide +kernel
theorem dJ6_bitCount_0f7a4_8 : decode cJ6_bitCount_0f7a4 8 = .ok (.isub, 1) := by decide +kernel
theorem dJ6_bitCount_0f7a4_9 : decode cJ6_bitCount_0f7a4 9 = .ok (.istore_n 0, 1) := by decide +kernel
theorem dJ6_bitCount_0f7a4_10 : decode cJ6_bitCount_0f7a4 10 = .ok (.iload_n 0, 1) := by decide +kernel
theorem dJ6_bitCount_0f7a4_11 : decode cJ6_bitCount_0f7a4 11 = .ok (.ldc_w 266, 3) := by decide +kernel
theorem dJ6_bitCount_0f7a4_14 : decode cJ6_bitCount_0f7a4 14 = .ok (.iand, 1) := by decide +kernel
theorem dJ6_bitCount_0f7a4_15 : decode cJ6_bitCount_0f7a4 15 = .ok (.iload_n 0, 1) := by decide +kernel
theorem dJ6_bitCount_0f7a4_16 : decode cJ6_bitCount_0f7a4 16 = .ok (.iconst 2, 1) := by decide +kernel
theorem dJ6_bitCount_0f7a4_17 : decode cJ6_bitCount_0f7a4 17 = .ok (.iushr, 1) := by decide +kernel
theorem dJ6_bitCount_0f7a4_18 : decode cJ6_bitCount_0f7a4 18 = .ok (.ldc_w 266, 3) := by decide +kernel
theorem dJ6_bitCount_0f7a4_21 : decode cJ6_bitCount_0f7a4 21 = .ok (.iand, 1) := by decide +kernel
theorem dJ6_bitCount_0f7a4_22 : decode cJ6_bitCount_0f7a4 22 = .ok (.iadd, 1) := by decide +kernel
theorem dJ6_bitCount_0f7a4_23 : decode cJ6_bitCount_0f7a4 23 = .ok (.istore_n 0, 1) := by decide +kernel
theorem dJ6_bitCount_0f7a4_24 : decode cJ6_bitCount_0f7a4 24 = .ok (.iload_n 0, 1) := by decide +kernel
theorem dJ6_bitCount_0f7a4_25 : decode cJ6_bitCount_0f7a4 25 = .ok (.iload_n 0, 1) := by decide +kernel
theorem dJ6_bitCount_0f7a4_26 : decode cJ6_bitCount_0f7a4 26 = .ok (.iconst 4, 1) := by decide +kernel
theorem dJ6_bitCount_0f7a4_27 : decode cJ6_bitCount_0f7a4 27 = .ok (.iushr, 1) := by decide +kernel
theorem dJ6_bitCount_0f7a4_28 : decode cJ6_bitCount_0f7a4 28 = .ok (.iadd, 1) := by decide +kernel
theorem dJ6_bitCount_0f7a4_29 : decode cJ6_bitCount_0f7a4 29 = .ok (.ldc_w 267, 3) := by decide +kernel
theorem dJ6_bitCount_0f7a4_32 : decode cJ6_bitCount_0f7a4 32 = .ok (.iand, 1) := by decide +kernel
theorem dJ6_bitCount_0f7a4_33 : decode cJ6_bitCount_0f7a4 33 = .ok (.istore_n 0, 1) := by decide +kernel
theorem dJ6_bitCount_0f7a4_34 : decode cJ6_bitCount_0f7a4 34 = .ok (.iload_n 0, 1) := by decide +kernel
theorem dJ6_bitCount_0f7a4_35 : decode cJ6_bitCount_0f7a4 35 = .ok (.iload_n 0, 1) := by decide +kernel
theorem dJ6_bitCount_0f7a4_36 : decode cJ6_bitCount_0f7a4 36 = .ok (.bipush 8, 2) := by decide +kernel
theorem dJ6_bitCount_0f7a4_38 : decode cJ6_bitCount_0f7a4 38 = .ok (.iushr, 1) := by decide +kernel
theorem dJ6_bitCount_0f7a4_39 : decode cJ6_bitCount_0f7a4 39 = .ok (.iadd, 1) := by decide +kernel
theorem dJ6_bitCount_0f7a4_40 : decode cJ6_bitCount_0f7a4 40 = .ok (.istore_n 0, 1) := by decide +kernel
theorem dJ6_bitCount_0f7a4_41 : decode cJ6_bitCount_0f7a4 41 = .ok (.iload_n 0, 1) := by decide +kernel
theorem dJ6_bitCount_0f7a4_42 : decode cJ6_bitCount_0f7a4 42 = .ok (.iload_n 0, 1) := by decide +kernel
theorem dJ6_bitCount_0f7a4_43 : decode cJ6_bitCount_0f7a4 43 = .ok (.bipush 16, 2) := by decide +kernel
theorem dJ6_bitCount_0f7a4_45 : decode cJ6_bitCount_0f7a4 45 = .ok (.iushr, 1) := by decide +kernel
theorem dJ6_bitCount_0f7a4_46 : decode cJ6_bitCount_0f7a4 46 = .ok (.iadd, 1) := by decide +kernel
theorem dJ6_bitCount_0f7a4_47 : decode cJ6_bitCount_0f7a4 47 = .ok (.istore_n 0, 1) := by decide +kernel
theorem dJ6_bitCount_0f7a4_48 : decode cJ6_bitCount_0f7a4 48 = .ok (.iload_n 0, 1) := by decide +kernel
theorem dJ6_bitCount_0f7a4_49 : decode cJ6_bitCount_0f7a4 49 = .ok (.bipush 63, 2) := by decide +kernel
theorem dJ6_bitCount_0f7a4_51 : decode cJ6_bitCount_0f7a4 51 = .ok (.iand, 1) := by decide +kernel
theorem dJ6_bitCount_0f7a4_52 : decode cJ6_bitCount_0f7a4 52 = .ok (.ireturn, 1) := by decide +kernel
theorem dJ9_max_7cf53_0 : decode cJ9_max_7cf53 0 = .ok (.iload_n 0, 1) := by decide +kernel
theorem dJ9_max_7cf53_1 : decode cJ9_max_7cf53 1 = .ok (.iload_n 1, 1) := by decide +kernel
theorem dJ9_max_7cf53_2 : decode cJ9_max_7cf53 2 = .ok (.if_icmp .lt 7, 3) := by decide +kernel
theorem dJ9_max_7cf53_5 : decode cJ9_max_7cf53 5 = .ok (.iload_n 0, 1) := by decide +kernel
theorem dJ9_max_7cf53_6 : decode cJ9_max_7cf53 6 = .ok (.goto 4, 3) := by decide +kernel
theorem dJ9_max_7cf53_9 : decode cJ9_max_7cf53 9 = .ok (.iload_n 1, 1) := by decide +kernel
theorem dJ9_max_7cf53_10 : decode cJ9_max_7cf53 10 = .ok (.ireturn, 1) := by decide +kernel
theorem dJ9_min_7cf53_0 : decode cJ9_min_7cf53 0 = .ok (.iload_n 0, 1) := by decide +kernel
theorem dJ9_min_7cf53_1 : decode cJ9_min_7cf53 1 = .ok (.iload_n 1, 1) := by decide +kernel
theorem dJ9_min_7cf53_2 : decode cJ9_min_7cf53 2 = .ok (.if_icmp .gt 7, 3) := by decide +kernel
theorem dJ9_min_7cf53_5 : decode cJ9_min_7cf53 5 = .ok (.iload_n 0, 1) := by decide +kernel
theorem dJ9_min_7cf53_6 : decode cJ9_min_7cf53 6 = .ok (.goto 4, 3) := by decide +kernel
theorem dJ9_min_7cf53_9 : decode cJ9_min_7cf53 9 = .ok (.iload_n 1, 1) := by decide +kernel
theorem dJ9_min_7cf53_10 : decode cJ9_min_7cf53 10 = .ok (.ireturn, 1) := by decide +kernel
end
section
theorem dL_cell_0 : decode cL_cell 0 = .ok (.iload_n 1, 1) := by decide +kernel
theorem dL_cell_1 : decode cL_cell 1 = .ok (.aload_n 0, 1) := by decide +kernel
theorem dL_cell_2 : decode cL_cell 2 = .ok (.arraylength, 1) := by decide +kernel
theorem dL_cell_3 : decode cL_cell 3 = .ok (.if_icmp .ge 9, 3) := by decide +kernel
theorem dL_cell_6 : decode cL_cell 6 = .ok (.aload_n 0, 1) := by decide +kernel
theorem dL_cell_7 : decode cL_cell 7 = .ok (.iload_n 1, 1) := by decide +kernel
theorem dL_cell_8 : decode cL_cell 8 = .ok (.iaload, 1) := by decide +kernel
theorem dL_cell_9 : decode cL_cell 9 = .ok (.goto 11, 3) := by decide +kernel
theorem dL_cell_12 : decode cL_cell 12 = .ok (.ldc 7, 2) := by decide +kernel
theorem dL_cell_14 : decode cL_cell 14 = .ok (.iload_n 1, 1) := by decide +kernel
theorem dL_cell_15 : decode cL_cell 15 = .ok (.sipush 541, 3) := by decide +kernel
theorem dL_cell_18 : decode cL_cell 18 = .ok (.iadd, 1) := by decide +kernel
theorem dL_cell_19 : decode cL_cell 19 = .ok (.imul, 1) := by decide +kernel
theorem dL_cell_20 : decode cL_cell 20 = .ok (.ireturn, 1) := by decide +kernel
theorem dL_up_0 : decode cL_up 0 = .ok (.iload_n 0, 1) := by decide +kernel
theorem dL_up_1 : decode cL_up 1 = .ok (.ldc 8, 2) := by decide +kernel
theorem dL_up_3 : decode cL_up 3 = .ok (.iand, 1) := by decide +kernel
theorem dL_up_4 : decode cL_up 4 = .ok (.iload_n 1, 1) := by decide +kernel
theorem dL_up_5 : decode cL_up 5 = .ok (.irem, 1) := by decide +kernel
theorem dL_up_6 : decode cL_up 6 = .ok (.ireturn, 1) := by decide +kernel
theorem dL_lay_0 : decode cL_lay 0 = .ok (.iconst 0, 1) := by decide +kernel
theorem dL_lay_1 : decode cL_lay 1 = .ok (.istore_n 2, 1) := by decide +kernel
theorem dL_lay_2 : decode cL_lay 2 = .ok (.iload_n 2, 1) := by decide +kernel
theorem dL_lay_3 : decode cL_lay 3 = .ok (.bipush 38, 2) := by decide +kernel
theorem dL_lay_5 : decode cL_lay 5 = .ok (.if_icmp .ge 13, 3) := by decide +kernel
theorem dL_lay_8 : decode cL_lay 8 = .ok (.aload_n 1, 1) := by decide +kernel
theorem dL_lay_9 : decode cL_lay 9 = .ok (.iload_n 2, 1) := by decide +kernel
theorem dL_lay_10 : decode cL_lay 10 = .ok (.iconst 0, 1) := by decide +kernel
theorem dL_lay_11 : decode cL_lay 11 = .ok (.iastore, 1) := by decide +kernel
theorem dL_lay_12 : decode cL_lay 12 = .ok (.iinc 2 1, 3) := by decide +kernel
theorem dL_lay_15 : decode cL_lay 15 = .ok (.goto (-13), 3) := by decide +kernel
theorem dL_lay_18 : decode cL_lay 18 = .ok (.aload_n 1, 1) := by decide +kernel
theorem dL_lay_19 : decode cL_lay 19 = .ok (.iconst 0, 1) := by decide +kernel
theorem dL_lay_20 : decode cL_lay 20 = .ok (.iconst 1, 1) := by decide +kernel
theorem dL_lay_21 : decode cL_lay 21 = .ok (.aload_n 0, 1) := by decide +kernel
theorem dL_lay_22 : decode cL_lay 22 = .ok (.iconst 0, 1) := by decide +kernel
theorem dL_lay_23 : decode cL_lay 23 = .ok (.invokestatic 9, 3) := by decide +kernel
theorem dL_lay_26 : decode cL_lay 26 = .ok (.bipush 6, 2) := by decide +kernel
theorem dL_lay_28 : decode cL_lay 28 = .ok (.invokestatic 15, 3) := by decide +kernel
theorem dL_lay_31 : decode cL_lay 31 = .ok (.iadd, 1) := by decide +kernel
theorem dL_lay_32 : decode cL_lay 32 = .ok (.iastore, 1) := by decide +kernel
theorem dL_lay_33 : decode cL_lay 33 = .ok (.aload_n 1, 1) := by decide +kernel
theorem dL_lay_34 : decode cL_lay 34 = .ok (.iconst 1, 1) := by decide +kernel
theorem dL_lay_35 : decode cL_lay 35 = .ok (.iconst 1, 1) := by decide +kernel
theorem dL_lay_36 : decode cL_lay 36 = .ok (.aload_n 0, 1) := by decide +kernel
theorem dL_lay_37 : decode cL_lay 37 = .ok (.iconst 0, 1) := by decide +kernel
theorem dL_lay_38 : decode cL_lay 38 = .ok (.invokestatic 9, 3) := by decide +kernel
theorem dL_lay_41 : decode cL_lay 41 = .ok (.iconst 4, 1) := by decide +kernel
theorem dL_lay_42 : decode cL_lay 42 = .ok (.ishr, 1) := by decide +kernel
theorem dL_lay_43 : decode cL_lay 43 = .ok (.iconst 4, 1) := by decide +kernel
theorem dL_lay_44 : decode cL_lay 44 = .ok (.invokestatic 15, 3) := by decide +kernel
theorem dL_lay_47 : decode cL_lay 47 = .ok (.iadd, 1) := by decide +kernel
theorem dL_lay_48 : decode cL_lay 48 = .ok (.iastore, 1) := by decide +kernel
theorem dL_lay_49 : decode cL_lay 49 = .ok (.aload_n 1, 1) := by decide +kernel
theorem dL_lay_50 : decode cL_lay 50 = .ok (.bipush 26, 2) := by decide +kernel
theorem dL_lay_52 : decode cL_lay 52 = .ok (.aload_n 0, 1) := by decide +kernel
theorem dL_lay_53 : decode cL_lay 53 = .ok (.iconst 0, 1) := by decide +kernel
theorem dL_lay_54 : decode cL_lay 54 = .ok (.invokestatic 9, 3) := by decide +kernel
theorem dL_lay_57 : decode cL_lay 57 = .ok (.bipush 8, 2) := by decide +kernel
theorem dL_lay_59 : decode cL_lay 59 = .ok (.ishr, 1) := by decide +kernel
theorem dL_lay_60 : decode cL_lay 60 = .ok (.iconst 1, 1) := by decide +kernel
theorem dL_lay_61 : decode cL_lay 61 = .ok (.iand, 1) := by decide +kernel
theorem dL_lay_62 : decode cL_lay 62 = .ok (.iastore, 1) := by decide +kernel
theorem dL_lay_63 : decode cL_lay 63 = .ok (.iconst 0, 1) := by decide +kernel
theorem dL_lay_64 : decode cL_lay 64 = .ok (.istore_n 2, 1) := by decide +kernel
theorem dL_lay_65 : decode cL_lay 65 = .ok (.iload_n 2, 1) := by decide +kernel
theorem dL_lay_66 : decode cL_lay 66 = .ok (.aload_n 1, 1) := by decide +kernel
theorem dL_lay_67 : decode cL_lay 67 = .ok (.iconst 0, 1) := by decide +kernel
theorem dL_lay_68 : decode cL_lay 68 = .ok (.iaload, 1) := by decide +kernel
theorem dL_lay_69 : decode cL_lay 69 = .ok (.if_icmp .ge 112, 3) := by decide +kernel
theorem dL_lay_72 : decode cL_lay 72 = .ok (.aload_n 0, 1) := by decide +kernel
theorem dL_lay_73 : decode cL_lay 73 = .ok (.iconst 1, 1) := by decide +kernel
theorem dL_lay_74 : decode cL_lay 74 = .ok (.iload_n 2, 1) := by decide +kernel
theorem dL_lay_75 : decode cL_lay 75 = .ok (.iadd, 1) := by decide +kernel
theorem dL_lay_76 : decode cL_lay 76 = .ok (.invokestatic 9, 3) := by decide +kernel
theorem dL_lay_79 : decode cL_lay 79 = .ok (.istore_n 3, 1) := by decide +kernel
theorem dL_lay_80 : decode cL_lay 80 = .ok (.aload_n 1, 1) := by decide +kernel
theorem dL_lay_81 : decode cL_lay 81 = .ok (.iconst 2, 1) := by decide +kernel
theorem dL_lay_82 : decode cL_lay 82 = .ok (.iload_n 2, 1) := by decide +kernel
theorem dL_lay_83 : decode cL_lay 83 = .ok (.iadd, 1) := by decide +kernel
theorem dL_lay_84 : decode cL_lay 84 = .ok (.iload_n 3, 1) := by decide +kernel
theorem dL_lay_85 : decode cL_lay 85 = .ok (.bipush 6, 2) := by decide +kernel
theorem dL_lay_87 : decode cL_lay 87 = .ok (.invokestatic 15, 3) := by decide +kernel
theorem dL_lay_90 : decode cL_lay 90 = .ok (.iastore, 1) := by decide +kernel
theorem dL_lay_91 : decode cL_lay 91 = .ok (.aload_n 1, 1) := by decide +kernel
theorem dL_lay_92 : decode cL_lay 92 = .ok (.bipush 8, 2) := by decide +kernel
theorem dL_lay_94 : decode cL_lay 94 = .ok (.iload_n 2, 1) := by decide +kernel
theorem dL_lay_95 : decode cL_lay 95 = .ok (.iadd, 1) := by decide +kernel
theorem dL_lay_96 : decode cL_lay 96 = .ok (.iconst 1, 1) := by decide +kernel
theorem dL_lay_97 : decode cL_lay 97 = .ok (.iload_n 3, 1) := by decide +kernel
theorem dL_lay_98 : decode cL_lay 98 = .ok (.iconst 4, 1) := by decide +kernel
theorem dL_lay_99 : decode cL_lay 99 = .ok (.ishr, 1) := by decide +kernel
theorem dL_lay_100 : decode cL_lay 100 = .ok (.bipush 9, 2) := by decide +kernel
theorem dL_lay_102 : decode cL_lay 102 = .ok (.invokestatic 15, 3) := by decide +kernel
theorem dL_lay_105 : decode cL_lay 105 = .ok (.iadd, 1) := by decide +kernel
theorem dL_lay_106 : decode cL_lay 106 = .ok (.iastore, 1) := by decide +kernel
theorem dL_lay_107 : decode cL_lay 107 = .ok (.aload_n 1, 1) := by decide +kernel
theorem dL_lay_108 : decode cL_lay 108 = .ok (.bipush 14, 2) := by decide +kernel
theorem dL_lay_110 : decode cL_lay 110 = .ok (.iload_n 2, 1) := by decide +kernel
theorem dL_lay_111 : decode cL_lay 111 = .ok (.iadd, 1) := by decide +kernel
theorem dL_lay_112 : decode cL_lay 112 = .ok (.iload_n 3, 1) := by decide +kernel
theorem dL_lay_113 : decode cL_lay 113 = .ok (.bipush 8, 2) := by decide +kernel
theorem dL_lay_115 : decode cL_lay 115 = .ok (.ishr, 1) := by decide +kernel
theorem dL_lay_116 : decode cL_lay 116 = .ok (.iload_n 3, 1) := by decide +kernel
theorem dL_lay_117 : decode cL_lay 117 = .ok (.bipush 20, 2) := by decide +kernel
theorem dL_lay_119 : decode cL_lay 119 = .ok (.ishr, 1) := by decide +kernel
theorem dL_lay_120 : decode cL_lay 120 = .ok (.iconst 3, 1) := by decide +kernel
theorem dL_lay_121 : decode cL_lay 121 = .ok (.invokestatic 15, 3) := by decide +kernel
theorem dL_lay_124 : decode cL_lay 124 = .ok (.ifCond .ne 8, 3) := by decide +kernel
theorem dL_lay_127 : decode cL_lay 127 = .ok (.bipush 6, 2) := by decide +kernel
theorem dL_lay_129 : decode cL_lay 129 = .ok (.goto 6, 3) := by decide +kernel
theorem dL_lay_132 : decode cL_lay 132 = .ok (.aload_n 1, 1) := by decide +kernel
theorem dL_lay_133 : decode cL_lay 133 = .ok (.iconst 0, 1) := by decide +kernel
theorem dL_lay_134 : decode cL_lay 134 = .ok (.iaload, 1) := by decide +kernel
theorem dL_lay_135 : decode cL_lay 135 = .ok (.invokestatic 15, 3) := by decide +kernel
theorem dL_lay_138 : decode cL_lay 138 = .ok (.iastore, 1) := by decide +kernel
theorem dL_lay_139 : decode cL_lay 139 = .ok (.aload_n 1, 1) := by decide +kernel
theorem dL_lay_140 : decode cL_lay 140 = .ok (.bipush 20, 2) := by decide +kernel
theorem dL_lay_142 : decode cL_lay 142 = .ok (.iload_n 2, 1) := by decide +kernel
theorem dL_lay_143 : decode cL_lay 143 = .ok (.iadd, 1) := by decide +kernel
theorem dL_lay_144 : decode cL_lay 144 = .ok (.iload_n 3, 1) := by decide +kernel
theorem dL_lay_145 : decode cL_lay 145 = .ok (.bipush 11, 2) := by decide +kernel
theorem dL_lay_147 : decode cL_lay 147 = .ok (.ishr, 1) := by decide +kernel
theorem dL_lay_148 : decode cL_lay 148 = .ok (.iconst 3, 1) := by decide +kernel
theorem dL_lay_149 : decode cL_lay 149 = .ok (.invokestatic 15, 3) := by decide +kernel
theorem dL_lay_152 : decode cL_lay 152 = .ok (.ifCond .ne 7, 3) := by decide +kernel
theorem dL_lay_155 : decode cL_lay 155 = .ok (.iconst 0, 1) := by decide +kernel
theorem dL_lay_156 : decode cL_lay 156 = .ok (.goto 18, 3) := by decide +kernel
theorem dL_lay_159 : decode cL_lay 159 = .ok (.iload_n 3, 1) := by decide +kernel
theorem dL_lay_160 : decode cL_lay 160 = .ok (.bipush 13, 2) := by decide +kernel
theorem dL_lay_162 : decode cL_lay 162 = .ok (.ishr, 1) := by decide +kernel
theorem dL_lay_163 : decode cL_lay 163 = .ok (.aload_n 1, 1) := by decide +kernel
theorem dL_lay_164 : decode cL_lay 164 = .ok (.bipush 8, 2) := by decide +kernel
theorem dL_lay_166 : decode cL_lay 166 = .ok (.iload_n 2, 1) := by decide +kernel
theorem dL_lay_167 : decode cL_lay 167 = .ok (.iadd, 1) := by decide +kernel
theorem dL_lay_168 : decode cL_lay 168 = .ok (.iaload, 1) := by decide +kernel
theorem dL_lay_169 : decode cL_lay 169 = .ok (.iconst 1, 1) := by decide +kernel
theorem dL_lay_170 : decode cL_lay 170 = .ok (.iadd, 1) := by decide +kernel
theorem dL_lay_171 : decode cL_lay 171 = .ok (.invokestatic 15, 3) := by decide +kernel
theorem dL_lay_174 : decode cL_lay 174 = .ok (.iastore, 1) := by decide +kernel
theorem dL_lay_175 : decode cL_lay 175 = .ok (.iinc 2 1, 3) := by decide +kernel
theorem dL_lay_178 : decode cL_lay 178 = .ok (.goto (-113), 3) := by decide +kernel
theorem dL_lay_181 : decode cL_lay 181 = .ok (.iconst 0, 1) := by decide +kernel
theorem dL_lay_182 : decode cL_lay 182 = .ok (.istore_n 2, 1) := by decide +kernel
theorem dL_lay_183 : decode cL_lay 183 = .ok (.iload_n 2, 1) := by decide +kernel
theorem dL_lay_184 : decode cL_lay 184 = .ok (.aload_n 1, 1) := by decide +kernel
theorem dL_lay_185 : decode cL_lay 185 = .ok (.iconst 1, 1) := by decide +kernel
theorem dL_lay_186 : decode cL_lay 186 = .ok (.iaload, 1) := by decide +kernel
theorem dL_lay_187 : decode cL_lay 187 = .ok (.if_icmp .ge 90, 3) := by decide +kernel
theorem dL_lay_190 : decode cL_lay 190 = .ok (.aload_n 0, 1) := by decide +kernel
theorem dL_lay_191 : decode cL_lay 191 = .ok (.bipush 7, 2) := by decide +kernel
theorem dL_lay_193 : decode cL_lay 193 = .ok (.iload_n 2, 1) := by decide +kernel
theorem dL_lay_194 : decode cL_lay 194 = .ok (.iadd, 1) := by decide +kernel
theorem dL_lay_195 : decode cL_lay 195 = .ok (.invokestatic 9, 3) := by decide +kernel
theorem dL_lay_198 : decode cL_lay 198 = .ok (.istore_n 3, 1) := by decide +kernel
theorem dL_lay_199 : decode cL_lay 199 = .ok (.aload_n 1, 1) := by decide +kernel
theorem dL_lay_200 : decode cL_lay 200 = .ok (.bipush 27, 2) := by decide +kernel
theorem dL_lay_202 : decode cL_lay 202 = .ok (.iload_n 2, 1) := by decide +kernel
theorem dL_lay_203 : decode cL_lay 203 = .ok (.iadd, 1) := by decide +kernel
theorem dL_lay_204 : decode cL_lay 204 = .ok (.iload_n 3, 1) := by decide +kernel
theorem dL_lay_205 : decode cL_lay 205 = .ok (.bipush 64, 2) := by decide +kernel
theorem dL_lay_207 : decode cL_lay 207 = .ok (.invokestatic 15, 3) := by decide +kernel
theorem dL_lay_210 : decode cL_lay 210 = .ok (.iload_n 3, 1) := by decide +kernel
theorem dL_lay_211 : decode cL_lay 211 = .ok (.bipush 6, 2) := by decide +kernel
theorem dL_lay_213 : decode cL_lay 213 = .ok (.ishr, 1) := by decide +kernel
theorem dL_lay_214 : decode cL_lay 214 = .ok (.bipush 64, 2) := by decide +kernel
theorem dL_lay_216 : decode cL_lay 216 = .ok (.invokestatic 15, 3) := by decide +kernel
theorem dL_lay_219 : decode cL_lay 219 = .ok (.iand, 1) := by decide +kernel
theorem dL_lay_220 : decode cL_lay 220 = .ok (.iastore, 1) := by decide +kernel
theorem dL_lay_221 : decode cL_lay 221 = .ok (.aload_n 1, 1) := by decide +kernel
theorem dL_lay_222 : decode cL_lay 222 = .ok (.bipush 31, 2) := by decide +kernel
theorem dL_lay_224 : decode cL_lay 224 = .ok (.iload_n 2, 1) := by decide +kernel
theorem dL_lay_225 : decode cL_lay 225 = .ok (.iadd, 1) := by decide +kernel
theorem dL_lay_226 : decode cL_lay 226 = .ok (.iload_n 3, 1) := by decide +kernel
theorem dL_lay_227 : decode cL_lay 227 = .ok (.bipush 12, 2) := by decide +kernel
theorem dL_lay_229 : decode cL_lay 229 = .ok (.ishr, 1) := by decide +kernel
theorem dL_lay_230 : decode cL_lay 230 = .ok (.bipush 64, 2) := by decide +kernel
theorem dL_lay_232 : decode cL_lay 232 = .ok (.invokestatic 15, 3) := by decide +kernel
theorem dL_lay_235 : decode cL_lay 235 = .ok (.iload_n 3, 1) := by decide +kernel
theorem dL_lay_236 : decode cL_lay 236 = .ok (.bipush 18, 2) := by decide +kernel
theorem dL_lay_238 : decode cL_lay 238 = .ok (.ishr, 1) := by decide +kernel
theorem dL_lay_239 : decode cL_lay 239 = .ok (.bipush 64, 2) := by decide +kernel
theorem dL_lay_241 : decode cL_lay 241 = .ok (.invokestatic 15, 3) := by decide +kernel
theorem dL_lay_244 : decode cL_lay 244 = .ok (.iand, 1) := by decide +kernel
theorem dL_lay_245 : decode cL_lay 245 = .ok (.iload_n 3, 1) := by decide +kernel
theorem dL_lay_246 : decode cL_lay 246 = .ok (.bipush 24, 2) := by decide +kernel
theorem dL_lay_248 : decode cL_lay 248 = .ok (.ishr, 1) := by decide +kernel
theorem dL_lay_249 : decode cL_lay 249 = .ok (.iconst 2, 1) := by decide +kernel
theorem dL_lay_250 : decode cL_lay 250 = .ok (.invokestatic 15, 3) := by decide +kernel
theorem dL_lay_253 : decode cL_lay 253 = .ok (.ifCond .ne 8, 3) := by decide +kernel
theorem dL_lay_256 : decode cL_lay 256 = .ok (.bipush 63, 2) := by decide +kernel
theorem dL_lay_258 : decode cL_lay 258 = .ok (.goto 11, 3) := by decide +kernel
theorem dL_lay_261 : decode cL_lay 261 = .ok (.aload_n 1, 1) := by decide +kernel
theorem dL_lay_262 : decode cL_lay 262 = .ok (.bipush 27, 2) := by decide +kernel
theorem dL_lay_264 : decode cL_lay 264 = .ok (.iload_n 2, 1) := by decide +kernel
theorem dL_lay_265 : decode cL_lay 265 = .ok (.iadd, 1) := by decide +kernel
theorem dL_lay_266 : decode cL_lay 266 = .ok (.iaload, 1) := by decide +kernel
theorem dL_lay_267 : decode cL_lay 267 = .ok (.iconst (-1), 1) := by decide +kernel
theorem dL_lay_268 : decode cL_lay 268 = .ok (.ixor, 1) := by decide +kernel
theorem dL_lay_269 : decode cL_lay 269 = .ok (.iand, 1) := by decide +kernel
theorem dL_lay_270 : decode cL_lay 270 = .ok (.iastore, 1) := by decide +kernel
theorem dL_lay_271 : decode cL_lay 271 = .ok (.iinc 2 1, 3) := by decide +kernel
theorem dL_lay_274 : decode cL_lay 274 = .ok (.goto (-91), 3) := by decide +kernel
theorem dL_lay_277 : decode cL_lay 277 = .ok (.return_, 1) := by decide +kernel
theorem dL_letter_0 : decode cL_letter 0 = .ok (.iload_n 0, 1) := by decide +kernel
theorem dL_letter_1 : decode cL_letter 1 = .ok (.ifCond .ne 8, 3) := by decide +kernel
theorem dL_letter_4 : decode cL_letter 4 = .ok (.bipush 114, 2) := by decide +kernel
theorem dL_letter_6 : decode cL_letter 6 = .ok (.goto 45, 3) := by decide +kernel
theorem dL_letter_9 : decode cL_letter 9 = .ok (.iload_n 0, 1) := by decide +kernel
theorem dL_letter_10 : decode cL_letter 10 = .ok (.iconst 1, 1) := by decide +kernel
theorem dL_letter_11 : decode cL_letter 11 = .ok (.if_icmp .ne 8, 3) := by decide +kernel
theorem dL_letter_14 : decode cL_letter 14 = .ok (.bipush 115, 2) := by decide +kernel
theorem dL_letter_16 : decode cL_letter 16 = .ok (.goto 35, 3) := by decide +kernel
theorem dL_letter_19 : decode cL_letter 19 = .ok (.iload_n 0, 1) := by decide +kernel
theorem dL_letter_20 : decode cL_letter 20 = .ok (.iconst 2, 1) := by decide +kernel
theorem dL_letter_21 : decode cL_letter 21 = .ok (.if_icmp .ne 8, 3) := by decide +kernel
theorem dL_letter_24 : decode cL_letter 24 = .ok (.bipush 112, 2) := by decide +kernel
theorem dL_letter_26 : decode cL_letter 26 = .ok (.goto 25, 3) := by decide +kernel
theorem dL_letter_29 : decode cL_letter 29 = .ok (.iload_n 0, 1) := by decide +kernel
theorem dL_letter_30 : decode cL_letter 30 = .ok (.iconst 3, 1) := by decide +kernel
theorem dL_letter_31 : decode cL_letter 31 = .ok (.if_icmp .ne 8, 3) := by decide +kernel
theorem dL_letter_34 : decode cL_letter 34 = .ok (.bipush 110, 2) := by decide +kernel
theorem dL_letter_36 : decode cL_letter 36 = .ok (.goto 15, 3) := by decide +kernel
theorem dL_letter_39 : decode cL_letter 39 = .ok (.iload_n 0, 1) := by decide +kernel
theorem dL_letter_40 : decode cL_letter 40 = .ok (.iconst 4, 1) := by decide +kernel
theorem dL_letter_41 : decode cL_letter 41 = .ok (.if_icmp .ne 8, 3) := by decide +kernel
theorem dL_letter_44 : decode cL_letter 44 = .ok (.bipush 116, 2) := by decide +kernel
theorem dL_letter_46 : decode cL_letter 46 = .ok (.goto 5, 3) := by decide +kernel
theorem dL_letter_49 : decode cL_letter 49 = .ok (.bipush 119, 2) := by decide +kernel
theorem dL_letter_51 : decode cL_letter 51 = .ok (.ireturn, 1) := by decide +kernel
theorem dL_sign_0 : decode cL_sign 0 = .ok (.aload_n 0, 1) := by decide +kernel
theorem dL_sign_1 : decode cL_sign 1 = .ok (.iconst 0, 1) := by decide +kernel
theorem dL_sign_2 : decode cL_sign 2 = .ok (.iload_n 1, 1) := by decide +kernel
theorem dL_sign_3 : decode cL_sign 3 = .ok (.iload_n 2, 1) := by decide +kernel
theorem dL_sign_4 : decode cL_sign 4 = .ok (.invokevirtual 19, 3) := by decide +kernel
theorem dL_sign_7 : decode cL_sign 7 = .ok (.sipush 1032, 3) := by decide +kernel
theorem dL_sign_10 : decode cL_sign 10 = .ok (.if_icmp .ne 7, 3) := by decide +kernel
theorem dL_sign_13 : decode cL_sign 13 = .ok (.iconst 1, 1) := by decide +kernel
theorem dL_sign_14 : decode cL_sign 14 = .ok (.goto 4, 3) := by decide +kernel
theorem dL_sign_17 : decode cL_sign 17 = .ok (.iconst 0, 1) := by decide +kernel
theorem dL_sign_18 : decode cL_sign 18 = .ok (.ireturn, 1) := by decide +kernel
theorem dL_made_0 : decode cL_made 0 = .ok (.iconst 2, 1) := by decide +kernel
theorem dL_made_1 : decode cL_made 1 = .ok (.iconst 4, 1) := by decide +kernel
theorem dL_made_2 : decode cL_made 2 = .ok (.aload_n 1, 1) := by decide +kernel
theorem dL_made_3 : decode cL_made 3 = .ok (.iconst 0, 1) := by decide +kernel
theorem dL_made_4 : decode cL_made 4 = .ok (.iaload, 1) := by decide +kernel
theorem dL_made_5 : decode cL_made 5 = .ok (.imul, 1) := by decide +kernel
theorem dL_made_6 : decode cL_made 6 = .ok (.iadd, 1) := by decide +kernel
theorem dL_made_7 : decode cL_made 7 = .ok (.iconst 5, 1) := by decide +kernel
theorem dL_made_8 : decode cL_made 8 = .ok (.aload_n 1, 1) := by decide +kernel
theorem dL_made_9 : decode cL_made 9 = .ok (.iconst 1, 1) := by decide +kernel
theorem dL_made_10 : decode cL_made 10 = .ok (.iaload, 1) := by decide +kernel
theorem dL_made_11 : decode cL_made 11 = .ok (.imul, 1) := by decide +kernel
theorem dL_made_12 : decode cL_made 12 = .ok (.iadd, 1) := by decide +kernel
theorem dL_made_13 : decode cL_made 13 = .ok (.istore_n 2, 1) := by decide +kernel
theorem dL_made_14 : decode cL_made 14 = .ok (.aload_n 0, 1) := by decide +kernel
theorem dL_made_15 : decode cL_made 15 = .ok (.iconst 0, 1) := by decide +kernel
theorem dL_made_16 : decode cL_made 16 = .ok (.iload_n 2, 1) := by decide +kernel
theorem dL_made_17 : decode cL_made 17 = .ok (.invokevirtual 25, 3) := by decide +kernel
theorem dL_made_20 : decode cL_made 20 = .ok (.iload_n 2, 1) := by decide +kernel
theorem dL_made_21 : decode cL_made 21 = .ok (.if_icmp .ne 32, 3) := by decide +kernel
theorem dL_made_24 : decode cL_made 24 = .ok (.aload_n 0, 1) := by decide +kernel
theorem dL_made_25 : decode cL_made 25 = .ok (.iconst 0, 1) := by decide +kernel
theorem dL_made_26 : decode cL_made 26 = .ok (.bipush 104, 2) := by decide +kernel
theorem dL_made_28 : decode cL_made 28 = .ok (.invokestatic 28, 3) := by decide +kernel
theorem dL_made_31 : decode cL_made 31 = .ok (.ifCond .eq 22, 3) := by decide +kernel
theorem dL_made_34 : decode cL_made 34 = .ok (.aload_n 0, 1) := by decide +kernel
theorem dL_made_35 : decode cL_made 35 = .ok (.iconst 1, 1) := by decide +kernel
theorem dL_made_36 : decode cL_made 36 = .ok (.bipush 48, 2) := by decide +kernel
theorem dL_made_38 : decode cL_made 38 = .ok (.aload_n 1, 1) := by decide +kernel
theorem dL_made_39 : decode cL_made 39 = .ok (.bipush 26, 2) := by decide +kernel
theorem dL_made_41 : decode cL_made 41 = .ok (.iaload, 1) := by decide +kernel
theorem dL_made_42 : decode cL_made 42 = .ok (.iadd, 1) := by decide +kernel
theorem dL_made_43 : decode cL_made 43 = .ok (.invokestatic 28, 3) := by decide +kernel
theorem dL_made_46 : decode cL_made 46 = .ok (.ifCond .eq 7, 3) := by decide +kernel
theorem dL_made_49 : decode cL_made 49 = .ok (.iconst 1, 1) := by decide +kernel
theorem dL_made_50 : decode cL_made 50 = .ok (.goto 4, 3) := by decide +kernel
theorem dL_made_53 : decode cL_made 53 = .ok (.iconst 0, 1) := by decide +kernel
theorem dL_made_54 : decode cL_made 54 = .ok (.istore_n 3, 1) := by decide +kernel
theorem dL_made_55 : decode cL_made 55 = .ok (.iconst 0, 1) := by decide +kernel
theorem dL_made_56 : decode cL_made 56 = .ok (.istore 4, 2) := by decide +kernel
theorem dL_made_58 : decode cL_made 58 = .ok (.iload 4, 2) := by decide +kernel
theorem dL_made_60 : decode cL_made 60 = .ok (.aload_n 1, 1) := by decide +kernel
theorem dL_made_61 : decode cL_made 61 = .ok (.iconst 0, 1) := by decide +kernel
theorem dL_made_62 : decode cL_made 62 = .ok (.iaload, 1) := by decide +kernel
theorem dL_made_63 : decode cL_made 63 = .ok (.if_icmp .ge 110, 3) := by decide +kernel
theorem dL_made_66 : decode cL_made 66 = .ok (.iload_n 3, 1) := by decide +kernel
theorem dL_made_67 : decode cL_made 67 = .ok (.ifCond .eq 98, 3) := by decide +kernel
theorem dL_made_70 : decode cL_made 70 = .ok (.aload_n 0, 1) := by decide +kernel
theorem dL_made_71 : decode cL_made 71 = .ok (.iconst 2, 1) := by decide +kernel
theorem dL_made_72 : decode cL_made 72 = .ok (.iconst 4, 1) := by decide +kernel
theorem dL_made_73 : decode cL_made 73 = .ok (.iload 4, 2) := by decide +kernel
theorem dL_made_75 : decode cL_made 75 = .ok (.imul, 1) := by decide +kernel
theorem dL_made_76 : decode cL_made 76 = .ok (.iadd, 1) := by decide +kernel
theorem dL_made_77 : decode cL_made 77 = .ok (.aload_n 1, 1) := by decide +kernel
theorem dL_made_78 : decode cL_made 78 = .ok (.iconst 2, 1) := by decide +kernel
theorem dL_made_79 : decode cL_made 79 = .ok (.iload 4, 2) := by decide +kernel
theorem dL_made_81 : decode cL_made 81 = .ok (.iadd, 1) := by decide +kernel
theorem dL_made_82 : decode cL_made 82 = .ok (.iaload, 1) := by decide +kernel
theorem dL_made_83 : decode cL_made 83 = .ok (.invokestatic 32, 3) := by decide +kernel
theorem dL_made_86 : decode cL_made 86 = .ok (.invokestatic 28, 3) := by decide +kernel
theorem dL_made_89 : decode cL_made 89 = .ok (.ifCond .eq 76, 3) := by decide +kernel
theorem dL_made_92 : decode cL_made 92 = .ok (.aload_n 0, 1) := by decide +kernel
theorem dL_made_93 : decode cL_made 93 = .ok (.iconst 3, 1) := by decide +kernel
theorem dL_made_94 : decode cL_made 94 = .ok (.iconst 4, 1) := by decide +kernel
theorem dL_made_95 : decode cL_made 95 = .ok (.iload 4, 2) := by decide +kernel
theorem dL_made_97 : decode cL_made 97 = .ok (.imul, 1) := by decide +kernel
theorem dL_made_98 : decode cL_made 98 = .ok (.iadd, 1) := by decide +kernel
theorem dL_made_99 : decode cL_made 99 = .ok (.bipush 48, 2) := by decide +kernel
theorem dL_made_101 : decode cL_made 101 = .ok (.aload_n 1, 1) := by decide +kernel
theorem dL_made_102 : decode cL_made 102 = .ok (.bipush 8, 2) := by decide +kernel
theorem dL_made_104 : decode cL_made 104 = .ok (.iload 4, 2) := by decide +kernel
theorem dL_made_106 : decode cL_made 106 = .ok (.iadd, 1) := by decide +kernel
theorem dL_made_107 : decode cL_made 107 = .ok (.iaload, 1) := by decide +kernel
theorem dL_made_108 : decode cL_made 108 = .ok (.iadd, 1) := by decide +kernel
theorem dL_made_109 : decode cL_made 109 = .ok (.invokestatic 28, 3) := by decide +kernel
theorem dL_made_112 : decode cL_made 112 = .ok (.ifCond .eq 53, 3) := by decide +kernel
theorem dL_made_115 : decode cL_made 115 = .ok (.aload_n 0, 1) := by decide +kernel
theorem dL_made_116 : decode cL_made 116 = .ok (.iconst 4, 1) := by decide +kernel
theorem dL_made_117 : decode cL_made 117 = .ok (.iconst 4, 1) := by decide +kernel
theorem dL_made_118 : decode cL_made 118 = .ok (.iload 4, 2) := by decide +kernel
theorem dL_made_120 : decode cL_made 120 = .ok (.imul, 1) := by decide +kernel
theorem dL_made_121 : decode cL_made 121 = .ok (.iadd, 1) := by decide +kernel
theorem dL_made_122 : decode cL_made 122 = .ok (.bipush 48, 2) := by decide +kernel
theorem dL_made_124 : decode cL_made 124 = .ok (.aload_n 1, 1) := by decide +kernel
theorem dL_made_125 : decode cL_made 125 = .ok (.bipush 14, 2) := by decide +kernel
theorem dL_made_127 : decode cL_made 127 = .ok (.iload 4, 2) := by decide +kernel
theorem dL_made_129 : decode cL_made 129 = .ok (.iadd, 1) := by decide +kernel
theorem dL_made_130 : decode cL_made 130 = .ok (.iaload, 1) := by decide +kernel
theorem dL_made_131 : decode cL_made 131 = .ok (.iadd, 1) := by decide +kernel
theorem dL_made_132 : decode cL_made 132 = .ok (.invokestatic 28, 3) := by decide +kernel
theorem dL_made_135 : decode cL_made 135 = .ok (.ifCond .eq 30, 3) := by decide +kernel
theorem dL_made_138 : decode cL_made 138 = .ok (.aload_n 0, 1) := by decide +kernel
theorem dL_made_139 : decode cL_made 139 = .ok (.iconst 5, 1) := by decide +kernel
theorem dL_made_140 : decode cL_made 140 = .ok (.iconst 4, 1) := by decide +kernel
theorem dL_made_141 : decode cL_made 141 = .ok (.iload 4, 2) := by decide +kernel
theorem dL_made_143 : decode cL_made 143 = .ok (.imul, 1) := by decide +kernel
theorem dL_made_144 : decode cL_made 144 = .ok (.iadd, 1) := by decide +kernel
theorem dL_made_145 : decode cL_made 145 = .ok (.bipush 48, 2) := by decide +kernel
theorem dL_made_147 : decode cL_made 147 = .ok (.aload_n 1, 1) := by decide +kernel
theorem dL_made_148 : decode cL_made 148 = .ok (.bipush 20, 2) := by decide +kernel
theorem dL_made_150 : decode cL_made 150 = .ok (.iload 4, 2) := by decide +kernel
theorem dL_made_152 : decode cL_made 152 = .ok (.iadd, 1) := by decide +kernel
theorem dL_made_153 : decode cL_made 153 = .ok (.iaload, 1) := by decide +kernel
theorem dL_made_154 : decode cL_made 154 = .ok (.iadd, 1) := by decide +kernel
theorem dL_made_155 : decode cL_made 155 = .ok (.invokestatic 28, 3) := by decide +kernel
theorem dL_made_158 : decode cL_made 158 = .ok (.ifCond .eq 7, 3) := by decide +kernel
theorem dL_made_161 : decode cL_made 161 = .ok (.iconst 1, 1) := by decide +kernel
theorem dL_made_162 : decode cL_made 162 = .ok (.goto 4, 3) := by decide +kernel
theorem dL_made_165 : decode cL_made 165 = .ok (.iconst 0, 1) := by decide +kernel
theorem dL_made_166 : decode cL_made 166 = .ok (.istore_n 3, 1) := by decide +kernel
theorem dL_made_167 : decode cL_made 167 = .ok (.iinc 4 1, 3) := by decide +kernel
theorem dL_made_170 : decode cL_made 170 = .ok (.goto (-112), 3) := by decide +kernel
theorem dL_made_173 : decode cL_made 173 = .ok (.iconst 0, 1) := by decide +kernel
theorem dL_made_174 : decode cL_made 174 = .ok (.istore 4, 2) := by decide +kernel
theorem dL_made_176 : decode cL_made 176 = .ok (.iload 4, 2) := by decide +kernel
theorem dL_made_178 : decode cL_made 178 = .ok (.aload_n 1, 1) := by decide +kernel
theorem dL_made_179 : decode cL_made 179 = .ok (.iconst 1, 1) := by decide +kernel
theorem dL_made_180 : decode cL_made 180 = .ok (.iaload, 1) := by decide +kernel
theorem dL_made_181 : decode cL_made 181 = .ok (.if_icmp .ge 140, 3) := by decide +kernel
theorem dL_made_184 : decode cL_made 184 = .ok (.iconst 2, 1) := by decide +kernel
theorem dL_made_185 : decode cL_made 185 = .ok (.iconst 4, 1) := by decide +kernel
theorem dL_made_186 : decode cL_made 186 = .ok (.aload_n 1, 1) := by decide +kernel
theorem dL_made_187 : decode cL_made 187 = .ok (.iconst 0, 1) := by decide +kernel
theorem dL_made_188 : decode cL_made 188 = .ok (.iaload, 1) := by decide +kernel
theorem dL_made_189 : decode cL_made 189 = .ok (.imul, 1) := by decide +kernel
theorem dL_made_190 : decode cL_made 190 = .ok (.iadd, 1) := by decide +kernel
theorem dL_made_191 : decode cL_made 191 = .ok (.iconst 5, 1) := by decide +kernel
theorem dL_made_192 : decode cL_made 192 = .ok (.iload 4, 2) := by decide +kernel
theorem dL_made_194 : decode cL_made 194 = .ok (.imul, 1) := by decide +kernel
theorem dL_made_195 : decode cL_made 195 = .ok (.iadd, 1) := by decide +kernel
theorem dL_made_196 : decode cL_made 196 = .ok (.istore 5, 2) := by decide +kernel
theorem dL_made_198 : decode cL_made 198 = .ok (.iload_n 3, 1) := by decide +kernel
theorem dL_made_199 : decode cL_made 199 = .ok (.ifCond .eq 114, 3) := by decide +kernel
theorem dL_made_202 : decode cL_made 202 = .ok (.aload_n 0, 1) := by decide +kernel
theorem dL_made_203 : decode cL_made 203 = .ok (.iload 5, 2) := by decide +kernel
theorem dL_made_205 : decode cL_made 205 = .ok (.bipush 97, 2) := by decide +kernel
theorem dL_made_207 : decode cL_made 207 = .ok (.invokestatic 28, 3) := by decide +kernel
theorem dL_made_210 : decode cL_made 210 = .ok (.ifCond .eq 103, 3) := by decide +kernel
theorem dL_made_213 : decode cL_made 213 = .ok (.aload_n 0, 1) := by decide +kernel
theorem dL_made_214 : decode cL_made 214 = .ok (.iload 5, 2) := by decide +kernel
theorem dL_made_216 : decode cL_made 216 = .ok (.iconst 1, 1) := by decide +kernel
theorem dL_made_217 : decode cL_made 217 = .ok (.iadd, 1) := by decide +kernel
theorem dL_made_218 : decode cL_made 218 = .ok (.bipush 48, 2) := by decide +kernel
theorem dL_made_220 : decode cL_made 220 = .ok (.aload_n 1, 1) := by decide +kernel
theorem dL_made_221 : decode cL_made 221 = .ok (.bipush 27, 2) := by decide +kernel
theorem dL_made_223 : decode cL_made 223 = .ok (.iload 4, 2) := by decide +kernel
theorem dL_made_225 : decode cL_made 225 = .ok (.iadd, 1) := by decide +kernel
theorem dL_made_226 : decode cL_made 226 = .ok (.iaload, 1) := by decide +kernel
theorem dL_made_227 : decode cL_made 227 = .ok (.bipush 10, 2) := by decide +kernel
theorem dL_made_229 : decode cL_made 229 = .ok (.idiv, 1) := by decide +kernel
theorem dL_made_230 : decode cL_made 230 = .ok (.iadd, 1) := by decide +kernel
theorem dL_made_231 : decode cL_made 231 = .ok (.invokestatic 28, 3) := by decide +kernel
theorem dL_made_234 : decode cL_made 234 = .ok (.ifCond .eq 79, 3) := by decide +kernel
theorem dL_made_237 : decode cL_made 237 = .ok (.aload_n 0, 1) := by decide +kernel
theorem dL_made_238 : decode cL_made 238 = .ok (.iload 5, 2) := by decide +kernel
theorem dL_made_240 : decode cL_made 240 = .ok (.iconst 2, 1) := by decide +kernel
theorem dL_made_241 : decode cL_made 241 = .ok (.iadd, 1) := by decide +kernel
theorem dL_made_242 : decode cL_made 242 = .ok (.bipush 48, 2) := by decide +kernel
theorem dL_made_244 : decode cL_made 244 = .ok (.aload_n 1, 1) := by decide +kernel
theorem dL_made_245 : decode cL_made 245 = .ok (.bipush 27, 2) := by decide +kernel
theorem dL_made_247 : decode cL_made 247 = .ok (.iload 4, 2) := by decide +kernel
theorem dL_made_249 : decode cL_made 249 = .ok (.iadd, 1) := by decide +kernel
theorem dL_made_250 : decode cL_made 250 = .ok (.iaload, 1) := by decide +kernel
theorem dL_made_251 : decode cL_made 251 = .ok (.bipush 10, 2) := by decide +kernel
theorem dL_made_253 : decode cL_made 253 = .ok (.irem, 1) := by decide +kernel
theorem dL_made_254 : decode cL_made 254 = .ok (.iadd, 1) := by decide +kernel
theorem dL_made_255 : decode cL_made 255 = .ok (.invokestatic 28, 3) := by decide +kernel
theorem dL_made_258 : decode cL_made 258 = .ok (.ifCond .eq 55, 3) := by decide +kernel
theorem dL_made_261 : decode cL_made 261 = .ok (.aload_n 0, 1) := by decide +kernel
theorem dL_made_262 : decode cL_made 262 = .ok (.iload 5, 2) := by decide +kernel
theorem dL_made_264 : decode cL_made 264 = .ok (.iconst 3, 1) := by decide +kernel
theorem dL_made_265 : decode cL_made 265 = .ok (.iadd, 1) := by decide +kernel
theorem dL_made_266 : decode cL_made 266 = .ok (.bipush 48, 2) := by decide +kernel
theorem dL_made_268 : decode cL_made 268 = .ok (.aload_n 1, 1) := by decide +kernel
theorem dL_made_269 : decode cL_made 269 = .ok (.bipush 31, 2) := by decide +kernel
theorem dL_made_271 : decode cL_made 271 = .ok (.iload 4, 2) := by decide +kernel
theorem dL_made_273 : decode cL_made 273 = .ok (.iadd, 1) := by decide +kernel
theorem dL_made_274 : decode cL_made 274 = .ok (.iaload, 1) := by decide +kernel
theorem dL_made_275 : decode cL_made 275 = .ok (.bipush 10, 2) := by decide +kernel
theorem dL_made_277 : decode cL_made 277 = .ok (.idiv, 1) := by decide +kernel
theorem dL_made_278 : decode cL_made 278 = .ok (.iadd, 1) := by decide +kernel
theorem dL_made_279 : decode cL_made 279 = .ok (.invokestatic 28, 3) := by decide +kernel
theorem dL_made_282 : decode cL_made 282 = .ok (.ifCond .eq 31, 3) := by decide +kernel
theorem dL_made_285 : decode cL_made 285 = .ok (.aload_n 0, 1) := by decide +kernel
theorem dL_made_286 : decode cL_made 286 = .ok (.iload 5, 2) := by decide +kernel
theorem dL_made_288 : decode cL_made 288 = .ok (.iconst 4, 1) := by decide +kernel
theorem dL_made_289 : decode cL_made 289 = .ok (.iadd, 1) := by decide +kernel
theorem dL_made_290 : decode cL_made 290 = .ok (.bipush 48, 2) := by decide +kernel
theorem dL_made_292 : decode cL_made 292 = .ok (.aload_n 1, 1) := by decide +kernel
theorem dL_made_293 : decode cL_made 293 = .ok (.bipush 31, 2) := by decide +kernel
theorem dL_made_295 : decode cL_made 295 = .ok (.iload 4, 2) := by decide +kernel
theorem dL_made_297 : decode cL_made 297 = .ok (.iadd, 1) := by decide +kernel
theorem dL_made_298 : decode cL_made 298 = .ok (.iaload, 1) := by decide +kernel
theorem dL_made_299 : decode cL_made 299 = .ok (.bipush 10, 2) := by decide +kernel
theorem dL_made_301 : decode cL_made 301 = .ok (.irem, 1) := by decide +kernel
theorem dL_made_302 : decode cL_made 302 = .ok (.iadd, 1) := by decide +kernel
theorem dL_made_303 : decode cL_made 303 = .ok (.invokestatic 28, 3) := by decide +kernel
theorem dL_made_306 : decode cL_made 306 = .ok (.ifCond .eq 7, 3) := by decide +kernel
theorem dL_made_309 : decode cL_made 309 = .ok (.iconst 1, 1) := by decide +kernel
theorem dL_made_310 : decode cL_made 310 = .ok (.goto 4, 3) := by decide +kernel
theorem dL_made_313 : decode cL_made 313 = .ok (.iconst 0, 1) := by decide +kernel
theorem dL_made_314 : decode cL_made 314 = .ok (.istore_n 3, 1) := by decide +kernel
theorem dL_made_315 : decode cL_made 315 = .ok (.iinc 4 1, 3) := by decide +kernel
theorem dL_made_318 : decode cL_made 318 = .ok (.goto (-142), 3) := by decide +kernel
theorem dL_made_321 : decode cL_made 321 = .ok (.iload_n 3, 1) := by decide +kernel
theorem dL_made_322 : decode cL_made 322 = .ok (.ifCond .eq 18, 3) := by decide +kernel
theorem dL_made_325 : decode cL_made 325 = .ok (.aload_n 0, 1) := by decide +kernel
theorem dL_made_326 : decode cL_made 326 = .ok (.iconst 0, 1) := by decide +kernel
theorem dL_made_327 : decode cL_made 327 = .ok (.invokevirtual 36, 3) := by decide +kernel
theorem dL_made_330 : decode cL_made 330 = .ok (.aload_n 1, 1) := by decide +kernel
theorem dL_made_331 : decode cL_made 331 = .ok (.iconst 0, 1) := by decide +kernel
theorem dL_made_332 : decode cL_made 332 = .ok (.iaload, 1) := by decide +kernel
theorem dL_made_333 : decode cL_made 333 = .ok (.if_icmp .ne 7, 3) := by decide +kernel
theorem dL_made_336 : decode cL_made 336 = .ok (.iconst 1, 1) := by decide +kernel
theorem dL_made_337 : decode cL_made 337 = .ok (.goto 4, 3) := by decide +kernel
theorem dL_made_340 : decode cL_made 340 = .ok (.iconst 0, 1) := by decide +kernel
theorem dL_made_341 : decode cL_made 341 = .ok (.istore_n 3, 1) := by decide +kernel
theorem dL_made_342 : decode cL_made 342 = .ok (.iconst 0, 1) := by decide +kernel
theorem dL_made_343 : decode cL_made 343 = .ok (.istore 4, 2) := by decide +kernel
theorem dL_made_345 : decode cL_made 345 = .ok (.iload 4, 2) := by decide +kernel
theorem dL_made_347 : decode cL_made 347 = .ok (.aload_n 1, 1) := by decide +kernel
theorem dL_made_348 : decode cL_made 348 = .ok (.iconst 0, 1) := by decide +kernel
theorem dL_made_349 : decode cL_made 349 = .ok (.iaload, 1) := by decide +kernel
theorem dL_made_350 : decode cL_made 350 = .ok (.if_icmp .ge 53, 3) := by decide +kernel
theorem dL_made_353 : decode cL_made 353 = .ok (.aload_n 1, 1) := by decide +kernel
theorem dL_made_354 : decode cL_made 354 = .ok (.bipush 14, 2) := by decide +kernel
theorem dL_made_356 : decode cL_made 356 = .ok (.iload 4, 2) := by decide +kernel
theorem dL_made_358 : decode cL_made 358 = .ok (.iadd, 1) := by decide +kernel
theorem dL_made_359 : decode cL_made 359 = .ok (.aload_n 1, 1) := by decide +kernel
theorem dL_made_360 : decode cL_made 360 = .ok (.bipush 14, 2) := by decide +kernel
theorem dL_made_362 : decode cL_made 362 = .ok (.iload 4, 2) := by decide +kernel
theorem dL_made_364 : decode cL_made 364 = .ok (.iadd, 1) := by decide +kernel
theorem dL_made_365 : decode cL_made 365 = .ok (.iaload, 1) := by decide +kernel
theorem dL_made_366 : decode cL_made 366 = .ok (.iload 4, 2) := by decide +kernel
theorem dL_made_368 : decode cL_made 368 = .ok (.if_icmp .eq 16, 3) := by decide +kernel
theorem dL_made_371 : decode cL_made 371 = .ok (.aload_n 1, 1) := by decide +kernel
theorem dL_made_372 : decode cL_made 372 = .ok (.bipush 14, 2) := by decide +kernel
theorem dL_made_374 : decode cL_made 374 = .ok (.iload 4, 2) := by decide +kernel
theorem dL_made_376 : decode cL_made 376 = .ok (.iadd, 1) := by decide +kernel
theorem dL_made_377 : decode cL_made 377 = .ok (.iaload, 1) := by decide +kernel
theorem dL_made_378 : decode cL_made 378 = .ok (.aload_n 1, 1) := by decide +kernel
theorem dL_made_379 : decode cL_made 379 = .ok (.iconst 0, 1) := by decide +kernel
theorem dL_made_380 : decode cL_made 380 = .ok (.iaload, 1) := by decide +kernel
theorem dL_made_381 : decode cL_made 381 = .ok (.if_icmp .lt 8, 3) := by decide +kernel
theorem dL_made_384 : decode cL_made 384 = .ok (.bipush (-9), 2) := by decide +kernel
theorem dL_made_386 : decode cL_made 386 = .ok (.goto 10, 3) := by decide +kernel
theorem dL_made_389 : decode cL_made 389 = .ok (.aload_n 1, 1) := by decide +kernel
theorem dL_made_390 : decode cL_made 390 = .ok (.bipush 14, 2) := by decide +kernel
theorem dL_made_392 : decode cL_made 392 = .ok (.iload 4, 2) := by decide +kernel
theorem dL_made_394 : decode cL_made 394 = .ok (.iadd, 1) := by decide +kernel
theorem dL_made_395 : decode cL_made 395 = .ok (.iaload, 1) := by decide +kernel
theorem dL_made_396 : decode cL_made 396 = .ok (.iastore, 1) := by decide +kernel
theorem dL_made_397 : decode cL_made 397 = .ok (.iinc 4 1, 3) := by decide +kernel
theorem dL_made_400 : decode cL_made 400 = .ok (.goto (-55), 3) := by decide +kernel
theorem dL_made_403 : decode cL_made 403 = .ok (.iload_n 3, 1) := by decide +kernel
theorem dL_made_404 : decode cL_made 404 = .ok (.ireturn, 1) := by decide +kernel
theorem dL_bits_0 : decode cL_bits 0 = .ok (.iconst 0, 1) := by decide +kernel
theorem dL_bits_1 : decode cL_bits 1 = .ok (.istore_n 1, 1) := by decide +kernel
theorem dL_bits_2 : decode cL_bits 2 = .ok (.iload_n 0, 1) := by decide +kernel
theorem dL_bits_3 : decode cL_bits 3 = .ok (.istore_n 2, 1) := by decide +kernel
theorem dL_bits_4 : decode cL_bits 4 = .ok (.iload_n 2, 1) := by decide +kernel
theorem dL_bits_5 : decode cL_bits 5 = .ok (.ifCond .le 16, 3) := by decide +kernel
theorem dL_bits_8 : decode cL_bits 8 = .ok (.iload_n 1, 1) := by decide +kernel
theorem dL_bits_9 : decode cL_bits 9 = .ok (.iload_n 2, 1) := by decide +kernel
theorem dL_bits_10 : decode cL_bits 10 = .ok (.iconst 1, 1) := by decide +kernel
theorem dL_bits_11 : decode cL_bits 11 = .ok (.iand, 1) := by decide +kernel
theorem dL_bits_12 : decode cL_bits 12 = .ok (.iadd, 1) := by decide +kernel
theorem dL_bits_13 : decode cL_bits 13 = .ok (.istore_n 1, 1) := by decide +kernel
theorem dL_bits_14 : decode cL_bits 14 = .ok (.iload_n 2, 1) := by decide +kernel
theorem dL_bits_15 : decode cL_bits 15 = .ok (.iconst 1, 1) := by decide +kernel
theorem dL_bits_16 : decode cL_bits 16 = .ok (.ishr, 1) := by decide +kernel
theorem dL_bits_17 : decode cL_bits 17 = .ok (.istore_n 2, 1) := by decide +kernel
theorem dL_bits_18 : decode cL_bits 18 = .ok (.goto (-14), 3) := by decide +kernel
theorem dL_bits_21 : decode cL_bits 21 = .ok (.iload_n 1, 1) := by decide +kernel
theorem dL_bits_22 : decode cL_bits 22 = .ok (.ireturn, 1) := by decide +kernel
theorem dL_told_0 : decode cL_told 0 = .ok (.aload_n 0, 1) := by decide +kernel
theorem dL_told_1 : decode cL_told 1 = .ok (.iload_n 1, 1) := by decide +kernel
theorem dL_told_2 : decode cL_told 2 = .ok (.iload_n 2, 1) := by decide +kernel
theorem dL_told_3 : decode cL_told 3 = .ok (.invokevirtual 39, 3) := by decide +kernel
theorem dL_told_6 : decode cL_told 6 = .ok (.iconst 1, 1) := by decide +kernel
theorem dL_told_7 : decode cL_told 7 = .ok (.if_icmp .ne 10, 3) := by decide +kernel
theorem dL_told_10 : decode cL_told 10 = .ok (.aload_n 0, 1) := by decide +kernel
theorem dL_told_11 : decode cL_told 11 = .ok (.invokevirtual 42, 3) := by decide +kernel
theorem dL_told_14 : decode cL_told 14 = .ok (.goto 5, 3) := by decide +kernel
theorem dL_told_17 : decode cL_told 17 = .ok (.bipush (-100), 2) := by decide +kernel
theorem dL_told_19 : decode cL_told 19 = .ok (.ireturn, 1) := by decide +kernel
theorem dL_law_0 : decode cL_law 0 = .ok (.new 20, 3) := by decide +kernel
theorem dL_law_3 : decode cL_law 3 = .ok (.dup, 1) := by decide +kernel
theorem dL_law_4 : decode cL_law 4 = .ok (.invokespecial 46, 3) := by decide +kernel
theorem dL_law_7 : decode cL_law 7 = .ok (.astore_n 1, 1) := by decide +kernel
theorem dL_law_8 : decode cL_law 8 = .ok (.bipush 38, 2) := by decide +kernel
theorem dL_law_10 : decode cL_law 10 = .ok (.newarray .int, 2) := by decide +kernel
theorem dL_law_12 : decode cL_law 12 = .ok (.astore_n 2, 1) := by decide +kernel
theorem dL_law_13 : decode cL_law 13 = .ok (.aload_n 0, 1) := by decide +kernel
theorem dL_law_14 : decode cL_law 14 = .ok (.aload_n 2, 1) := by decide +kernel
theorem dL_law_15 : decode cL_law 15 = .ok (.invokestatic 47, 3) := by decide +kernel
theorem dL_law_18 : decode cL_law 18 = .ok (.aload_n 1, 1) := by decide +kernel
theorem dL_law_19 : decode cL_law 19 = .ok (.aload_n 2, 1) := by decide +kernel
theorem dL_law_20 : decode cL_law 20 = .ok (.invokestatic 51, 3) := by decide +kernel
theorem dL_law_23 : decode cL_law 23 = .ok (.ifCond .ne 5, 3) := by decide +kernel
theorem dL_law_26 : decode cL_law 26 = .ok (.iconst 0, 1) := by decide +kernel
theorem dL_law_27 : decode cL_law 27 = .ok (.ireturn, 1) := by decide +kernel
theorem dL_law_28 : decode cL_law 28 = .ok (.aload_n 2, 1) := by decide +kernel
theorem dL_law_29 : decode cL_law 29 = .ok (.iconst 0, 1) := by decide +kernel
theorem dL_law_30 : decode cL_law 30 = .ok (.iaload, 1) := by decide +kernel
theorem dL_law_31 : decode cL_law 31 = .ok (.istore_n 3, 1) := by decide +kernel
theorem dL_law_32 : decode cL_law 32 = .ok (.aload_n 2, 1) := by decide +kernel
theorem dL_law_33 : decode cL_law 33 = .ok (.iconst 1, 1) := by decide +kernel
theorem dL_law_34 : decode cL_law 34 = .ok (.iaload, 1) := by decide +kernel
theorem dL_law_35 : decode cL_law 35 = .ok (.istore 4, 2) := by decide +kernel
theorem dL_law_37 : decode cL_law 37 = .ok (.aload_n 1, 1) := by decide +kernel
theorem dL_law_38 : decode cL_law 38 = .ok (.iconst 1, 1) := by decide +kernel
theorem dL_law_39 : decode cL_law 39 = .ok (.aload_n 0, 1) := by decide +kernel
theorem dL_law_40 : decode cL_law 40 = .ok (.bipush 11, 2) := by decide +kernel
theorem dL_law_42 : decode cL_law 42 = .ok (.invokestatic 9, 3) := by decide +kernel
theorem dL_law_45 : decode cL_law 45 = .ok (.bipush 9, 2) := by decide +kernel
theorem dL_law_47 : decode cL_law 47 = .ok (.invokestatic 15, 3) := by decide +kernel
theorem dL_law_50 : decode cL_law 50 = .ok (.iadd, 1) := by decide +kernel
theorem dL_law_51 : decode cL_law 51 = .ok (.iconst 1, 1) := by decide +kernel
theorem dL_law_52 : decode cL_law 52 = .ok (.aload_n 0, 1) := by decide +kernel
theorem dL_law_53 : decode cL_law 53 = .ok (.bipush 12, 2) := by decide +kernel
theorem dL_law_55 : decode cL_law 55 = .ok (.invokestatic 9, 3) := by decide +kernel
theorem dL_law_58 : decode cL_law 58 = .ok (.ldc 55, 2) := by decide +kernel
theorem dL_law_60 : decode cL_law 60 = .ok (.invokestatic 15, 3) := by decide +kernel
theorem dL_law_63 : decode cL_law 63 = .ok (.iadd, 1) := by decide +kernel
theorem dL_law_64 : decode cL_law 64 = .ok (.invokevirtual 56, 3) := by decide +kernel
theorem dL_law_67 : decode cL_law 67 = .ok (.ifCond .lt 16, 3) := by decide +kernel
theorem dL_law_70 : decode cL_law 70 = .ok (.aload_n 1, 1) := by decide +kernel
theorem dL_law_71 : decode cL_law 71 = .ok (.iconst 0, 1) := by decide +kernel
theorem dL_law_72 : decode cL_law 72 = .ok (.invokevirtual 59, 3) := by decide +kernel
theorem dL_law_75 : decode cL_law 75 = .ok (.aload_n 1, 1) := by decide +kernel
theorem dL_law_76 : decode cL_law 76 = .ok (.iconst 2, 1) := by decide +kernel
theorem dL_law_77 : decode cL_law 77 = .ok (.invokevirtual 62, 3) := by decide +kernel
theorem dL_law_80 : decode cL_law 80 = .ok (.if_icmp .eq 5, 3) := by decide +kernel
theorem dL_law_83 : decode cL_law 83 = .ok (.iconst 0, 1) := by decide +kernel
theorem dL_law_84 : decode cL_law 84 = .ok (.ireturn, 1) := by decide +kernel
theorem dL_law_85 : decode cL_law 85 = .ok (.aload_n 1, 1) := by decide +kernel
theorem dL_law_86 : decode cL_law 86 = .ok (.iconst 2, 1) := by decide +kernel
theorem dL_law_87 : decode cL_law 87 = .ok (.invokevirtual 62, 3) := by decide +kernel
theorem dL_law_90 : decode cL_law 90 = .ok (.istore 5, 2) := by decide +kernel
theorem dL_law_92 : decode cL_law 92 = .ok (.aload_n 1, 1) := by decide +kernel
theorem dL_law_93 : decode cL_law 93 = .ok (.iconst 3, 1) := by decide +kernel
theorem dL_law_94 : decode cL_law 94 = .ok (.invokevirtual 62, 3) := by decide +kernel
theorem dL_law_97 : decode cL_law 97 = .ok (.istore 6, 2) := by decide +kernel
theorem dL_law_99 : decode cL_law 99 = .ok (.aload_n 1, 1) := by decide +kernel
theorem dL_law_100 : decode cL_law 100 = .ok (.iconst 4, 1) := by decide +kernel
theorem dL_law_101 : decode cL_law 101 = .ok (.invokevirtual 62, 3) := by decide +kernel
theorem dL_law_104 : decode cL_law 104 = .ok (.istore 7, 2) := by decide +kernel
theorem dL_law_106 : decode cL_law 106 = .ok (.aload_n 1, 1) := by decide +kernel
theorem dL_law_107 : decode cL_law 107 = .ok (.iconst 5, 1) := by decide +kernel
theorem dL_law_108 : decode cL_law 108 = .ok (.invokevirtual 62, 3) := by decide +kernel
theorem dL_law_111 : decode cL_law 111 = .ok (.istore 8, 2) := by decide +kernel
theorem dL_law_113 : decode cL_law 113 = .ok (.aload_n 1, 1) := by decide +kernel
theorem dL_law_114 : decode cL_law 114 = .ok (.bipush 6, 2) := by decide +kernel
theorem dL_law_116 : decode cL_law 116 = .ok (.invokevirtual 62, 3) := by decide +kernel
theorem dL_law_119 : decode cL_law 119 = .ok (.istore 9, 2) := by decide +kernel
theorem dL_law_121 : decode cL_law 121 = .ok (.aload_n 1, 1) := by decide +kernel
theorem dL_law_122 : decode cL_law 122 = .ok (.invokevirtual 65, 3) := by decide +kernel
theorem dL_law_125 : decode cL_law 125 = .ok (.istore 10, 2) := by decide +kernel
theorem dL_law_127 : decode cL_law 127 = .ok (.bipush 6, 2) := by decide +kernel
theorem dL_law_129 : decode cL_law 129 = .ok (.newarray .int, 2) := by decide +kernel
theorem dL_law_131 : decode cL_law 131 = .ok (.astore 11, 2) := by decide +kernel
theorem dL_law_133 : decode cL_law 133 = .ok (.iconst 0, 1) := by decide +kernel
theorem dL_law_134 : decode cL_law 134 = .ok (.istore 12, 2) := by decide +kernel
theorem dL_law_136 : decode cL_law 136 = .ok (.iconst 0, 1) := by decide +kernel
theorem dL_law_137 : decode cL_law 137 = .ok (.istore 13, 2) := by decide +kernel
theorem dL_law_139 : decode cL_law 139 = .ok (.iload 13, 2) := by decide +kernel
theorem dL_law_141 : decode cL_law 141 = .ok (.iload_n 3, 1) := by decide +kernel
theorem dL_law_142 : decode cL_law 142 = .ok (.if_icmp .ge 174, 3) := by decide +kernel
theorem dL_law_145 : decode cL_law 145 = .ok (.aload 11, 2) := by decide +kernel
theorem dL_law_147 : decode cL_law 147 = .ok (.iload 13, 2) := by decide +kernel
theorem dL_law_149 : decode cL_law 149 = .ok (.aload_n 1, 1) := by decide +kernel
theorem dL_law_150 : decode cL_law 150 = .ok (.iload 13, 2) := by decide +kernel
theorem dL_law_152 : decode cL_law 152 = .ok (.iconst 3, 1) := by decide +kernel
theorem dL_law_153 : decode cL_law 153 = .ok (.invokestatic 68, 3) := by decide +kernel
theorem dL_law_156 : decode cL_law 156 = .ok (.iastore, 1) := by decide +kernel
theorem dL_law_157 : decode cL_law 157 = .ok (.iload 12, 2) := by decide +kernel
theorem dL_law_159 : decode cL_law 159 = .ok (.aload 11, 2) := by decide +kernel
theorem dL_law_161 : decode cL_law 161 = .ok (.iload 13, 2) := by decide +kernel
theorem dL_law_163 : decode cL_law 163 = .ok (.iaload, 1) := by decide +kernel
theorem dL_law_164 : decode cL_law 164 = .ok (.iadd, 1) := by decide +kernel
theorem dL_law_165 : decode cL_law 165 = .ok (.istore 12, 2) := by decide +kernel
theorem dL_law_167 : decode cL_law 167 = .ok (.iload 8, 2) := by decide +kernel
theorem dL_law_169 : decode cL_law 169 = .ok (.iload 9, 2) := by decide +kernel
theorem dL_law_171 : decode cL_law 171 = .ok (.ior, 1) := by decide +kernel
theorem dL_law_172 : decode cL_law 172 = .ok (.iload 13, 2) := by decide +kernel
theorem dL_law_174 : decode cL_law 174 = .ok (.ishr, 1) := by decide +kernel
theorem dL_law_175 : decode cL_law 175 = .ok (.iconst 1, 1) := by decide +kernel
theorem dL_law_176 : decode cL_law 176 = .ok (.iand, 1) := by decide +kernel
theorem dL_law_177 : decode cL_law 177 = .ok (.iconst 1, 1) := by decide +kernel
theorem dL_law_178 : decode cL_law 178 = .ok (.if_icmp .ne 7, 3) := by decide +kernel
theorem dL_law_181 : decode cL_law 181 = .ok (.iconst 1, 1) := by decide +kernel
theorem dL_law_182 : decode cL_law 182 = .ok (.goto 4, 3) := by decide +kernel
theorem dL_law_185 : decode cL_law 185 = .ok (.iconst 0, 1) := by decide +kernel
theorem dL_law_186 : decode cL_law 186 = .ok (.istore 14, 2) := by decide +kernel
theorem dL_law_188 : decode cL_law 188 = .ok (.aload 11, 2) := by decide +kernel
theorem dL_law_190 : decode cL_law 190 = .ok (.iload 13, 2) := by decide +kernel
theorem dL_law_192 : decode cL_law 192 = .ok (.iaload, 1) := by decide +kernel
theorem dL_law_193 : decode cL_law 193 = .ok (.ifCond .lt 115, 3) := by decide +kernel
theorem dL_law_196 : decode cL_law 196 = .ok (.aload 11, 2) := by decide +kernel
theorem dL_law_198 : decode cL_law 198 = .ok (.iload 13, 2) := by decide +kernel
theorem dL_law_200 : decode cL_law 200 = .ok (.iaload, 1) := by decide +kernel
theorem dL_law_201 : decode cL_law 201 = .ok (.aload_n 1, 1) := by decide +kernel
theorem dL_law_202 : decode cL_law 202 = .ok (.iload 13, 2) := by decide +kernel
theorem dL_law_204 : decode cL_law 204 = .ok (.iconst 1, 1) := by decide +kernel
theorem dL_law_205 : decode cL_law 205 = .ok (.invokestatic 68, 3) := by decide +kernel
theorem dL_law_208 : decode cL_law 208 = .ok (.aload_n 2, 1) := by decide +kernel
theorem dL_law_209 : decode cL_law 209 = .ok (.iconst 2, 1) := by decide +kernel
theorem dL_law_210 : decode cL_law 210 = .ok (.iload 13, 2) := by decide +kernel
theorem dL_law_212 : decode cL_law 212 = .ok (.iadd, 1) := by decide +kernel
theorem dL_law_213 : decode cL_law 213 = .ok (.iaload, 1) := by decide +kernel
theorem dL_law_214 : decode cL_law 214 = .ok (.iconst 2, 1) := by decide +kernel
theorem dL_law_215 : decode cL_law 215 = .ok (.if_icmp .ne 7, 3) := by decide +kernel
theorem dL_law_218 : decode cL_law 218 = .ok (.iconst 1, 1) := by decide +kernel
theorem dL_law_219 : decode cL_law 219 = .ok (.goto 4, 3) := by decide +kernel
theorem dL_law_222 : decode cL_law 222 = .ok (.iconst 0, 1) := by decide +kernel
theorem dL_law_223 : decode cL_law 223 = .ok (.iadd, 1) := by decide +kernel
theorem dL_law_224 : decode cL_law 224 = .ok (.if_icmp .gt 84, 3) := by decide +kernel
theorem dL_law_227 : decode cL_law 227 = .ok (.iload 14, 2) := by decide +kernel
theorem dL_law_229 : decode cL_law 229 = .ok (.ifCond .eq 11, 3) := by decide +kernel
theorem dL_law_232 : decode cL_law 232 = .ok (.aload 11, 2) := by decide +kernel
theorem dL_law_234 : decode cL_law 234 = .ok (.iload 13, 2) := by decide +kernel
theorem dL_law_236 : decode cL_law 236 = .ok (.iaload, 1) := by decide +kernel
theorem dL_law_237 : decode cL_law 237 = .ok (.ifCond .ne 71, 3) := by decide +kernel
theorem dL_law_240 : decode cL_law 240 = .ok (.aload 11, 2) := by decide +kernel
theorem dL_law_242 : decode cL_law 242 = .ok (.iload 13, 2) := by decide +kernel
theorem dL_law_244 : decode cL_law 244 = .ok (.iaload, 1) := by decide +kernel
theorem dL_law_245 : decode cL_law 245 = .ok (.ifCond .le 7, 3) := by decide +kernel
theorem dL_law_248 : decode cL_law 248 = .ok (.iconst 1, 1) := by decide +kernel
theorem dL_law_249 : decode cL_law 249 = .ok (.goto 4, 3) := by decide +kernel
theorem dL_law_252 : decode cL_law 252 = .ok (.iconst 0, 1) := by decide +kernel
theorem dL_law_253 : decode cL_law 253 = .ok (.iload 7, 2) := by decide +kernel
theorem dL_law_255 : decode cL_law 255 = .ok (.iload 13, 2) := by decide +kernel
theorem dL_law_257 : decode cL_law 257 = .ok (.ishr, 1) := by decide +kernel
theorem dL_law_258 : decode cL_law 258 = .ok (.iconst 1, 1) := by decide +kernel
theorem dL_law_259 : decode cL_law 259 = .ok (.iand, 1) := by decide +kernel
theorem dL_law_260 : decode cL_law 260 = .ok (.iconst 1, 1) := by decide +kernel
theorem dL_law_261 : decode cL_law 261 = .ok (.if_icmp .ne 7, 3) := by decide +kernel
theorem dL_law_264 : decode cL_law 264 = .ok (.iconst 1, 1) := by decide +kernel
theorem dL_law_265 : decode cL_law 265 = .ok (.goto 4, 3) := by decide +kernel
theorem dL_law_268 : decode cL_law 268 = .ok (.iconst 0, 1) := by decide +kernel
theorem dL_law_269 : decode cL_law 269 = .ok (.if_icmp .ne 39, 3) := by decide +kernel
theorem dL_law_272 : decode cL_law 272 = .ok (.aload_n 1, 1) := by decide +kernel
theorem dL_law_273 : decode cL_law 273 = .ok (.iload 13, 2) := by decide +kernel
theorem dL_law_275 : decode cL_law 275 = .ok (.iconst 4, 1) := by decide +kernel
theorem dL_law_276 : decode cL_law 276 = .ok (.invokestatic 68, 3) := by decide +kernel
theorem dL_law_279 : decode cL_law 279 = .ok (.iconst 1, 1) := by decide +kernel
theorem dL_law_280 : decode cL_law 280 = .ok (.iload 8, 2) := by decide +kernel
theorem dL_law_282 : decode cL_law 282 = .ok (.iload 13, 2) := by decide +kernel
theorem dL_law_284 : decode cL_law 284 = .ok (.ishr, 1) := by decide +kernel
theorem dL_law_285 : decode cL_law 285 = .ok (.iconst 1, 1) := by decide +kernel
theorem dL_law_286 : decode cL_law 286 = .ok (.iand, 1) := by decide +kernel
theorem dL_law_287 : decode cL_law 287 = .ok (.isub, 1) := by decide +kernel
theorem dL_law_288 : decode cL_law 288 = .ok (.if_icmp .ne 20, 3) := by decide +kernel
theorem dL_law_291 : decode cL_law 291 = .ok (.aload_n 1, 1) := by decide +kernel
theorem dL_law_292 : decode cL_law 292 = .ok (.iload 13, 2) := by decide +kernel
theorem dL_law_294 : decode cL_law 294 = .ok (.iconst 5, 1) := by decide +kernel
theorem dL_law_295 : decode cL_law 295 = .ok (.invokestatic 68, 3) := by decide +kernel
theorem dL_law_298 : decode cL_law 298 = .ok (.iload 9, 2) := by decide +kernel
theorem dL_law_300 : decode cL_law 300 = .ok (.iload 13, 2) := by decide +kernel
theorem dL_law_302 : decode cL_law 302 = .ok (.ishr, 1) := by decide +kernel
theorem dL_law_303 : decode cL_law 303 = .ok (.iconst 1, 1) := by decide +kernel
theorem dL_law_304 : decode cL_law 304 = .ok (.iand, 1) := by decide +kernel
theorem dL_law_305 : decode cL_law 305 = .ok (.if_icmp .eq 5, 3) := by decide +kernel
theorem dL_law_308 : decode cL_law 308 = .ok (.iconst 0, 1) := by decide +kernel
theorem dL_law_309 : decode cL_law 309 = .ok (.ireturn, 1) := by decide +kernel
theorem dL_law_310 : decode cL_law 310 = .ok (.iinc 13 1, 3) := by decide +kernel
theorem dL_law_313 : decode cL_law 313 = .ok (.goto (-174), 3) := by decide +kernel
theorem dL_law_316 : decode cL_law 316 = .ok (.iload 12, 2) := by decide +kernel
theorem dL_law_318 : decode cL_law 318 = .ok (.aload_n 1, 1) := by decide +kernel
theorem dL_law_319 : decode cL_law 319 = .ok (.bipush 7, 2) := by decide +kernel
theorem dL_law_321 : decode cL_law 321 = .ok (.invokevirtual 62, 3) := by decide +kernel
theorem dL_law_324 : decode cL_law 324 = .ok (.if_icmp .ne 17, 3) := by decide +kernel
theorem dL_law_327 : decode cL_law 327 = .ok (.iload 10, 2) := by decide +kernel
theorem dL_law_329 : decode cL_law 329 = .ok (.ifCond .lt 12, 3) := by decide +kernel
theorem dL_law_332 : decode cL_law 332 = .ok (.iload 10, 2) := by decide +kernel
theorem dL_law_334 : decode cL_law 334 = .ok (.iconst 1, 1) := by decide +kernel
theorem dL_law_335 : decode cL_law 335 = .ok (.iload 4, 2) := by decide +kernel
theorem dL_law_337 : decode cL_law 337 = .ok (.ishl, 1) := by decide +kernel
theorem dL_law_338 : decode cL_law 338 = .ok (.if_icmp .lt 5, 3) := by decide +kernel
theorem dL_law_341 : decode cL_law 341 = .ok (.iconst 0, 1) := by decide +kernel
theorem dL_law_342 : decode cL_law 342 = .ok (.ireturn, 1) := by decide +kernel
theorem dL_law_343 : decode cL_law 343 = .ok (.iconst 0, 1) := by decide +kernel
theorem dL_law_344 : decode cL_law 344 = .ok (.istore 13, 2) := by decide +kernel
theorem dL_law_346 : decode cL_law 346 = .ok (.iload 13, 2) := by decide +kernel
theorem dL_law_348 : decode cL_law 348 = .ok (.iload 4, 2) := by decide +kernel
theorem dL_law_350 : decode cL_law 350 = .ok (.if_icmp .ge 85, 3) := by decide +kernel
theorem dL_law_353 : decode cL_law 353 = .ok (.iconst 1, 1) := by decide +kernel
theorem dL_law_354 : decode cL_law 354 = .ok (.iload_n 3, 1) := by decide +kernel
theorem dL_law_355 : decode cL_law 355 = .ok (.ishl, 1) := by decide +kernel
theorem dL_law_356 : decode cL_law 356 = .ok (.iconst 1, 1) := by decide +kernel
theorem dL_law_357 : decode cL_law 357 = .ok (.isub, 1) := by decide +kernel
theorem dL_law_358 : decode cL_law 358 = .ok (.istore 14, 2) := by decide +kernel
theorem dL_law_360 : decode cL_law 360 = .ok (.iload 7, 2) := by decide +kernel
theorem dL_law_362 : decode cL_law 362 = .ok (.aload_n 2, 1) := by decide +kernel
theorem dL_law_363 : decode cL_law 363 = .ok (.bipush 27, 2) := by decide +kernel
theorem dL_law_365 : decode cL_law 365 = .ok (.iload 13, 2) := by decide +kernel
theorem dL_law_367 : decode cL_law 367 = .ok (.iadd, 1) := by decide +kernel
theorem dL_law_368 : decode cL_law 368 = .ok (.iaload, 1) := by decide +kernel
theorem dL_law_369 : decode cL_law 369 = .ok (.iand, 1) := by decide +kernel
theorem dL_law_370 : decode cL_law 370 = .ok (.iload 14, 2) := by decide +kernel
theorem dL_law_372 : decode cL_law 372 = .ok (.iand, 1) := by decide +kernel
theorem dL_law_373 : decode cL_law 373 = .ok (.aload_n 2, 1) := by decide +kernel
theorem dL_law_374 : decode cL_law 374 = .ok (.bipush 27, 2) := by decide +kernel
theorem dL_law_376 : decode cL_law 376 = .ok (.iload 13, 2) := by decide +kernel
theorem dL_law_378 : decode cL_law 378 = .ok (.iadd, 1) := by decide +kernel
theorem dL_law_379 : decode cL_law 379 = .ok (.iaload, 1) := by decide +kernel
theorem dL_law_380 : decode cL_law 380 = .ok (.iload 14, 2) := by decide +kernel
theorem dL_law_382 : decode cL_law 382 = .ok (.iand, 1) := by decide +kernel
theorem dL_law_383 : decode cL_law 383 = .ok (.if_icmp .ne 20, 3) := by decide +kernel
theorem dL_law_386 : decode cL_law 386 = .ok (.iload 7, 2) := by decide +kernel
theorem dL_law_388 : decode cL_law 388 = .ok (.aload_n 2, 1) := by decide +kernel
theorem dL_law_389 : decode cL_law 389 = .ok (.bipush 31, 2) := by decide +kernel
theorem dL_law_391 : decode cL_law 391 = .ok (.iload 13, 2) := by decide +kernel
theorem dL_law_393 : decode cL_law 393 = .ok (.iadd, 1) := by decide +kernel
theorem dL_law_394 : decode cL_law 394 = .ok (.iaload, 1) := by decide +kernel
theorem dL_law_395 : decode cL_law 395 = .ok (.iand, 1) := by decide +kernel
theorem dL_law_396 : decode cL_law 396 = .ok (.ifCond .ne 7, 3) := by decide +kernel
theorem dL_law_399 : decode cL_law 399 = .ok (.iconst 1, 1) := by decide +kernel
theorem dL_law_400 : decode cL_law 400 = .ok (.goto 4, 3) := by decide +kernel
theorem dL_law_403 : decode cL_law 403 = .ok (.iconst 0, 1) := by decide +kernel
theorem dL_law_404 : decode cL_law 404 = .ok (.istore 15, 2) := by decide +kernel
theorem dL_law_406 : decode cL_law 406 = .ok (.iload 15, 2) := by decide +kernel
theorem dL_law_408 : decode cL_law 408 = .ok (.iload 10, 2) := by decide +kernel
theorem dL_law_410 : decode cL_law 410 = .ok (.iload 13, 2) := by decide +kernel
theorem dL_law_412 : decode cL_law 412 = .ok (.ishr, 1) := by decide +kernel
theorem dL_law_413 : decode cL_law 413 = .ok (.iconst 1, 1) := by decide +kernel
theorem dL_law_414 : decode cL_law 414 = .ok (.iand, 1) := by decide +kernel
theorem dL_law_415 : decode cL_law 415 = .ok (.iconst 1, 1) := by decide +kernel
theorem dL_law_416 : decode cL_law 416 = .ok (.if_icmp .ne 7, 3) := by decide +kernel
theorem dL_law_419 : decode cL_law 419 = .ok (.iconst 1, 1) := by decide +kernel
theorem dL_law_420 : decode cL_law 420 = .ok (.goto 4, 3) := by decide +kernel
theorem dL_law_423 : decode cL_law 423 = .ok (.iconst 0, 1) := by decide +kernel
theorem dL_law_424 : decode cL_law 424 = .ok (.if_icmp .eq 5, 3) := by decide +kernel
theorem dL_law_427 : decode cL_law 427 = .ok (.iconst 0, 1) := by decide +kernel
theorem dL_law_428 : decode cL_law 428 = .ok (.ireturn, 1) := by decide +kernel
theorem dL_law_429 : decode cL_law 429 = .ok (.iinc 13 1, 3) := by decide +kernel
theorem dL_law_432 : decode cL_law 432 = .ok (.goto (-86), 3) := by decide +kernel
theorem dL_law_435 : decode cL_law 435 = .ok (.iconst 0, 1) := by decide +kernel
theorem dL_law_436 : decode cL_law 436 = .ok (.istore 13, 2) := by decide +kernel
theorem dL_law_438 : decode cL_law 438 = .ok (.iload 13, 2) := by decide +kernel
theorem dL_law_440 : decode cL_law 440 = .ok (.iload_n 3, 1) := by decide +kernel
theorem dL_law_441 : decode cL_law 441 = .ok (.if_icmp .ge 491, 3) := by decide +kernel
theorem dL_law_444 : decode cL_law 444 = .ok (.iload 8, 2) := by decide +kernel
theorem dL_law_446 : decode cL_law 446 = .ok (.iload 9, 2) := by decide +kernel
theorem dL_law_448 : decode cL_law 448 = .ok (.ior, 1) := by decide +kernel
theorem dL_law_449 : decode cL_law 449 = .ok (.iload 13, 2) := by decide +kernel
theorem dL_law_451 : decode cL_law 451 = .ok (.ishr, 1) := by decide +kernel
theorem dL_law_452 : decode cL_law 452 = .ok (.iconst 1, 1) := by decide +kernel
theorem dL_law_453 : decode cL_law 453 = .ok (.iand, 1) := by decide +kernel
theorem dL_law_454 : decode cL_law 454 = .ok (.ifCond .ne 7, 3) := by decide +kernel
theorem dL_law_457 : decode cL_law 457 = .ok (.iconst 1, 1) := by decide +kernel
theorem dL_law_458 : decode cL_law 458 = .ok (.goto 4, 3) := by decide +kernel
theorem dL_law_461 : decode cL_law 461 = .ok (.iconst 0, 1) := by decide +kernel
theorem dL_law_462 : decode cL_law 462 = .ok (.istore 14, 2) := by decide +kernel
theorem dL_law_464 : decode cL_law 464 = .ok (.iconst 1, 1) := by decide +kernel
theorem dL_law_465 : decode cL_law 465 = .ok (.aload_n 0, 1) := by decide +kernel
theorem dL_law_466 : decode cL_law 466 = .ok (.bipush 13, 2) := by decide +kernel
theorem dL_law_468 : decode cL_law 468 = .ok (.invokestatic 9, 3) := by decide +kernel
theorem dL_law_471 : decode cL_law 471 = .ok (.iconst 4, 1) := by decide +kernel
theorem dL_law_472 : decode cL_law 472 = .ok (.iload 13, 2) := by decide +kernel
theorem dL_law_474 : decode cL_law 474 = .ok (.imul, 1) := by decide +kernel
theorem dL_law_475 : decode cL_law 475 = .ok (.ishr, 1) := by decide +kernel
theorem dL_law_476 : decode cL_law 476 = .ok (.bipush 9, 2) := by decide +kernel
theorem dL_law_478 : decode cL_law 478 = .ok (.invokestatic 15, 3) := by decide +kernel
theorem dL_law_481 : decode cL_law 481 = .ok (.iadd, 1) := by decide +kernel
theorem dL_law_482 : decode cL_law 482 = .ok (.istore 15, 2) := by decide +kernel
theorem dL_law_484 : decode cL_law 484 = .ok (.aload_n 1, 1) := by decide +kernel
theorem dL_law_485 : decode cL_law 485 = .ok (.iload 13, 2) := by decide +kernel
theorem dL_law_487 : decode cL_law 487 = .ok (.iload 15, 2) := by decide +kernel
theorem dL_law_489 : decode cL_law 489 = .ok (.invokevirtual 72, 3) := by decide +kernel
theorem dL_law_492 : decode cL_law 492 = .ok (.istore 16, 2) := by decide +kernel
theorem dL_law_494 : decode cL_law 494 = .ok (.aload_n 1, 1) := by decide +kernel
theorem dL_law_495 : decode cL_law 495 = .ok (.invokevirtual 42, 3) := by decide +kernel
theorem dL_law_498 : decode cL_law 498 = .ok (.istore 17, 2) := by decide +kernel
theorem dL_law_500 : decode cL_law 500 = .ok (.aload_n 1, 1) := by decide +kernel
theorem dL_law_501 : decode cL_law 501 = .ok (.iload 13, 2) := by decide +kernel
theorem dL_law_503 : decode cL_law 503 = .ok (.iload 15, 2) := by decide +kernel
theorem dL_law_505 : decode cL_law 505 = .ok (.invokevirtual 75, 3) := by decide +kernel
theorem dL_law_508 : decode cL_law 508 = .ok (.istore 18, 2) := by decide +kernel
theorem dL_law_510 : decode cL_law 510 = .ok (.iload 14, 2) := by decide +kernel
theorem dL_law_512 : decode cL_law 512 = .ok (.ifCond .ne 30, 3) := by decide +kernel
theorem dL_law_515 : decode cL_law 515 = .ok (.iload 16, 2) := by decide +kernel
theorem dL_law_517 : decode cL_law 517 = .ok (.bipush (-4), 2) := by decide +kernel
theorem dL_law_519 : decode cL_law 519 = .ok (.if_icmp .ne 21, 3) := by decide +kernel
theorem dL_law_522 : decode cL_law 522 = .ok (.iload 18, 2) := by decide +kernel
theorem dL_law_524 : decode cL_law 524 = .ok (.bipush (-4), 2) := by decide +kernel
theorem dL_law_526 : decode cL_law 526 = .ok (.if_icmp .ne 14, 3) := by decide +kernel
theorem dL_law_529 : decode cL_law 529 = .ok (.aload_n 1, 1) := by decide +kernel
theorem dL_law_530 : decode cL_law 530 = .ok (.iload 13, 2) := by decide +kernel
theorem dL_law_532 : decode cL_law 532 = .ok (.invokevirtual 78, 3) := by decide +kernel
theorem dL_law_535 : decode cL_law 535 = .ok (.bipush (-4), 2) := by decide +kernel
theorem dL_law_537 : decode cL_law 537 = .ok (.if_icmp .eq 389, 3) := by decide +kernel
theorem dL_law_540 : decode cL_law 540 = .ok (.iconst 0, 1) := by decide +kernel
theorem dL_law_541 : decode cL_law 541 = .ok (.ireturn, 1) := by decide +kernel
theorem dL_law_542 : decode cL_law 542 = .ok (.iconst 0, 1) := by decide +kernel
theorem dL_law_543 : decode cL_law 543 = .ok (.istore 19, 2) := by decide +kernel
theorem dL_law_545 : decode cL_law 545 = .ok (.iload 18, 2) := by decide +kernel
theorem dL_law_547 : decode cL_law 547 = .ok (.ifCond .lt 86, 3) := by decide +kernel
theorem dL_law_550 : decode cL_law 550 = .ok (.iload 18, 2) := by decide +kernel
theorem dL_law_552 : decode cL_law 552 = .ok (.iconst 1, 1) := by decide +kernel
theorem dL_law_553 : decode cL_law 553 = .ok (.if_icmp .gt 80, 3) := by decide +kernel
theorem dL_law_556 : decode cL_law 556 = .ok (.iload 17, 2) := by decide +kernel
theorem dL_law_558 : decode cL_law 558 = .ok (.ifCond .lt 7, 3) := by decide +kernel
theorem dL_law_561 : decode cL_law 561 = .ok (.iconst 1, 1) := by decide +kernel
theorem dL_law_562 : decode cL_law 562 = .ok (.goto 4, 3) := by decide +kernel
theorem dL_law_565 : decode cL_law 565 = .ok (.iconst 0, 1) := by decide +kernel
theorem dL_law_566 : decode cL_law 566 = .ok (.iload 18, 2) := by decide +kernel
theorem dL_law_568 : decode cL_law 568 = .ok (.iconst 1, 1) := by decide +kernel
theorem dL_law_569 : decode cL_law 569 = .ok (.if_icmp .ne 7, 3) := by decide +kernel
theorem dL_law_572 : decode cL_law 572 = .ok (.iconst 1, 1) := by decide +kernel
theorem dL_law_573 : decode cL_law 573 = .ok (.goto 4, 3) := by decide +kernel
theorem dL_law_576 : decode cL_law 576 = .ok (.iconst 0, 1) := by decide +kernel
theorem dL_law_577 : decode cL_law 577 = .ok (.if_icmp .ne 56, 3) := by decide +kernel
theorem dL_law_580 : decode cL_law 580 = .ok (.aload_n 1, 1) := by decide +kernel
theorem dL_law_581 : decode cL_law 581 = .ok (.bipush 6, 2) := by decide +kernel
theorem dL_law_583 : decode cL_law 583 = .ok (.invokevirtual 62, 3) := by decide +kernel
theorem dL_law_586 : decode cL_law 586 = .ok (.iload 17, 2) := by decide +kernel
theorem dL_law_588 : decode cL_law 588 = .ok (.ifCond .ge 8, 3) := by decide +kernel
theorem dL_law_591 : decode cL_law 591 = .ok (.iload 9, 2) := by decide +kernel
theorem dL_law_593 : decode cL_law 593 = .ok (.goto 10, 3) := by decide +kernel
theorem dL_law_596 : decode cL_law 596 = .ok (.iload 9, 2) := by decide +kernel
theorem dL_law_598 : decode cL_law 598 = .ok (.iconst 1, 1) := by decide +kernel
theorem dL_law_599 : decode cL_law 599 = .ok (.iload 17, 2) := by decide +kernel
theorem dL_law_601 : decode cL_law 601 = .ok (.ishl, 1) := by decide +kernel
theorem dL_law_602 : decode cL_law 602 = .ok (.ior, 1) := by decide +kernel
theorem dL_law_603 : decode cL_law 603 = .ok (.if_icmp .ne 30, 3) := by decide +kernel
theorem dL_law_606 : decode cL_law 606 = .ok (.iload 16, 2) := by decide +kernel
theorem dL_law_608 : decode cL_law 608 = .ok (.iload 13, 2) := by decide +kernel
theorem dL_law_610 : decode cL_law 610 = .ok (.ishr, 1) := by decide +kernel
theorem dL_law_611 : decode cL_law 611 = .ok (.iconst 1, 1) := by decide +kernel
theorem dL_law_612 : decode cL_law 612 = .ok (.iand, 1) := by decide +kernel
theorem dL_law_613 : decode cL_law 613 = .ok (.iconst 1, 1) := by decide +kernel
theorem dL_law_614 : decode cL_law 614 = .ok (.if_icmp .ne 19, 3) := by decide +kernel
theorem dL_law_617 : decode cL_law 617 = .ok (.iload 17, 2) := by decide +kernel
theorem dL_law_619 : decode cL_law 619 = .ok (.ifCond .lt 16, 3) := by decide +kernel
theorem dL_law_622 : decode cL_law 622 = .ok (.iload 16, 2) := by decide +kernel
theorem dL_law_624 : decode cL_law 624 = .ok (.iload 17, 2) := by decide +kernel
theorem dL_law_626 : decode cL_law 626 = .ok (.ishr, 1) := by decide +kernel
theorem dL_law_627 : decode cL_law 627 = .ok (.iconst 1, 1) := by decide +kernel
theorem dL_law_628 : decode cL_law 628 = .ok (.iand, 1) := by decide +kernel
theorem dL_law_629 : decode cL_law 629 = .ok (.iconst 1, 1) := by decide +kernel
theorem dL_law_630 : decode cL_law 630 = .ok (.if_icmp .eq 5, 3) := by decide +kernel
theorem dL_law_633 : decode cL_law 633 = .ok (.iconst 0, 1) := by decide +kernel
theorem dL_law_634 : decode cL_law 634 = .ok (.ireturn, 1) := by decide +kernel
theorem dL_law_635 : decode cL_law 635 = .ok (.iconst 0, 1) := by decide +kernel
theorem dL_law_636 : decode cL_law 636 = .ok (.istore 20, 2) := by decide +kernel
theorem dL_law_638 : decode cL_law 638 = .ok (.iload 20, 2) := by decide +kernel
theorem dL_law_640 : decode cL_law 640 = .ok (.iload_n 3, 1) := by decide +kernel
theorem dL_law_641 : decode cL_law 641 = .ok (.if_icmp .ge 104, 3) := by decide +kernel
theorem dL_law_644 : decode cL_law 644 = .ok (.aload_n 1, 1) := by decide +kernel
theorem dL_law_645 : decode cL_law 645 = .ok (.iload 20, 2) := by decide +kernel
theorem dL_law_647 : decode cL_law 647 = .ok (.iconst 3, 1) := by decide +kernel
theorem dL_law_648 : decode cL_law 648 = .ok (.invokestatic 68, 3) := by decide +kernel
theorem dL_law_651 : decode cL_law 651 = .ok (.istore 21, 2) := by decide +kernel
theorem dL_law_653 : decode cL_law 653 = .ok (.iload 19, 2) := by decide +kernel
theorem dL_law_655 : decode cL_law 655 = .ok (.iload 20, 2) := by decide +kernel
theorem dL_law_657 : decode cL_law 657 = .ok (.iload 17, 2) := by decide +kernel
theorem dL_law_659 : decode cL_law 659 = .ok (.if_icmp .ne 7, 3) := by decide +kernel
theorem dL_law_662 : decode cL_law 662 = .ok (.iconst 0, 1) := by decide +kernel
theorem dL_law_663 : decode cL_law 663 = .ok (.goto 11, 3) := by decide +kernel
theorem dL_law_666 : decode cL_law 666 = .ok (.iload 21, 2) := by decide +kernel
theorem dL_law_668 : decode cL_law 668 = .ok (.aload 11, 2) := by decide +kernel
theorem dL_law_670 : decode cL_law 670 = .ok (.iload 20, 2) := by decide +kernel
theorem dL_law_672 : decode cL_law 672 = .ok (.iaload, 1) := by decide +kernel
theorem dL_law_673 : decode cL_law 673 = .ok (.isub, 1) := by decide +kernel
theorem dL_law_674 : decode cL_law 674 = .ok (.iadd, 1) := by decide +kernel
theorem dL_law_675 : decode cL_law 675 = .ok (.istore 19, 2) := by decide +kernel
theorem dL_law_677 : decode cL_law 677 = .ok (.iload 16, 2) := by decide +kernel
theorem dL_law_679 : decode cL_law 679 = .ok (.iload 20, 2) := by decide +kernel
theorem dL_law_681 : decode cL_law 681 = .ok (.ishr, 1) := by decide +kernel
theorem dL_law_682 : decode cL_law 682 = .ok (.iconst 1, 1) := by decide +kernel
theorem dL_law_683 : decode cL_law 683 = .ok (.iand, 1) := by decide +kernel
theorem dL_law_684 : decode cL_law 684 = .ok (.ifCond .ne 13, 3) := by decide +kernel
theorem dL_law_687 : decode cL_law 687 = .ok (.iload 21, 2) := by decide +kernel
theorem dL_law_689 : decode cL_law 689 = .ok (.aload 11, 2) := by decide +kernel
theorem dL_law_691 : decode cL_law 691 = .ok (.iload 20, 2) := by decide +kernel
theorem dL_law_693 : decode cL_law 693 = .ok (.iaload, 1) := by decide +kernel
theorem dL_law_694 : decode cL_law 694 = .ok (.if_icmp .ne 43, 3) := by decide +kernel
theorem dL_law_697 : decode cL_law 697 = .ok (.iload 20, 2) := by decide +kernel
theorem dL_law_699 : decode cL_law 699 = .ok (.iload 17, 2) := by decide +kernel
theorem dL_law_701 : decode cL_law 701 = .ok (.if_icmp .ne 8, 3) := by decide +kernel
theorem dL_law_704 : decode cL_law 704 = .ok (.iload 21, 2) := by decide +kernel
theorem dL_law_706 : decode cL_law 706 = .ok (.ifCond .ne 31, 3) := by decide +kernel
theorem dL_law_709 : decode cL_law 709 = .ok (.iload 16, 2) := by decide +kernel
theorem dL_law_711 : decode cL_law 711 = .ok (.iload 20, 2) := by decide +kernel
theorem dL_law_713 : decode cL_law 713 = .ok (.ishr, 1) := by decide +kernel
theorem dL_law_714 : decode cL_law 714 = .ok (.iconst 1, 1) := by decide +kernel
theorem dL_law_715 : decode cL_law 715 = .ok (.iand, 1) := by decide +kernel
theorem dL_law_716 : decode cL_law 716 = .ok (.iconst 1, 1) := by decide +kernel
theorem dL_law_717 : decode cL_law 717 = .ok (.if_icmp .ne 22, 3) := by decide +kernel
theorem dL_law_720 : decode cL_law 720 = .ok (.iload 20, 2) := by decide +kernel
theorem dL_law_722 : decode cL_law 722 = .ok (.iload 17, 2) := by decide +kernel
theorem dL_law_724 : decode cL_law 724 = .ok (.if_icmp .eq 15, 3) := by decide +kernel
theorem dL_law_727 : decode cL_law 727 = .ok (.iload 21, 2) := by decide +kernel
theorem dL_law_729 : decode cL_law 729 = .ok (.aload 11, 2) := by decide +kernel
theorem dL_law_731 : decode cL_law 731 = .ok (.iload 20, 2) := by decide +kernel
theorem dL_law_733 : decode cL_law 733 = .ok (.iaload, 1) := by decide +kernel
theorem dL_law_734 : decode cL_law 734 = .ok (.if_icmp .gt 5, 3) := by decide +kernel
theorem dL_law_737 : decode cL_law 737 = .ok (.iconst 0, 1) := by decide +kernel
theorem dL_law_738 : decode cL_law 738 = .ok (.ireturn, 1) := by decide +kernel
theorem dL_law_739 : decode cL_law 739 = .ok (.iinc 20 1, 3) := by decide +kernel
theorem dL_law_742 : decode cL_law 742 = .ok (.goto (-104), 3) := by decide +kernel
theorem dL_law_745 : decode cL_law 745 = .ok (.iload 17, 2) := by decide +kernel
theorem dL_law_747 : decode cL_law 747 = .ok (.ifCond .ge 10, 3) := by decide +kernel
theorem dL_law_750 : decode cL_law 750 = .ok (.iload 19, 2) := by decide +kernel
theorem dL_law_752 : decode cL_law 752 = .ok (.iload 15, 2) := by decide +kernel
theorem dL_law_754 : decode cL_law 754 = .ok (.if_icmp .lt 13, 3) := by decide +kernel
theorem dL_law_757 : decode cL_law 757 = .ok (.aload_n 1, 1) := by decide +kernel
theorem dL_law_758 : decode cL_law 758 = .ok (.iload 5, 2) := by decide +kernel
theorem dL_law_760 : decode cL_law 760 = .ok (.invokevirtual 81, 3) := by decide +kernel
theorem dL_law_763 : decode cL_law 763 = .ok (.iconst 1, 1) := by decide +kernel
theorem dL_law_764 : decode cL_law 764 = .ok (.if_icmp .eq 5, 3) := by decide +kernel
theorem dL_law_767 : decode cL_law 767 = .ok (.iconst 0, 1) := by decide +kernel
theorem dL_law_768 : decode cL_law 768 = .ok (.ireturn, 1) := by decide +kernel
theorem dL_law_769 : decode cL_law 769 = .ok (.aload_n 1, 1) := by decide +kernel
theorem dL_law_770 : decode cL_law 770 = .ok (.iload 13, 2) := by decide +kernel
theorem dL_law_772 : decode cL_law 772 = .ok (.invokevirtual 78, 3) := by decide +kernel
theorem dL_law_775 : decode cL_law 775 = .ok (.istore 20, 2) := by decide +kernel
theorem dL_law_777 : decode cL_law 777 = .ok (.aload_n 1, 1) := by decide +kernel
theorem dL_law_778 : decode cL_law 778 = .ok (.invokevirtual 42, 3) := by decide +kernel
theorem dL_law_781 : decode cL_law 781 = .ok (.istore 21, 2) := by decide +kernel
theorem dL_law_783 : decode cL_law 783 = .ok (.iload 20, 2) := by decide +kernel
theorem dL_law_785 : decode cL_law 785 = .ok (.ifCond .eq 50, 3) := by decide +kernel
theorem dL_law_788 : decode cL_law 788 = .ok (.iload 20, 2) := by decide +kernel
theorem dL_law_790 : decode cL_law 790 = .ok (.bipush 20, 2) := by decide +kernel
theorem dL_law_792 : decode cL_law 792 = .ok (.if_icmp .gt 43, 3) := by decide +kernel
theorem dL_law_795 : decode cL_law 795 = .ok (.iload 20, 2) := by decide +kernel
theorem dL_law_797 : decode cL_law 797 = .ok (.bipush (-9), 2) := by decide +kernel
theorem dL_law_799 : decode cL_law 799 = .ok (.if_icmp .ne 8, 3) := by decide +kernel
theorem dL_law_802 : decode cL_law 802 = .ok (.iload 17, 2) := by decide +kernel
theorem dL_law_804 : decode cL_law 804 = .ok (.ifCond .ge 31, 3) := by decide +kernel
theorem dL_law_807 : decode cL_law 807 = .ok (.iload 20, 2) := by decide +kernel
theorem dL_law_809 : decode cL_law 809 = .ok (.ifCond .le 28, 3) := by decide +kernel
theorem dL_law_812 : decode cL_law 812 = .ok (.iload 20, 2) := by decide +kernel
theorem dL_law_814 : decode cL_law 814 = .ok (.iload 15, 2) := by decide +kernel
theorem dL_law_816 : decode cL_law 816 = .ok (.if_icmp .le 8, 3) := by decide +kernel
theorem dL_law_819 : decode cL_law 819 = .ok (.iload 17, 2) := by decide +kernel
theorem dL_law_821 : decode cL_law 821 = .ok (.ifCond .ge 14, 3) := by decide +kernel
theorem dL_law_824 : decode cL_law 824 = .ok (.iload 21, 2) := by decide +kernel
theorem dL_law_826 : decode cL_law 826 = .ok (.ifCond .lt 9, 3) := by decide +kernel
theorem dL_law_829 : decode cL_law 829 = .ok (.iload 21, 2) := by decide +kernel
theorem dL_law_831 : decode cL_law 831 = .ok (.iload_n 3, 1) := by decide +kernel
theorem dL_law_832 : decode cL_law 832 = .ok (.if_icmp .lt 5, 3) := by decide +kernel
theorem dL_law_835 : decode cL_law 835 = .ok (.iconst 0, 1) := by decide +kernel
theorem dL_law_836 : decode cL_law 836 = .ok (.ireturn, 1) := by decide +kernel
theorem dL_law_837 : decode cL_law 837 = .ok (.iload 20, 2) := by decide +kernel
theorem dL_law_839 : decode cL_law 839 = .ok (.ifCond .le 49, 3) := by decide +kernel
theorem dL_law_842 : decode cL_law 842 = .ok (.iload 20, 2) := by decide +kernel
theorem dL_law_844 : decode cL_law 844 = .ok (.bipush 10, 2) := by decide +kernel
theorem dL_law_846 : decode cL_law 846 = .ok (.if_icmp .ge 42, 3) := by decide +kernel
theorem dL_law_849 : decode cL_law 849 = .ok (.aload_n 1, 1) := by decide +kernel
theorem dL_law_850 : decode cL_law 850 = .ok (.iload 13, 2) := by decide +kernel
theorem dL_law_852 : decode cL_law 852 = .ok (.iload 20, 2) := by decide +kernel
theorem dL_law_854 : decode cL_law 854 = .ok (.invokevirtual 75, 3) := by decide +kernel
theorem dL_law_857 : decode cL_law 857 = .ok (.iconst 1, 1) := by decide +kernel
theorem dL_law_858 : decode cL_law 858 = .ok (.if_icmp .ne 28, 3) := by decide +kernel
theorem dL_law_861 : decode cL_law 861 = .ok (.aload_n 1, 1) := by decide +kernel
theorem dL_law_862 : decode cL_law 862 = .ok (.bipush 6, 2) := by decide +kernel
theorem dL_law_864 : decode cL_law 864 = .ok (.invokevirtual 62, 3) := by decide +kernel
theorem dL_law_867 : decode cL_law 867 = .ok (.iload 21, 2) := by decide +kernel
theorem dL_law_869 : decode cL_law 869 = .ok (.ishr, 1) := by decide +kernel
theorem dL_law_870 : decode cL_law 870 = .ok (.iconst 1, 1) := by decide +kernel
theorem dL_law_871 : decode cL_law 871 = .ok (.iand, 1) := by decide +kernel
theorem dL_law_872 : decode cL_law 872 = .ok (.iconst 1, 1) := by decide +kernel
theorem dL_law_873 : decode cL_law 873 = .ok (.if_icmp .ne 13, 3) := by decide +kernel
theorem dL_law_876 : decode cL_law 876 = .ok (.aload_n 1, 1) := by decide +kernel
theorem dL_law_877 : decode cL_law 877 = .ok (.iload 5, 2) := by decide +kernel
theorem dL_law_879 : decode cL_law 879 = .ok (.invokevirtual 81, 3) := by decide +kernel
theorem dL_law_882 : decode cL_law 882 = .ok (.iconst 1, 1) := by decide +kernel
theorem dL_law_883 : decode cL_law 883 = .ok (.if_icmp .eq 5, 3) := by decide +kernel
theorem dL_law_886 : decode cL_law 886 = .ok (.iconst 0, 1) := by decide +kernel
theorem dL_law_887 : decode cL_law 887 = .ok (.ireturn, 1) := by decide +kernel
theorem dL_law_888 : decode cL_law 888 = .ok (.iload 20, 2) := by decide +kernel
theorem dL_law_890 : decode cL_law 890 = .ok (.iconst 1, 1) := by decide +kernel
theorem dL_law_891 : decode cL_law 891 = .ok (.if_icmp .le 35, 3) := by decide +kernel
theorem dL_law_894 : decode cL_law 894 = .ok (.iload 20, 2) := by decide +kernel
theorem dL_law_896 : decode cL_law 896 = .ok (.bipush 11, 2) := by decide +kernel
theorem dL_law_898 : decode cL_law 898 = .ok (.if_icmp .ge 28, 3) := by decide +kernel
theorem dL_law_901 : decode cL_law 901 = .ok (.aload_n 1, 1) := by decide +kernel
theorem dL_law_902 : decode cL_law 902 = .ok (.iload 13, 2) := by decide +kernel
theorem dL_law_904 : decode cL_law 904 = .ok (.iload 20, 2) := by decide +kernel
theorem dL_law_906 : decode cL_law 906 = .ok (.iconst 1, 1) := by decide +kernel
theorem dL_law_907 : decode cL_law 907 = .ok (.isub, 1) := by decide +kernel
theorem dL_law_908 : decode cL_law 908 = .ok (.invokevirtual 75, 3) := by decide +kernel
theorem dL_law_911 : decode cL_law 911 = .ok (.ifCond .ne 13, 3) := by decide +kernel
theorem dL_law_914 : decode cL_law 914 = .ok (.aload_n 1, 1) := by decide +kernel
theorem dL_law_915 : decode cL_law 915 = .ok (.iload 5, 2) := by decide +kernel
theorem dL_law_917 : decode cL_law 917 = .ok (.invokevirtual 81, 3) := by decide +kernel
theorem dL_law_920 : decode cL_law 920 = .ok (.iconst 1, 1) := by decide +kernel
theorem dL_law_921 : decode cL_law 921 = .ok (.if_icmp .eq 5, 3) := by decide +kernel
theorem dL_law_924 : decode cL_law 924 = .ok (.iconst 0, 1) := by decide +kernel
theorem dL_law_925 : decode cL_law 925 = .ok (.ireturn, 1) := by decide +kernel
theorem dL_law_926 : decode cL_law 926 = .ok (.iinc 13 1, 3) := by decide +kernel
theorem dL_law_929 : decode cL_law 929 = .ok (.goto (-491), 3) := by decide +kernel
theorem dL_law_932 : decode cL_law 932 = .ok (.aload_n 0, 1) := by decide +kernel
theorem dL_law_933 : decode cL_law 933 = .ok (.bipush 14, 2) := by decide +kernel
theorem dL_law_935 : decode cL_law 935 = .ok (.invokestatic 9, 3) := by decide +kernel
theorem dL_law_938 : decode cL_law 938 = .ok (.iload 4, 2) := by decide +kernel
theorem dL_law_940 : decode cL_law 940 = .ok (.invokestatic 15, 3) := by decide +kernel
theorem dL_law_943 : decode cL_law 943 = .ok (.istore 13, 2) := by decide +kernel
theorem dL_law_945 : decode cL_law 945 = .ok (.aload_n 1, 1) := by decide +kernel
theorem dL_law_946 : decode cL_law 946 = .ok (.iload 13, 2) := by decide +kernel
theorem dL_law_948 : decode cL_law 948 = .ok (.iconst 5, 1) := by decide +kernel
theorem dL_law_949 : decode cL_law 949 = .ok (.invokevirtual 84, 3) := by decide +kernel
theorem dL_law_952 : decode cL_law 952 = .ok (.istore 14, 2) := by decide +kernel
theorem dL_law_954 : decode cL_law 954 = .ok (.iload 14, 2) := by decide +kernel
theorem dL_law_956 : decode cL_law 956 = .ok (.bipush (-9), 2) := by decide +kernel
theorem dL_law_958 : decode cL_law 958 = .ok (.if_icmp .lt 50, 3) := by decide +kernel
theorem dL_law_961 : decode cL_law 961 = .ok (.iload 14, 2) := by decide +kernel
theorem dL_law_963 : decode cL_law 963 = .ok (.iconst 4, 1) := by decide +kernel
theorem dL_law_964 : decode cL_law 964 = .ok (.if_icmp .gt 44, 3) := by decide +kernel
theorem dL_law_967 : decode cL_law 967 = .ok (.iload 14, 2) := by decide +kernel
theorem dL_law_969 : decode cL_law 969 = .ok (.ifCond .ge 10, 3) := by decide +kernel
theorem dL_law_972 : decode cL_law 972 = .ok (.iload 14, 2) := by decide +kernel
theorem dL_law_974 : decode cL_law 974 = .ok (.bipush (-9), 2) := by decide +kernel
theorem dL_law_976 : decode cL_law 976 = .ok (.if_icmp .ne 32, 3) := by decide +kernel
theorem dL_law_979 : decode cL_law 979 = .ok (.iload 14, 2) := by decide +kernel
theorem dL_law_981 : decode cL_law 981 = .ok (.ifCond .ne 7, 3) := by decide +kernel
theorem dL_law_984 : decode cL_law 984 = .ok (.iconst 1, 1) := by decide +kernel
theorem dL_law_985 : decode cL_law 985 = .ok (.goto 4, 3) := by decide +kernel
theorem dL_law_988 : decode cL_law 988 = .ok (.iconst 0, 1) := by decide +kernel
theorem dL_law_989 : decode cL_law 989 = .ok (.iload 10, 2) := by decide +kernel
theorem dL_law_991 : decode cL_law 991 = .ok (.iload 13, 2) := by decide +kernel
theorem dL_law_993 : decode cL_law 993 = .ok (.ishr, 1) := by decide +kernel
theorem dL_law_994 : decode cL_law 994 = .ok (.iconst 1, 1) := by decide +kernel
theorem dL_law_995 : decode cL_law 995 = .ok (.iand, 1) := by decide +kernel
theorem dL_law_996 : decode cL_law 996 = .ok (.iconst 1, 1) := by decide +kernel
theorem dL_law_997 : decode cL_law 997 = .ok (.if_icmp .ne 7, 3) := by decide +kernel
theorem dL_law_1000 : decode cL_law 1000 = .ok (.iconst 1, 1) := by decide +kernel
theorem dL_law_1001 : decode cL_law 1001 = .ok (.goto 4, 3) := by decide +kernel
theorem dL_law_1004 : decode cL_law 1004 = .ok (.iconst 0, 1) := by decide +kernel
theorem dL_law_1005 : decode cL_law 1005 = .ok (.if_icmp .eq 5, 3) := by decide +kernel
theorem dL_law_1008 : decode cL_law 1008 = .ok (.iconst 0, 1) := by decide +kernel
theorem dL_law_1009 : decode cL_law 1009 = .ok (.ireturn, 1) := by decide +kernel
theorem dL_law_1010 : decode cL_law 1010 = .ok (.iconst 0, 1) := by decide +kernel
theorem dL_law_1011 : decode cL_law 1011 = .ok (.istore 15, 2) := by decide +kernel
theorem dL_law_1013 : decode cL_law 1013 = .ok (.iload 15, 2) := by decide +kernel
theorem dL_law_1015 : decode cL_law 1015 = .ok (.iload 14, 2) := by decide +kernel
theorem dL_law_1017 : decode cL_law 1017 = .ok (.if_icmp .ge 111, 3) := by decide +kernel
theorem dL_law_1020 : decode cL_law 1020 = .ok (.aload_n 1, 1) := by decide +kernel
theorem dL_law_1021 : decode cL_law 1021 = .ok (.iconst 5, 1) := by decide +kernel
theorem dL_law_1022 : decode cL_law 1022 = .ok (.iload 15, 2) := by decide +kernel
theorem dL_law_1024 : decode cL_law 1024 = .ok (.invokevirtual 87, 3) := by decide +kernel
theorem dL_law_1027 : decode cL_law 1027 = .ok (.istore 16, 2) := by decide +kernel
theorem dL_law_1029 : decode cL_law 1029 = .ok (.aload_n 1, 1) := by decide +kernel
theorem dL_law_1030 : decode cL_law 1030 = .ok (.invokevirtual 42, 3) := by decide +kernel
theorem dL_law_1033 : decode cL_law 1033 = .ok (.istore 17, 2) := by decide +kernel
theorem dL_law_1035 : decode cL_law 1035 = .ok (.iload 16, 2) := by decide +kernel
theorem dL_law_1037 : decode cL_law 1037 = .ok (.iconst 1, 1) := by decide +kernel
theorem dL_law_1038 : decode cL_law 1038 = .ok (.if_icmp .ne 82, 3) := by decide +kernel
theorem dL_law_1041 : decode cL_law 1041 = .ok (.iload 17, 2) := by decide +kernel
theorem dL_law_1043 : decode cL_law 1043 = .ok (.ifCond .lt 77, 3) := by decide +kernel
theorem dL_law_1046 : decode cL_law 1046 = .ok (.iload 17, 2) := by decide +kernel
theorem dL_law_1048 : decode cL_law 1048 = .ok (.bipush 11, 2) := by decide +kernel
theorem dL_law_1050 : decode cL_law 1050 = .ok (.if_icmp .gt 70, 3) := by decide +kernel
theorem dL_law_1053 : decode cL_law 1053 = .ok (.iload 17, 2) := by decide +kernel
theorem dL_law_1055 : decode cL_law 1055 = .ok (.bipush 6, 2) := by decide +kernel
theorem dL_law_1057 : decode cL_law 1057 = .ok (.irem, 1) := by decide +kernel
theorem dL_law_1058 : decode cL_law 1058 = .ok (.iload_n 3, 1) := by decide +kernel
theorem dL_law_1059 : decode cL_law 1059 = .ok (.if_icmp .ge 61, 3) := by decide +kernel
theorem dL_law_1062 : decode cL_law 1062 = .ok (.iload 17, 2) := by decide +kernel
theorem dL_law_1064 : decode cL_law 1064 = .ok (.bipush 6, 2) := by decide +kernel
theorem dL_law_1066 : decode cL_law 1066 = .ok (.if_icmp .ge 16, 3) := by decide +kernel
theorem dL_law_1069 : decode cL_law 1069 = .ok (.aload_n 1, 1) := by decide +kernel
theorem dL_law_1070 : decode cL_law 1070 = .ok (.iload 17, 2) := by decide +kernel
theorem dL_law_1072 : decode cL_law 1072 = .ok (.iconst 1, 1) := by decide +kernel
theorem dL_law_1073 : decode cL_law 1073 = .ok (.invokevirtual 75, 3) := by decide +kernel
theorem dL_law_1076 : decode cL_law 1076 = .ok (.ifCond .eq 18, 3) := by decide +kernel
theorem dL_law_1079 : decode cL_law 1079 = .ok (.goto 41, 3) := by decide +kernel
theorem dL_law_1082 : decode cL_law 1082 = .ok (.aload_n 1, 1) := by decide +kernel
theorem dL_law_1083 : decode cL_law 1083 = .ok (.iload 17, 2) := by decide +kernel
theorem dL_law_1085 : decode cL_law 1085 = .ok (.bipush 6, 2) := by decide +kernel
theorem dL_law_1087 : decode cL_law 1087 = .ok (.isub, 1) := by decide +kernel
theorem dL_law_1088 : decode cL_law 1088 = .ok (.invokevirtual 90, 3) := by decide +kernel
theorem dL_law_1091 : decode cL_law 1091 = .ok (.ifCond .lt 29, 3) := by decide +kernel
theorem dL_law_1094 : decode cL_law 1094 = .ok (.aload_n 1, 1) := by decide +kernel
theorem dL_law_1095 : decode cL_law 1095 = .ok (.invokevirtual 65, 3) := by decide +kernel
theorem dL_law_1098 : decode cL_law 1098 = .ok (.iload 13, 2) := by decide +kernel
theorem dL_law_1100 : decode cL_law 1100 = .ok (.ishr, 1) := by decide +kernel
theorem dL_law_1101 : decode cL_law 1101 = .ok (.iconst 1, 1) := by decide +kernel
theorem dL_law_1102 : decode cL_law 1102 = .ok (.iand, 1) := by decide +kernel
theorem dL_law_1103 : decode cL_law 1103 = .ok (.iload 15, 2) := by decide +kernel
theorem dL_law_1105 : decode cL_law 1105 = .ok (.iload 14, 2) := by decide +kernel
theorem dL_law_1107 : decode cL_law 1107 = .ok (.iconst 1, 1) := by decide +kernel
theorem dL_law_1108 : decode cL_law 1108 = .ok (.isub, 1) := by decide +kernel
theorem dL_law_1109 : decode cL_law 1109 = .ok (.if_icmp .ne 7, 3) := by decide +kernel
theorem dL_law_1112 : decode cL_law 1112 = .ok (.iconst 1, 1) := by decide +kernel
theorem dL_law_1113 : decode cL_law 1113 = .ok (.goto 4, 3) := by decide +kernel
theorem dL_law_1116 : decode cL_law 1116 = .ok (.iconst 0, 1) := by decide +kernel
theorem dL_law_1117 : decode cL_law 1117 = .ok (.if_icmp .eq 5, 3) := by decide +kernel
theorem dL_law_1120 : decode cL_law 1120 = .ok (.iconst 0, 1) := by decide +kernel
theorem dL_law_1121 : decode cL_law 1121 = .ok (.ireturn, 1) := by decide +kernel
theorem dL_law_1122 : decode cL_law 1122 = .ok (.iinc 15 1, 3) := by decide +kernel
theorem dL_law_1125 : decode cL_law 1125 = .ok (.goto (-112), 3) := by decide +kernel
theorem dL_law_1128 : decode cL_law 1128 = .ok (.iload 14, 2) := by decide +kernel
theorem dL_law_1130 : decode cL_law 1130 = .ok (.ifCond .le 24, 3) := by decide +kernel
theorem dL_law_1133 : decode cL_law 1133 = .ok (.aload_n 1, 1) := by decide +kernel
theorem dL_law_1134 : decode cL_law 1134 = .ok (.bipush 6, 2) := by decide +kernel
theorem dL_law_1136 : decode cL_law 1136 = .ok (.invokevirtual 62, 3) := by decide +kernel
theorem dL_law_1139 : decode cL_law 1139 = .ok (.iload 9, 2) := by decide +kernel
theorem dL_law_1141 : decode cL_law 1141 = .ok (.if_icmp .ne 23, 3) := by decide +kernel
theorem dL_law_1144 : decode cL_law 1144 = .ok (.aload_n 1, 1) := by decide +kernel
theorem dL_law_1145 : decode cL_law 1145 = .ok (.iload 13, 2) := by decide +kernel
theorem dL_law_1147 : decode cL_law 1147 = .ok (.iconst 5, 1) := by decide +kernel
theorem dL_law_1148 : decode cL_law 1148 = .ok (.invokevirtual 84, 3) := by decide +kernel
theorem dL_law_1151 : decode cL_law 1151 = .ok (.ifCond .ne 13, 3) := by decide +kernel
theorem dL_law_1154 : decode cL_law 1154 = .ok (.aload_n 1, 1) := by decide +kernel
theorem dL_law_1155 : decode cL_law 1155 = .ok (.iconst 0, 1) := by decide +kernel
theorem dL_law_1156 : decode cL_law 1156 = .ok (.invokevirtual 93, 3) := by decide +kernel
theorem dL_law_1159 : decode cL_law 1159 = .ok (.iload 5, 2) := by decide +kernel
theorem dL_law_1161 : decode cL_law 1161 = .ok (.if_icmp .eq 5, 3) := by decide +kernel
theorem dL_law_1164 : decode cL_law 1164 = .ok (.iconst 0, 1) := by decide +kernel
theorem dL_law_1165 : decode cL_law 1165 = .ok (.ireturn, 1) := by decide +kernel
theorem dL_law_1166 : decode cL_law 1166 = .ok (.aload_n 1, 1) := by decide +kernel
theorem dL_law_1167 : decode cL_law 1167 = .ok (.invokevirtual 96, 3) := by decide +kernel
theorem dL_law_1170 : decode cL_law 1170 = .ok (.istore 15, 2) := by decide +kernel
theorem dL_law_1172 : decode cL_law 1172 = .ok (.aload_n 1, 1) := by decide +kernel
theorem dL_law_1173 : decode cL_law 1173 = .ok (.invokevirtual 42, 3) := by decide +kernel
theorem dL_law_1176 : decode cL_law 1176 = .ok (.istore 16, 2) := by decide +kernel
theorem dL_law_1178 : decode cL_law 1178 = .ok (.aload_n 1, 1) := by decide +kernel
theorem dL_law_1179 : decode cL_law 1179 = .ok (.invokevirtual 99, 3) := by decide +kernel
theorem dL_law_1182 : decode cL_law 1182 = .ok (.istore 17, 2) := by decide +kernel
theorem dL_law_1184 : decode cL_law 1184 = .ok (.iload 15, 2) := by decide +kernel
theorem dL_law_1186 : decode cL_law 1186 = .ok (.bipush (-9), 2) := by decide +kernel
theorem dL_law_1188 : decode cL_law 1188 = .ok (.if_icmp .ne 11, 3) := by decide +kernel
theorem dL_law_1191 : decode cL_law 1191 = .ok (.iload 10, 2) := by decide +kernel
theorem dL_law_1193 : decode cL_law 1193 = .ok (.ifCond .ne 54, 3) := by decide +kernel
theorem dL_law_1196 : decode cL_law 1196 = .ok (.goto 49, 3) := by decide +kernel
theorem dL_law_1199 : decode cL_law 1199 = .ok (.iload 15, 2) := by decide +kernel
theorem dL_law_1201 : decode cL_law 1201 = .ok (.ifCond .lt 44, 3) := by decide +kernel
theorem dL_law_1204 : decode cL_law 1204 = .ok (.iload 15, 2) := by decide +kernel
theorem dL_law_1206 : decode cL_law 1206 = .ok (.iload 16, 2) := by decide +kernel
theorem dL_law_1208 : decode cL_law 1208 = .ok (.invokestatic 102, 3) := by decide +kernel
theorem dL_law_1211 : decode cL_law 1211 = .ok (.if_icmp .ne 34, 3) := by decide +kernel
theorem dL_law_1214 : decode cL_law 1214 = .ok (.iload 16, 2) := by decide +kernel
theorem dL_law_1216 : decode cL_law 1216 = .ok (.iload 9, 2) := by decide +kernel
theorem dL_law_1218 : decode cL_law 1218 = .ok (.iand, 1) := by decide +kernel
theorem dL_law_1219 : decode cL_law 1219 = .ok (.ifCond .ne 26, 3) := by decide +kernel
theorem dL_law_1222 : decode cL_law 1222 = .ok (.iload 15, 2) := by decide +kernel
theorem dL_law_1224 : decode cL_law 1224 = .ok (.ifCond .ne 7, 3) := by decide +kernel
theorem dL_law_1227 : decode cL_law 1227 = .ok (.iconst 1, 1) := by decide +kernel
theorem dL_law_1228 : decode cL_law 1228 = .ok (.goto 4, 3) := by decide +kernel
theorem dL_law_1231 : decode cL_law 1231 = .ok (.iconst 0, 1) := by decide +kernel
theorem dL_law_1232 : decode cL_law 1232 = .ok (.iload 10, 2) := by decide +kernel
theorem dL_law_1234 : decode cL_law 1234 = .ok (.ifCond .ne 7, 3) := by decide +kernel
theorem dL_law_1237 : decode cL_law 1237 = .ok (.iconst 1, 1) := by decide +kernel
theorem dL_law_1238 : decode cL_law 1238 = .ok (.goto 4, 3) := by decide +kernel
theorem dL_law_1241 : decode cL_law 1241 = .ok (.iconst 0, 1) := by decide +kernel
theorem dL_law_1242 : decode cL_law 1242 = .ok (.if_icmp .eq 5, 3) := by decide +kernel
theorem dL_law_1245 : decode cL_law 1245 = .ok (.iconst 0, 1) := by decide +kernel
theorem dL_law_1246 : decode cL_law 1246 = .ok (.ireturn, 1) := by decide +kernel
theorem dL_law_1247 : decode cL_law 1247 = .ok (.iconst 0, 1) := by decide +kernel
theorem dL_law_1248 : decode cL_law 1248 = .ok (.istore 18, 2) := by decide +kernel
theorem dL_law_1250 : decode cL_law 1250 = .ok (.iload 18, 2) := by decide +kernel
theorem dL_law_1252 : decode cL_law 1252 = .ok (.iload_n 3, 1) := by decide +kernel
theorem dL_law_1253 : decode cL_law 1253 = .ok (.if_icmp .ge 44, 3) := by decide +kernel
theorem dL_law_1256 : decode cL_law 1256 = .ok (.iload 15, 2) := by decide +kernel
theorem dL_law_1258 : decode cL_law 1258 = .ok (.ifCond .le 39, 3) := by decide +kernel
theorem dL_law_1261 : decode cL_law 1261 = .ok (.iload 16, 2) := by decide +kernel
theorem dL_law_1263 : decode cL_law 1263 = .ok (.iload 18, 2) := by decide +kernel
theorem dL_law_1265 : decode cL_law 1265 = .ok (.ishr, 1) := by decide +kernel
theorem dL_law_1266 : decode cL_law 1266 = .ok (.iconst 1, 1) := by decide +kernel
theorem dL_law_1267 : decode cL_law 1267 = .ok (.iand, 1) := by decide +kernel
theorem dL_law_1268 : decode cL_law 1268 = .ok (.iconst 1, 1) := by decide +kernel
theorem dL_law_1269 : decode cL_law 1269 = .ok (.if_icmp .ne 22, 3) := by decide +kernel
theorem dL_law_1272 : decode cL_law 1272 = .ok (.aload_n 1, 1) := by decide +kernel
theorem dL_law_1273 : decode cL_law 1273 = .ok (.invokevirtual 65, 3) := by decide +kernel
theorem dL_law_1276 : decode cL_law 1276 = .ok (.ifCond .eq 13, 3) := by decide +kernel
theorem dL_law_1279 : decode cL_law 1279 = .ok (.aload_n 1, 1) := by decide +kernel
theorem dL_law_1280 : decode cL_law 1280 = .ok (.iload 18, 2) := by decide +kernel
theorem dL_law_1282 : decode cL_law 1282 = .ok (.invokevirtual 105, 3) := by decide +kernel
theorem dL_law_1285 : decode cL_law 1285 = .ok (.iconst 1, 1) := by decide +kernel
theorem dL_law_1286 : decode cL_law 1286 = .ok (.if_icmp .ge 5, 3) := by decide +kernel
theorem dL_law_1289 : decode cL_law 1289 = .ok (.iconst 0, 1) := by decide +kernel
theorem dL_law_1290 : decode cL_law 1290 = .ok (.ireturn, 1) := by decide +kernel
theorem dL_law_1291 : decode cL_law 1291 = .ok (.iinc 18 1, 3) := by decide +kernel
theorem dL_law_1294 : decode cL_law 1294 = .ok (.goto (-44), 3) := by decide +kernel
theorem dL_law_1297 : decode cL_law 1297 = .ok (.iload 15, 2) := by decide +kernel
theorem dL_law_1299 : decode cL_law 1299 = .ok (.ifCond .lt 10, 3) := by decide +kernel
theorem dL_law_1302 : decode cL_law 1302 = .ok (.aload_n 1, 1) := by decide +kernel
theorem dL_law_1303 : decode cL_law 1303 = .ok (.invokevirtual 65, 3) := by decide +kernel
theorem dL_law_1306 : decode cL_law 1306 = .ok (.ifCond .ne 26, 3) := by decide +kernel
theorem dL_law_1309 : decode cL_law 1309 = .ok (.aload_n 1, 1) := by decide +kernel
theorem dL_law_1310 : decode cL_law 1310 = .ok (.iconst 0, 1) := by decide +kernel
theorem dL_law_1311 : decode cL_law 1311 = .ok (.invokevirtual 93, 3) := by decide +kernel
theorem dL_law_1314 : decode cL_law 1314 = .ok (.iload 5, 2) := by decide +kernel
theorem dL_law_1316 : decode cL_law 1316 = .ok (.if_icmp .ne 16, 3) := by decide +kernel
theorem dL_law_1319 : decode cL_law 1319 = .ok (.iload 17, 2) := by decide +kernel
theorem dL_law_1321 : decode cL_law 1321 = .ok (.ifCond .lt 11, 3) := by decide +kernel
theorem dL_law_1324 : decode cL_law 1324 = .ok (.iload 17, 2) := by decide +kernel
theorem dL_law_1326 : decode cL_law 1326 = .ok (.iload 9, 2) := by decide +kernel
theorem dL_law_1328 : decode cL_law 1328 = .ok (.iand, 1) := by decide +kernel
theorem dL_law_1329 : decode cL_law 1329 = .ok (.ifCond .eq 5, 3) := by decide +kernel
theorem dL_law_1332 : decode cL_law 1332 = .ok (.iconst 0, 1) := by decide +kernel
theorem dL_law_1333 : decode cL_law 1333 = .ok (.ireturn, 1) := by decide +kernel
theorem dL_law_1334 : decode cL_law 1334 = .ok (.iconst 0, 1) := by decide +kernel
theorem dL_law_1335 : decode cL_law 1335 = .ok (.istore 18, 2) := by decide +kernel
theorem dL_law_1337 : decode cL_law 1337 = .ok (.iload 18, 2) := by decide +kernel
theorem dL_law_1339 : decode cL_law 1339 = .ok (.iload_n 3, 1) := by decide +kernel
theorem dL_law_1340 : decode cL_law 1340 = .ok (.if_icmp .ge 80, 3) := by decide +kernel
theorem dL_law_1343 : decode cL_law 1343 = .ok (.iload 9, 2) := by decide +kernel
theorem dL_law_1345 : decode cL_law 1345 = .ok (.iload 18, 2) := by decide +kernel
theorem dL_law_1347 : decode cL_law 1347 = .ok (.ishr, 1) := by decide +kernel
theorem dL_law_1348 : decode cL_law 1348 = .ok (.iconst 1, 1) := by decide +kernel
theorem dL_law_1349 : decode cL_law 1349 = .ok (.iand, 1) := by decide +kernel
theorem dL_law_1350 : decode cL_law 1350 = .ok (.ifCond .ne 64, 3) := by decide +kernel
theorem dL_law_1353 : decode cL_law 1353 = .ok (.aload_n 1, 1) := by decide +kernel
theorem dL_law_1354 : decode cL_law 1354 = .ok (.iload 18, 2) := by decide +kernel
theorem dL_law_1356 : decode cL_law 1356 = .ok (.invokevirtual 105, 3) := by decide +kernel
theorem dL_law_1359 : decode cL_law 1359 = .ok (.iload 9, 2) := by decide +kernel
theorem dL_law_1361 : decode cL_law 1361 = .ok (.invokestatic 102, 3) := by decide +kernel
theorem dL_law_1364 : decode cL_law 1364 = .ok (.iconst 1, 1) := by decide +kernel
theorem dL_law_1365 : decode cL_law 1365 = .ok (.iadd, 1) := by decide +kernel
theorem dL_law_1366 : decode cL_law 1366 = .ok (.if_icmp .ne 46, 3) := by decide +kernel
theorem dL_law_1369 : decode cL_law 1369 = .ok (.aload_n 1, 1) := by decide +kernel
theorem dL_law_1370 : decode cL_law 1370 = .ok (.invokevirtual 65, 3) := by decide +kernel
theorem dL_law_1373 : decode cL_law 1373 = .ok (.iload 10, 2) := by decide +kernel
theorem dL_law_1375 : decode cL_law 1375 = .ok (.if_icmp .ne 7, 3) := by decide +kernel
theorem dL_law_1378 : decode cL_law 1378 = .ok (.iconst 1, 1) := by decide +kernel
theorem dL_law_1379 : decode cL_law 1379 = .ok (.goto 4, 3) := by decide +kernel
theorem dL_law_1382 : decode cL_law 1382 = .ok (.iconst 0, 1) := by decide +kernel
theorem dL_law_1383 : decode cL_law 1383 = .ok (.iload 17, 2) := by decide +kernel
theorem dL_law_1385 : decode cL_law 1385 = .ok (.iload 18, 2) := by decide +kernel
theorem dL_law_1387 : decode cL_law 1387 = .ok (.ishr, 1) := by decide +kernel
theorem dL_law_1388 : decode cL_law 1388 = .ok (.iconst 1, 1) := by decide +kernel
theorem dL_law_1389 : decode cL_law 1389 = .ok (.iand, 1) := by decide +kernel
theorem dL_law_1390 : decode cL_law 1390 = .ok (.iconst 1, 1) := by decide +kernel
theorem dL_law_1391 : decode cL_law 1391 = .ok (.if_icmp .ne 7, 3) := by decide +kernel
theorem dL_law_1394 : decode cL_law 1394 = .ok (.iconst 1, 1) := by decide +kernel
theorem dL_law_1395 : decode cL_law 1395 = .ok (.goto 4, 3) := by decide +kernel
theorem dL_law_1398 : decode cL_law 1398 = .ok (.iconst 0, 1) := by decide +kernel
theorem dL_law_1399 : decode cL_law 1399 = .ok (.if_icmp .ne 13, 3) := by decide +kernel
theorem dL_law_1402 : decode cL_law 1402 = .ok (.aload_n 1, 1) := by decide +kernel
theorem dL_law_1403 : decode cL_law 1403 = .ok (.iconst 0, 1) := by decide +kernel
theorem dL_law_1404 : decode cL_law 1404 = .ok (.invokevirtual 93, 3) := by decide +kernel
theorem dL_law_1407 : decode cL_law 1407 = .ok (.iload 5, 2) := by decide +kernel
theorem dL_law_1409 : decode cL_law 1409 = .ok (.if_icmp .eq 5, 3) := by decide +kernel
theorem dL_law_1412 : decode cL_law 1412 = .ok (.iconst 0, 1) := by decide +kernel
theorem dL_law_1413 : decode cL_law 1413 = .ok (.ireturn, 1) := by decide +kernel
theorem dL_law_1414 : decode cL_law 1414 = .ok (.iinc 18 1, 3) := by decide +kernel
theorem dL_law_1417 : decode cL_law 1417 = .ok (.goto (-80), 3) := by decide +kernel
theorem dL_law_1420 : decode cL_law 1420 = .ok (.aload_n 0, 1) := by decide +kernel
theorem dL_law_1421 : decode cL_law 1421 = .ok (.bipush 15, 2) := by decide +kernel
theorem dL_law_1423 : decode cL_law 1423 = .ok (.invokestatic 9, 3) := by decide +kernel
theorem dL_law_1426 : decode cL_law 1426 = .ok (.bipush 61, 2) := by decide +kernel
theorem dL_law_1428 : decode cL_law 1428 = .ok (.invokestatic 15, 3) := by decide +kernel
theorem dL_law_1431 : decode cL_law 1431 = .ok (.istore 18, 2) := by decide +kernel
theorem dL_law_1433 : decode cL_law 1433 = .ok (.aload_n 1, 1) := by decide +kernel
theorem dL_law_1434 : decode cL_law 1434 = .ok (.iload 18, 2) := by decide +kernel
theorem dL_law_1436 : decode cL_law 1436 = .ok (.iconst 4, 1) := by decide +kernel
theorem dL_law_1437 : decode cL_law 1437 = .ok (.invokevirtual 108, 3) := by decide +kernel
theorem dL_law_1440 : decode cL_law 1440 = .ok (.istore 19, 2) := by decide +kernel
theorem dL_law_1442 : decode cL_law 1442 = .ok (.iconst 0, 1) := by decide +kernel
theorem dL_law_1443 : decode cL_law 1443 = .ok (.istore 20, 2) := by decide +kernel
theorem dL_law_1445 : decode cL_law 1445 = .ok (.iconst 0, 1) := by decide +kernel
theorem dL_law_1446 : decode cL_law 1446 = .ok (.istore 21, 2) := by decide +kernel
theorem dL_law_1448 : decode cL_law 1448 = .ok (.iconst 0, 1) := by decide +kernel
theorem dL_law_1449 : decode cL_law 1449 = .ok (.istore 22, 2) := by decide +kernel
theorem dL_law_1451 : decode cL_law 1451 = .ok (.iload 22, 2) := by decide +kernel
theorem dL_law_1453 : decode cL_law 1453 = .ok (.iload_n 3, 1) := by decide +kernel
theorem dL_law_1454 : decode cL_law 1454 = .ok (.if_icmp .ge 104, 3) := by decide +kernel
theorem dL_law_1457 : decode cL_law 1457 = .ok (.aload_n 1, 1) := by decide +kernel
theorem dL_law_1458 : decode cL_law 1458 = .ok (.iconst 4, 1) := by decide +kernel
theorem dL_law_1459 : decode cL_law 1459 = .ok (.iload 22, 2) := by decide +kernel
theorem dL_law_1461 : decode cL_law 1461 = .ok (.invokevirtual 87, 3) := by decide +kernel
theorem dL_law_1464 : decode cL_law 1464 = .ok (.iconst 1, 1) := by decide +kernel
theorem dL_law_1465 : decode cL_law 1465 = .ok (.if_icmp .ne 10, 3) := by decide +kernel
theorem dL_law_1468 : decode cL_law 1468 = .ok (.aload_n 1, 1) := by decide +kernel
theorem dL_law_1469 : decode cL_law 1469 = .ok (.invokevirtual 42, 3) := by decide +kernel
theorem dL_law_1472 : decode cL_law 1472 = .ok (.goto 4, 3) := by decide +kernel
theorem dL_law_1475 : decode cL_law 1475 = .ok (.iconst (-1), 1) := by decide +kernel
theorem dL_law_1476 : decode cL_law 1476 = .ok (.istore 23, 2) := by decide +kernel
theorem dL_law_1478 : decode cL_law 1478 = .ok (.iload 8, 2) := by decide +kernel
theorem dL_law_1480 : decode cL_law 1480 = .ok (.iload 9, 2) := by decide +kernel
theorem dL_law_1482 : decode cL_law 1482 = .ok (.ior, 1) := by decide +kernel
theorem dL_law_1483 : decode cL_law 1483 = .ok (.iload 22, 2) := by decide +kernel
theorem dL_law_1485 : decode cL_law 1485 = .ok (.ishr, 1) := by decide +kernel
theorem dL_law_1486 : decode cL_law 1486 = .ok (.iconst 1, 1) := by decide +kernel
theorem dL_law_1487 : decode cL_law 1487 = .ok (.iand, 1) := by decide +kernel
theorem dL_law_1488 : decode cL_law 1488 = .ok (.iconst 1, 1) := by decide +kernel
theorem dL_law_1489 : decode cL_law 1489 = .ok (.if_icmp .ne 7, 3) := by decide +kernel
theorem dL_law_1492 : decode cL_law 1492 = .ok (.iconst 0, 1) := by decide +kernel
theorem dL_law_1493 : decode cL_law 1493 = .ok (.goto 16, 3) := by decide +kernel
theorem dL_law_1496 : decode cL_law 1496 = .ok (.aload_n 1, 1) := by decide +kernel
theorem dL_law_1497 : decode cL_law 1497 = .ok (.iload 22, 2) := by decide +kernel
theorem dL_law_1499 : decode cL_law 1499 = .ok (.iconst 1, 1) := by decide +kernel
theorem dL_law_1500 : decode cL_law 1500 = .ok (.invokestatic 68, 3) := by decide +kernel
theorem dL_law_1503 : decode cL_law 1503 = .ok (.aload 11, 2) := by decide +kernel
theorem dL_law_1505 : decode cL_law 1505 = .ok (.iload 22, 2) := by decide +kernel
theorem dL_law_1507 : decode cL_law 1507 = .ok (.iaload, 1) := by decide +kernel
theorem dL_law_1508 : decode cL_law 1508 = .ok (.isub, 1) := by decide +kernel
theorem dL_law_1509 : decode cL_law 1509 = .ok (.istore 24, 2) := by decide +kernel
theorem dL_law_1511 : decode cL_law 1511 = .ok (.iload 24, 2) := by decide +kernel
theorem dL_law_1513 : decode cL_law 1513 = .ok (.ifCond .ge 7, 3) := by decide +kernel
theorem dL_law_1516 : decode cL_law 1516 = .ok (.iconst 0, 1) := by decide +kernel
theorem dL_law_1517 : decode cL_law 1517 = .ok (.goto 5, 3) := by decide +kernel
theorem dL_law_1520 : decode cL_law 1520 = .ok (.iload 24, 2) := by decide +kernel
theorem dL_law_1522 : decode cL_law 1522 = .ok (.istore 24, 2) := by decide +kernel
theorem dL_law_1524 : decode cL_law 1524 = .ok (.iload 20, 2) := by decide +kernel
theorem dL_law_1526 : decode cL_law 1526 = .ok (.iload 24, 2) := by decide +kernel
theorem dL_law_1528 : decode cL_law 1528 = .ok (.iadd, 1) := by decide +kernel
theorem dL_law_1529 : decode cL_law 1529 = .ok (.istore 20, 2) := by decide +kernel
theorem dL_law_1531 : decode cL_law 1531 = .ok (.iload 21, 2) := by decide +kernel
theorem dL_law_1533 : decode cL_law 1533 = .ok (.iload 23, 2) := by decide +kernel
theorem dL_law_1535 : decode cL_law 1535 = .ok (.iadd, 1) := by decide +kernel
theorem dL_law_1536 : decode cL_law 1536 = .ok (.istore 21, 2) := by decide +kernel
theorem dL_law_1538 : decode cL_law 1538 = .ok (.iload 23, 2) := by decide +kernel
theorem dL_law_1540 : decode cL_law 1540 = .ok (.ifCond .lt 10, 3) := by decide +kernel
theorem dL_law_1543 : decode cL_law 1543 = .ok (.iload 23, 2) := by decide +kernel
theorem dL_law_1545 : decode cL_law 1545 = .ok (.iload 24, 2) := by decide +kernel
theorem dL_law_1547 : decode cL_law 1547 = .ok (.if_icmp .le 5, 3) := by decide +kernel
theorem dL_law_1550 : decode cL_law 1550 = .ok (.iconst 0, 1) := by decide +kernel
theorem dL_law_1551 : decode cL_law 1551 = .ok (.ireturn, 1) := by decide +kernel
theorem dL_law_1552 : decode cL_law 1552 = .ok (.iinc 22 1, 3) := by decide +kernel
theorem dL_law_1555 : decode cL_law 1555 = .ok (.goto (-104), 3) := by decide +kernel
theorem dL_law_1558 : decode cL_law 1558 = .ok (.iload 19, 2) := by decide +kernel
theorem dL_law_1560 : decode cL_law 1560 = .ok (.ifCond .lt 25, 3) := by decide +kernel
theorem dL_law_1563 : decode cL_law 1563 = .ok (.iload 21, 2) := by decide +kernel
theorem dL_law_1565 : decode cL_law 1565 = .ok (.iload 19, 2) := by decide +kernel
theorem dL_law_1567 : decode cL_law 1567 = .ok (.iadd, 1) := by decide +kernel
theorem dL_law_1568 : decode cL_law 1568 = .ok (.iload 18, 2) := by decide +kernel
theorem dL_law_1570 : decode cL_law 1570 = .ok (.if_icmp .ne 15, 3) := by decide +kernel
theorem dL_law_1573 : decode cL_law 1573 = .ok (.iload 19, 2) := by decide +kernel
theorem dL_law_1575 : decode cL_law 1575 = .ok (.ifCond .le 12, 3) := by decide +kernel
theorem dL_law_1578 : decode cL_law 1578 = .ok (.iload 21, 2) := by decide +kernel
theorem dL_law_1580 : decode cL_law 1580 = .ok (.iload 20, 2) := by decide +kernel
theorem dL_law_1582 : decode cL_law 1582 = .ok (.if_icmp .eq 5, 3) := by decide +kernel
theorem dL_law_1585 : decode cL_law 1585 = .ok (.iconst 0, 1) := by decide +kernel
theorem dL_law_1586 : decode cL_law 1586 = .ok (.ireturn, 1) := by decide +kernel
theorem dL_law_1587 : decode cL_law 1587 = .ok (.aload_n 0, 1) := by decide +kernel
theorem dL_law_1588 : decode cL_law 1588 = .ok (.bipush 16, 2) := by decide +kernel
theorem dL_law_1590 : decode cL_law 1590 = .ok (.invokestatic 9, 3) := by decide +kernel
theorem dL_law_1593 : decode cL_law 1593 = .ok (.bipush 9, 2) := by decide +kernel
theorem dL_law_1595 : decode cL_law 1595 = .ok (.invokestatic 15, 3) := by decide +kernel
theorem dL_law_1598 : decode cL_law 1598 = .ok (.istore 22, 2) := by decide +kernel
theorem dL_law_1600 : decode cL_law 1600 = .ok (.aload_n 0, 1) := by decide +kernel
theorem dL_law_1601 : decode cL_law 1601 = .ok (.bipush 17, 2) := by decide +kernel
theorem dL_law_1603 : decode cL_law 1603 = .ok (.invokestatic 9, 3) := by decide +kernel
theorem dL_law_1606 : decode cL_law 1606 = .ok (.iload_n 3, 1) := by decide +kernel
theorem dL_law_1607 : decode cL_law 1607 = .ok (.invokestatic 15, 3) := by decide +kernel
theorem dL_law_1610 : decode cL_law 1610 = .ok (.istore 23, 2) := by decide +kernel
theorem dL_law_1612 : decode cL_law 1612 = .ok (.aload_n 1, 1) := by decide +kernel
theorem dL_law_1613 : decode cL_law 1613 = .ok (.iconst 3, 1) := by decide +kernel
theorem dL_law_1614 : decode cL_law 1614 = .ok (.iconst 2, 1) := by decide +kernel
theorem dL_law_1615 : decode cL_law 1615 = .ok (.iload 22, 2) := by decide +kernel
theorem dL_law_1617 : decode cL_law 1617 = .ok (.imul, 1) := by decide +kernel
theorem dL_law_1618 : decode cL_law 1618 = .ok (.invokevirtual 111, 3) := by decide +kernel
theorem dL_law_1621 : decode cL_law 1621 = .ok (.iconst 2, 1) := by decide +kernel
theorem dL_law_1622 : decode cL_law 1622 = .ok (.iload 22, 2) := by decide +kernel
theorem dL_law_1624 : decode cL_law 1624 = .ok (.imul, 1) := by decide +kernel
theorem dL_law_1625 : decode cL_law 1625 = .ok (.if_icmp .eq 5, 3) := by decide +kernel
theorem dL_law_1628 : decode cL_law 1628 = .ok (.iconst 0, 1) := by decide +kernel
theorem dL_law_1629 : decode cL_law 1629 = .ok (.ireturn, 1) := by decide +kernel
theorem dL_law_1630 : decode cL_law 1630 = .ok (.iconst 0, 1) := by decide +kernel
theorem dL_law_1631 : decode cL_law 1631 = .ok (.istore 24, 2) := by decide +kernel
theorem dL_law_1633 : decode cL_law 1633 = .ok (.iload 24, 2) := by decide +kernel
theorem dL_law_1635 : decode cL_law 1635 = .ok (.iload 22, 2) := by decide +kernel
theorem dL_law_1637 : decode cL_law 1637 = .ok (.if_icmp .ge 65, 3) := by decide +kernel
theorem dL_law_1640 : decode cL_law 1640 = .ok (.aload_n 0, 1) := by decide +kernel
theorem dL_law_1641 : decode cL_law 1641 = .ok (.bipush 18, 2) := by decide +kernel
theorem dL_law_1643 : decode cL_law 1643 = .ok (.iload 24, 2) := by decide +kernel
theorem dL_law_1645 : decode cL_law 1645 = .ok (.iadd, 1) := by decide +kernel
theorem dL_law_1646 : decode cL_law 1646 = .ok (.invokestatic 9, 3) := by decide +kernel
theorem dL_law_1649 : decode cL_law 1649 = .ok (.bipush 100, 2) := by decide +kernel
theorem dL_law_1651 : decode cL_law 1651 = .ok (.invokestatic 15, 3) := by decide +kernel
theorem dL_law_1654 : decode cL_law 1654 = .ok (.istore 25, 2) := by decide +kernel
theorem dL_law_1656 : decode cL_law 1656 = .ok (.aload_n 1, 1) := by decide +kernel
theorem dL_law_1657 : decode cL_law 1657 = .ok (.iconst 3, 1) := by decide +kernel
theorem dL_law_1658 : decode cL_law 1658 = .ok (.iconst 2, 1) := by decide +kernel
theorem dL_law_1659 : decode cL_law 1659 = .ok (.iload 24, 2) := by decide +kernel
theorem dL_law_1661 : decode cL_law 1661 = .ok (.imul, 1) := by decide +kernel
theorem dL_law_1662 : decode cL_law 1662 = .ok (.iload 25, 2) := by decide +kernel
theorem dL_law_1664 : decode cL_law 1664 = .ok (.invokevirtual 114, 3) := by decide +kernel
theorem dL_law_1667 : decode cL_law 1667 = .ok (.iconst 1, 1) := by decide +kernel
theorem dL_law_1668 : decode cL_law 1668 = .ok (.if_icmp .ne 26, 3) := by decide +kernel
theorem dL_law_1671 : decode cL_law 1671 = .ok (.aload_n 1, 1) := by decide +kernel
theorem dL_law_1672 : decode cL_law 1672 = .ok (.iconst 3, 1) := by decide +kernel
theorem dL_law_1673 : decode cL_law 1673 = .ok (.iconst 2, 1) := by decide +kernel
theorem dL_law_1674 : decode cL_law 1674 = .ok (.iload 24, 2) := by decide +kernel
theorem dL_law_1676 : decode cL_law 1676 = .ok (.imul, 1) := by decide +kernel
theorem dL_law_1677 : decode cL_law 1677 = .ok (.iconst 1, 1) := by decide +kernel
theorem dL_law_1678 : decode cL_law 1678 = .ok (.iadd, 1) := by decide +kernel
theorem dL_law_1679 : decode cL_law 1679 = .ok (.aload_n 1, 1) := by decide +kernel
theorem dL_law_1680 : decode cL_law 1680 = .ok (.iload 23, 2) := by decide +kernel
theorem dL_law_1682 : decode cL_law 1682 = .ok (.iload 25, 2) := by decide +kernel
theorem dL_law_1684 : decode cL_law 1684 = .ok (.invokevirtual 116, 3) := by decide +kernel
theorem dL_law_1687 : decode cL_law 1687 = .ok (.invokevirtual 114, 3) := by decide +kernel
theorem dL_law_1690 : decode cL_law 1690 = .ok (.iconst 1, 1) := by decide +kernel
theorem dL_law_1691 : decode cL_law 1691 = .ok (.if_icmp .eq 5, 3) := by decide +kernel
theorem dL_law_1694 : decode cL_law 1694 = .ok (.iconst 0, 1) := by decide +kernel
theorem dL_law_1695 : decode cL_law 1695 = .ok (.ireturn, 1) := by decide +kernel
theorem dL_law_1696 : decode cL_law 1696 = .ok (.iinc 24 1, 3) := by decide +kernel
theorem dL_law_1699 : decode cL_law 1699 = .ok (.goto (-66), 3) := by decide +kernel
theorem dL_law_1702 : decode cL_law 1702 = .ok (.aload_n 1, 1) := by decide +kernel
theorem dL_law_1703 : decode cL_law 1703 = .ok (.iconst 3, 1) := by decide +kernel
theorem dL_law_1704 : decode cL_law 1704 = .ok (.invokevirtual 119, 3) := by decide +kernel
theorem dL_law_1707 : decode cL_law 1707 = .ok (.istore 24, 2) := by decide +kernel
theorem dL_law_1709 : decode cL_law 1709 = .ok (.aload_n 1, 1) := by decide +kernel
theorem dL_law_1710 : decode cL_law 1710 = .ok (.iconst 3, 1) := by decide +kernel
theorem dL_law_1711 : decode cL_law 1711 = .ok (.invokevirtual 122, 3) := by decide +kernel
theorem dL_law_1714 : decode cL_law 1714 = .ok (.istore 25, 2) := by decide +kernel
theorem dL_law_1716 : decode cL_law 1716 = .ok (.aload_n 1, 1) := by decide +kernel
theorem dL_law_1717 : decode cL_law 1717 = .ok (.invokevirtual 42, 3) := by decide +kernel
theorem dL_law_1720 : decode cL_law 1720 = .ok (.istore 26, 2) := by decide +kernel
theorem dL_law_1722 : decode cL_law 1722 = .ok (.iload 24, 2) := by decide +kernel
theorem dL_law_1724 : decode cL_law 1724 = .ok (.aload_n 2, 1) := by decide +kernel
theorem dL_law_1725 : decode cL_law 1725 = .ok (.iconst 2, 1) := by decide +kernel
theorem dL_law_1726 : decode cL_law 1726 = .ok (.iload 23, 2) := by decide +kernel
theorem dL_law_1728 : decode cL_law 1728 = .ok (.iadd, 1) := by decide +kernel
theorem dL_law_1729 : decode cL_law 1729 = .ok (.iaload, 1) := by decide +kernel
theorem dL_law_1730 : decode cL_law 1730 = .ok (.ishr, 1) := by decide +kernel
theorem dL_law_1731 : decode cL_law 1731 = .ok (.iconst 1, 1) := by decide +kernel
theorem dL_law_1732 : decode cL_law 1732 = .ok (.iand, 1) := by decide +kernel
theorem dL_law_1733 : decode cL_law 1733 = .ok (.iconst 1, 1) := by decide +kernel
theorem dL_law_1734 : decode cL_law 1734 = .ok (.if_icmp .ne 45, 3) := by decide +kernel
theorem dL_law_1737 : decode cL_law 1737 = .ok (.aload_n 1, 1) := by decide +kernel
theorem dL_law_1738 : decode cL_law 1738 = .ok (.iconst 3, 1) := by decide +kernel
theorem dL_law_1739 : decode cL_law 1739 = .ok (.invokevirtual 125, 3) := by decide +kernel
theorem dL_law_1742 : decode cL_law 1742 = .ok (.iload 23, 2) := by decide +kernel
theorem dL_law_1744 : decode cL_law 1744 = .ok (.ishr, 1) := by decide +kernel
theorem dL_law_1745 : decode cL_law 1745 = .ok (.iconst 1, 1) := by decide +kernel
theorem dL_law_1746 : decode cL_law 1746 = .ok (.iand, 1) := by decide +kernel
theorem dL_law_1747 : decode cL_law 1747 = .ok (.iconst 1, 1) := by decide +kernel
theorem dL_law_1748 : decode cL_law 1748 = .ok (.if_icmp .ne 31, 3) := by decide +kernel
theorem dL_law_1751 : decode cL_law 1751 = .ok (.iload 25, 2) := by decide +kernel
theorem dL_law_1753 : decode cL_law 1753 = .ok (.ifCond .lt 26, 3) := by decide +kernel
theorem dL_law_1756 : decode cL_law 1756 = .ok (.iload 25, 2) := by decide +kernel
theorem dL_law_1758 : decode cL_law 1758 = .ok (.bipush 20, 2) := by decide +kernel
theorem dL_law_1760 : decode cL_law 1760 = .ok (.if_icmp .gt 19, 3) := by decide +kernel
theorem dL_law_1763 : decode cL_law 1763 = .ok (.iload 26, 2) := by decide +kernel
theorem dL_law_1765 : decode cL_law 1765 = .ok (.iconst 1, 1) := by decide +kernel
theorem dL_law_1766 : decode cL_law 1766 = .ok (.if_icmp .lt 13, 3) := by decide +kernel
theorem dL_law_1769 : decode cL_law 1769 = .ok (.iload 26, 2) := by decide +kernel
theorem dL_law_1771 : decode cL_law 1771 = .ok (.iload 24, 2) := by decide +kernel
theorem dL_law_1773 : decode cL_law 1773 = .ok (.invokestatic 102, 3) := by decide +kernel
theorem dL_law_1776 : decode cL_law 1776 = .ok (.if_icmp .le 5, 3) := by decide +kernel
theorem dL_law_1779 : decode cL_law 1779 = .ok (.iconst 0, 1) := by decide +kernel
theorem dL_law_1780 : decode cL_law 1780 = .ok (.ireturn, 1) := by decide +kernel
theorem dL_law_1781 : decode cL_law 1781 = .ok (.iload 9, 2) := by decide +kernel
theorem dL_law_1783 : decode cL_law 1783 = .ok (.bipush 42, 2) := by decide +kernel
theorem dL_law_1785 : decode cL_law 1785 = .ok (.iand, 1) := by decide +kernel
theorem dL_law_1786 : decode cL_law 1786 = .ok (.invokestatic 102, 3) := by decide +kernel
theorem dL_law_1789 : decode cL_law 1789 = .ok (.iload 9, 2) := by decide +kernel
theorem dL_law_1791 : decode cL_law 1791 = .ok (.bipush 21, 2) := by decide +kernel
theorem dL_law_1793 : decode cL_law 1793 = .ok (.iand, 1) := by decide +kernel
theorem dL_law_1794 : decode cL_law 1794 = .ok (.invokestatic 102, 3) := by decide +kernel
theorem dL_law_1797 : decode cL_law 1797 = .ok (.isub, 1) := by decide +kernel
theorem dL_law_1798 : decode cL_law 1798 = .ok (.istore 27, 2) := by decide +kernel
theorem dL_law_1800 : decode cL_law 1800 = .ok (.aload_n 1, 1) := by decide +kernel
theorem dL_law_1801 : decode cL_law 1801 = .ok (.iconst 0, 1) := by decide +kernel
theorem dL_law_1802 : decode cL_law 1802 = .ok (.invokevirtual 128, 3) := by decide +kernel
theorem dL_law_1805 : decode cL_law 1805 = .ok (.iconst 1, 1) := by decide +kernel
theorem dL_law_1806 : decode cL_law 1806 = .ok (.if_icmp .ne 43, 3) := by decide +kernel
theorem dL_law_1809 : decode cL_law 1809 = .ok (.aload_n 1, 1) := by decide +kernel
theorem dL_law_1810 : decode cL_law 1810 = .ok (.invokevirtual 42, 3) := by decide +kernel
theorem dL_law_1813 : decode cL_law 1813 = .ok (.iload 27, 2) := by decide +kernel
theorem dL_law_1815 : decode cL_law 1815 = .ok (.if_icmp .ne 34, 3) := by decide +kernel
theorem dL_law_1818 : decode cL_law 1818 = .ok (.aload_n 1, 1) := by decide +kernel
theorem dL_law_1819 : decode cL_law 1819 = .ok (.iconst 1, 1) := by decide +kernel
theorem dL_law_1820 : decode cL_law 1820 = .ok (.invokevirtual 128, 3) := by decide +kernel
theorem dL_law_1823 : decode cL_law 1823 = .ok (.iconst 1, 1) := by decide +kernel
theorem dL_law_1824 : decode cL_law 1824 = .ok (.if_icmp .ne 25, 3) := by decide +kernel
theorem dL_law_1827 : decode cL_law 1827 = .ok (.aload_n 1, 1) := by decide +kernel
theorem dL_law_1828 : decode cL_law 1828 = .ok (.invokevirtual 42, 3) := by decide +kernel
theorem dL_law_1831 : decode cL_law 1831 = .ok (.iload 27, 2) := by decide +kernel
theorem dL_law_1833 : decode cL_law 1833 = .ok (.iconst 1, 1) := by decide +kernel
theorem dL_law_1834 : decode cL_law 1834 = .ok (.iadd, 1) := by decide +kernel
theorem dL_law_1835 : decode cL_law 1835 = .ok (.if_icmp .gt 14, 3) := by decide +kernel
theorem dL_law_1838 : decode cL_law 1838 = .ok (.aload_n 1, 1) := by decide +kernel
theorem dL_law_1839 : decode cL_law 1839 = .ok (.invokevirtual 42, 3) := by decide +kernel
theorem dL_law_1842 : decode cL_law 1842 = .ok (.iload 27, 2) := by decide +kernel
theorem dL_law_1844 : decode cL_law 1844 = .ok (.iconst 1, 1) := by decide +kernel
theorem dL_law_1845 : decode cL_law 1845 = .ok (.isub, 1) := by decide +kernel
theorem dL_law_1846 : decode cL_law 1846 = .ok (.if_icmp .ge 5, 3) := by decide +kernel
theorem dL_law_1849 : decode cL_law 1849 = .ok (.iconst 0, 1) := by decide +kernel
theorem dL_law_1850 : decode cL_law 1850 = .ok (.ireturn, 1) := by decide +kernel
theorem dL_law_1851 : decode cL_law 1851 = .ok (.aload_n 0, 1) := by decide +kernel
theorem dL_law_1852 : decode cL_law 1852 = .ok (.bipush 27, 2) := by decide +kernel
theorem dL_law_1854 : decode cL_law 1854 = .ok (.invokestatic 9, 3) := by decide +kernel
theorem dL_law_1857 : decode cL_law 1857 = .ok (.bipush 13, 2) := by decide +kernel
theorem dL_law_1859 : decode cL_law 1859 = .ok (.invokestatic 15, 3) := by decide +kernel
theorem dL_law_1862 : decode cL_law 1862 = .ok (.istore 28, 2) := by decide +kernel
theorem dL_law_1864 : decode cL_law 1864 = .ok (.aload_n 1, 1) := by decide +kernel
theorem dL_law_1865 : decode cL_law 1865 = .ok (.iload 13, 2) := by decide +kernel
theorem dL_law_1867 : decode cL_law 1867 = .ok (.iconst 0, 1) := by decide +kernel
theorem dL_law_1868 : decode cL_law 1868 = .ok (.invokevirtual 131, 3) := by decide +kernel
theorem dL_law_1871 : decode cL_law 1871 = .ok (.iconst 1, 1) := by decide +kernel
theorem dL_law_1872 : decode cL_law 1872 = .ok (.if_icmp .ne 119, 3) := by decide +kernel
theorem dL_law_1875 : decode cL_law 1875 = .ok (.aload_n 1, 1) := by decide +kernel
theorem dL_law_1876 : decode cL_law 1876 = .ok (.invokevirtual 134, 3) := by decide +kernel
theorem dL_law_1879 : decode cL_law 1879 = .ok (.iload 10, 2) := by decide +kernel
theorem dL_law_1881 : decode cL_law 1881 = .ok (.iload 13, 2) := by decide +kernel
theorem dL_law_1883 : decode cL_law 1883 = .ok (.ishr, 1) := by decide +kernel
theorem dL_law_1884 : decode cL_law 1884 = .ok (.iconst 1, 1) := by decide +kernel
theorem dL_law_1885 : decode cL_law 1885 = .ok (.iand, 1) := by decide +kernel
theorem dL_law_1886 : decode cL_law 1886 = .ok (.i2l, 1) := by decide +kernel
theorem dL_law_1887 : decode cL_law 1887 = .ok (.lcmp, 1) := by decide +kernel
theorem dL_law_1888 : decode cL_law 1888 = .ok (.ifCond .ne 103, 3) := by decide +kernel
theorem dL_law_1891 : decode cL_law 1891 = .ok (.aload_n 1, 1) := by decide +kernel
theorem dL_law_1892 : decode cL_law 1892 = .ok (.invokevirtual 138, 3) := by decide +kernel
theorem dL_law_1895 : decode cL_law 1895 = .ok (.lconst 1, 1) := by decide +kernel
theorem dL_law_1896 : decode cL_law 1896 = .ok (.lcmp, 1) := by decide +kernel
theorem dL_law_1897 : decode cL_law 1897 = .ok (.ifCond .ne 94, 3) := by decide +kernel
theorem dL_law_1900 : decode cL_law 1900 = .ok (.aload_n 1, 1) := by decide +kernel
theorem dL_law_1901 : decode cL_law 1901 = .ok (.iload 13, 2) := by decide +kernel
theorem dL_law_1903 : decode cL_law 1903 = .ok (.iload 28, 2) := by decide +kernel
theorem dL_law_1905 : decode cL_law 1905 = .ok (.invokevirtual 131, 3) := by decide +kernel
theorem dL_law_1908 : decode cL_law 1908 = .ok (.iconst 1, 1) := by decide +kernel
theorem dL_law_1909 : decode cL_law 1909 = .ok (.if_icmp .ne 82, 3) := by decide +kernel
theorem dL_law_1912 : decode cL_law 1912 = .ok (.aload_n 1, 1) := by decide +kernel
theorem dL_law_1913 : decode cL_law 1913 = .ok (.invokevirtual 134, 3) := by decide +kernel
theorem dL_law_1916 : decode cL_law 1916 = .ok (.lconst 0, 1) := by decide +kernel
theorem dL_law_1917 : decode cL_law 1917 = .ok (.lcmp, 1) := by decide +kernel
theorem dL_law_1918 : decode cL_law 1918 = .ok (.ifCond .lt 73, 3) := by decide +kernel
theorem dL_law_1921 : decode cL_law 1921 = .ok (.aload_n 1, 1) := by decide +kernel
theorem dL_law_1922 : decode cL_law 1922 = .ok (.invokevirtual 134, 3) := by decide +kernel
theorem dL_law_1925 : decode cL_law 1925 = .ok (.aload_n 1, 1) := by decide +kernel
theorem dL_law_1926 : decode cL_law 1926 = .ok (.invokevirtual 138, 3) := by decide +kernel
theorem dL_law_1929 : decode cL_law 1929 = .ok (.lcmp, 1) := by decide +kernel
theorem dL_law_1930 : decode cL_law 1930 = .ok (.ifCond .gt 61, 3) := by decide +kernel
theorem dL_law_1933 : decode cL_law 1933 = .ok (.aload_n 1, 1) := by decide +kernel
theorem dL_law_1934 : decode cL_law 1934 = .ok (.iconst 0, 1) := by decide +kernel
theorem dL_law_1935 : decode cL_law 1935 = .ok (.invokevirtual 141, 3) := by decide +kernel
theorem dL_law_1938 : decode cL_law 1938 = .ok (.iconst 1, 1) := by decide +kernel
theorem dL_law_1939 : decode cL_law 1939 = .ok (.if_icmp .ne 52, 3) := by decide +kernel
theorem dL_law_1942 : decode cL_law 1942 = .ok (.aload_n 1, 1) := by decide +kernel
theorem dL_law_1943 : decode cL_law 1943 = .ok (.invokevirtual 134, 3) := by decide +kernel
theorem dL_law_1946 : decode cL_law 1946 = .ok (.iload 10, 2) := by decide +kernel
theorem dL_law_1948 : decode cL_law 1948 = .ok (.invokestatic 102, 3) := by decide +kernel
theorem dL_law_1951 : decode cL_law 1951 = .ok (.i2l, 1) := by decide +kernel
theorem dL_law_1952 : decode cL_law 1952 = .ok (.lcmp, 1) := by decide +kernel
theorem dL_law_1953 : decode cL_law 1953 = .ok (.ifCond .ne 38, 3) := by decide +kernel
theorem dL_law_1956 : decode cL_law 1956 = .ok (.aload_n 1, 1) := by decide +kernel
theorem dL_law_1957 : decode cL_law 1957 = .ok (.iload 28, 2) := by decide +kernel
theorem dL_law_1959 : decode cL_law 1959 = .ok (.invokevirtual 141, 3) := by decide +kernel
theorem dL_law_1962 : decode cL_law 1962 = .ok (.iconst 1, 1) := by decide +kernel
theorem dL_law_1963 : decode cL_law 1963 = .ok (.if_icmp .ne 28, 3) := by decide +kernel
theorem dL_law_1966 : decode cL_law 1966 = .ok (.aload_n 1, 1) := by decide +kernel
theorem dL_law_1967 : decode cL_law 1967 = .ok (.invokevirtual 134, 3) := by decide +kernel
theorem dL_law_1970 : decode cL_law 1970 = .ok (.lconst 0, 1) := by decide +kernel
theorem dL_law_1971 : decode cL_law 1971 = .ok (.lcmp, 1) := by decide +kernel
theorem dL_law_1972 : decode cL_law 1972 = .ok (.ifCond .lt 19, 3) := by decide +kernel
theorem dL_law_1975 : decode cL_law 1975 = .ok (.aload_n 1, 1) := by decide +kernel
theorem dL_law_1976 : decode cL_law 1976 = .ok (.invokevirtual 134, 3) := by decide +kernel
theorem dL_law_1979 : decode cL_law 1979 = .ok (.iload 4, 2) := by decide +kernel
theorem dL_law_1981 : decode cL_law 1981 = .ok (.i2l, 1) := by decide +kernel
theorem dL_law_1982 : decode cL_law 1982 = .ok (.aload_n 1, 1) := by decide +kernel
theorem dL_law_1983 : decode cL_law 1983 = .ok (.invokevirtual 138, 3) := by decide +kernel
theorem dL_law_1986 : decode cL_law 1986 = .ok (.lmul, 1) := by decide +kernel
theorem dL_law_1987 : decode cL_law 1987 = .ok (.lcmp, 1) := by decide +kernel
theorem dL_law_1988 : decode cL_law 1988 = .ok (.ifCond .le 5, 3) := by decide +kernel
theorem dL_law_1991 : decode cL_law 1991 = .ok (.iconst 0, 1) := by decide +kernel
theorem dL_law_1992 : decode cL_law 1992 = .ok (.ireturn, 1) := by decide +kernel
theorem dL_law_1993 : decode cL_law 1993 = .ok (.aload_n 0, 1) := by decide +kernel
theorem dL_law_1994 : decode cL_law 1994 = .ok (.bipush 28, 2) := by decide +kernel
theorem dL_law_1996 : decode cL_law 1996 = .ok (.invokestatic 9, 3) := by decide +kernel
theorem dL_law_1999 : decode cL_law 1999 = .ok (.bipush 15, 2) := by decide +kernel
theorem dL_law_2001 : decode cL_law 2001 = .ok (.invokestatic 15, 3) := by decide +kernel
theorem dL_law_2004 : decode cL_law 2004 = .ok (.istore 29, 2) := by decide +kernel
theorem dL_law_2006 : decode cL_law 2006 = .ok (.bipush 16, 2) := by decide +kernel
theorem dL_law_2008 : decode cL_law 2008 = .ok (.newarray .int, 2) := by decide +kernel
theorem dL_law_2010 : decode cL_law 2010 = .ok (.astore 30, 2) := by decide +kernel
theorem dL_law_2012 : decode cL_law 2012 = .ok (.bipush 16, 2) := by decide +kernel
theorem dL_law_2014 : decode cL_law 2014 = .ok (.newarray .int, 2) := by decide +kernel
theorem dL_law_2016 : decode cL_law 2016 = .ok (.astore 31, 2) := by decide +kernel
theorem dL_law_2018 : decode cL_law 2018 = .ok (.iconst 0, 1) := by decide +kernel
theorem dL_law_2019 : decode cL_law 2019 = .ok (.istore 32, 2) := by decide +kernel
theorem dL_law_2021 : decode cL_law 2021 = .ok (.aload 30, 2) := by decide +kernel
theorem dL_law_2023 : decode cL_law 2023 = .ok (.iconst 0, 1) := by decide +kernel
theorem dL_law_2024 : decode cL_law 2024 = .ok (.iload 7, 2) := by decide +kernel
theorem dL_law_2026 : decode cL_law 2026 = .ok (.iastore, 1) := by decide +kernel
theorem dL_law_2027 : decode cL_law 2027 = .ok (.aload 31, 2) := by decide +kernel
theorem dL_law_2029 : decode cL_law 2029 = .ok (.iconst 0, 1) := by decide +kernel
theorem dL_law_2030 : decode cL_law 2030 = .ok (.iload 9, 2) := by decide +kernel
theorem dL_law_2032 : decode cL_law 2032 = .ok (.iastore, 1) := by decide +kernel
theorem dL_law_2033 : decode cL_law 2033 = .ok (.iconst 0, 1) := by decide +kernel
theorem dL_law_2034 : decode cL_law 2034 = .ok (.istore 33, 2) := by decide +kernel
theorem dL_law_2036 : decode cL_law 2036 = .ok (.iload 33, 2) := by decide +kernel
theorem dL_law_2038 : decode cL_law 2038 = .ok (.iload 29, 2) := by decide +kernel
theorem dL_law_2040 : decode cL_law 2040 = .ok (.if_icmp .ge 202, 3) := by decide +kernel
theorem dL_law_2043 : decode cL_law 2043 = .ok (.aload_n 0, 1) := by decide +kernel
theorem dL_law_2044 : decode cL_law 2044 = .ok (.bipush 29, 2) := by decide +kernel
theorem dL_law_2046 : decode cL_law 2046 = .ok (.iload 33, 2) := by decide +kernel
theorem dL_law_2048 : decode cL_law 2048 = .ok (.iadd, 1) := by decide +kernel
theorem dL_law_2049 : decode cL_law 2049 = .ok (.invokestatic 9, 3) := by decide +kernel
theorem dL_law_2052 : decode cL_law 2052 = .ok (.istore 34, 2) := by decide +kernel
theorem dL_law_2054 : decode cL_law 2054 = .ok (.iload 34, 2) := by decide +kernel
theorem dL_law_2056 : decode cL_law 2056 = .ok (.bipush 6, 2) := by decide +kernel
theorem dL_law_2058 : decode cL_law 2058 = .ok (.invokestatic 15, 3) := by decide +kernel
theorem dL_law_2061 : decode cL_law 2061 = .ok (.istore 35, 2) := by decide +kernel
theorem dL_law_2063 : decode cL_law 2063 = .ok (.iload 34, 2) := by decide +kernel
theorem dL_law_2065 : decode cL_law 2065 = .ok (.iconst 3, 1) := by decide +kernel
theorem dL_law_2066 : decode cL_law 2066 = .ok (.ishr, 1) := by decide +kernel
theorem dL_law_2067 : decode cL_law 2067 = .ok (.iload_n 3, 1) := by decide +kernel
theorem dL_law_2068 : decode cL_law 2068 = .ok (.invokestatic 15, 3) := by decide +kernel
theorem dL_law_2071 : decode cL_law 2071 = .ok (.istore 36, 2) := by decide +kernel
theorem dL_law_2073 : decode cL_law 2073 = .ok (.iload 35, 2) := by decide +kernel
theorem dL_law_2075 : decode cL_law 2075 = .ok (.ifCond .ne 12, 3) := by decide +kernel
theorem dL_law_2078 : decode cL_law 2078 = .ok (.aload_n 1, 1) := by decide +kernel
theorem dL_law_2079 : decode cL_law 2079 = .ok (.iload 36, 2) := by decide +kernel
theorem dL_law_2081 : decode cL_law 2081 = .ok (.invokevirtual 90, 3) := by decide +kernel
theorem dL_law_2084 : decode cL_law 2084 = .ok (.goto 85, 3) := by decide +kernel
theorem dL_law_2087 : decode cL_law 2087 = .ok (.iload 35, 2) := by decide +kernel
theorem dL_law_2089 : decode cL_law 2089 = .ok (.iconst 1, 1) := by decide +kernel
theorem dL_law_2090 : decode cL_law 2090 = .ok (.if_icmp .ne 12, 3) := by decide +kernel
theorem dL_law_2093 : decode cL_law 2093 = .ok (.aload_n 1, 1) := by decide +kernel
theorem dL_law_2094 : decode cL_law 2094 = .ok (.iload 36, 2) := by decide +kernel
theorem dL_law_2096 : decode cL_law 2096 = .ok (.invokevirtual 144, 3) := by decide +kernel
theorem dL_law_2099 : decode cL_law 2099 = .ok (.goto 70, 3) := by decide +kernel
theorem dL_law_2102 : decode cL_law 2102 = .ok (.iload 35, 2) := by decide +kernel
theorem dL_law_2104 : decode cL_law 2104 = .ok (.iconst 2, 1) := by decide +kernel
theorem dL_law_2105 : decode cL_law 2105 = .ok (.if_icmp .ne 12, 3) := by decide +kernel
theorem dL_law_2108 : decode cL_law 2108 = .ok (.aload_n 1, 1) := by decide +kernel
theorem dL_law_2109 : decode cL_law 2109 = .ok (.iload 36, 2) := by decide +kernel
theorem dL_law_2111 : decode cL_law 2111 = .ok (.invokevirtual 105, 3) := by decide +kernel
theorem dL_law_2114 : decode cL_law 2114 = .ok (.goto 55, 3) := by decide +kernel
theorem dL_law_2117 : decode cL_law 2117 = .ok (.iload 35, 2) := by decide +kernel
theorem dL_law_2119 : decode cL_law 2119 = .ok (.iconst 3, 1) := by decide +kernel
theorem dL_law_2120 : decode cL_law 2120 = .ok (.if_icmp .ne 12, 3) := by decide +kernel
theorem dL_law_2123 : decode cL_law 2123 = .ok (.aload_n 1, 1) := by decide +kernel
theorem dL_law_2124 : decode cL_law 2124 = .ok (.iload 36, 2) := by decide +kernel
theorem dL_law_2126 : decode cL_law 2126 = .ok (.invokevirtual 147, 3) := by decide +kernel
theorem dL_law_2129 : decode cL_law 2129 = .ok (.goto 40, 3) := by decide +kernel
theorem dL_law_2132 : decode cL_law 2132 = .ok (.iload 35, 2) := by decide +kernel
theorem dL_law_2134 : decode cL_law 2134 = .ok (.iconst 4, 1) := by decide +kernel
theorem dL_law_2135 : decode cL_law 2135 = .ok (.if_icmp .ne 17, 3) := by decide +kernel
theorem dL_law_2138 : decode cL_law 2138 = .ok (.aload_n 1, 1) := by decide +kernel
theorem dL_law_2139 : decode cL_law 2139 = .ok (.iload 34, 2) := by decide +kernel
theorem dL_law_2141 : decode cL_law 2141 = .ok (.bipush 6, 2) := by decide +kernel
theorem dL_law_2143 : decode cL_law 2143 = .ok (.ishr, 1) := by decide +kernel
theorem dL_law_2144 : decode cL_law 2144 = .ok (.iconst 1, 1) := by decide +kernel
theorem dL_law_2145 : decode cL_law 2145 = .ok (.iand, 1) := by decide +kernel
theorem dL_law_2146 : decode cL_law 2146 = .ok (.invokevirtual 150, 3) := by decide +kernel
theorem dL_law_2149 : decode cL_law 2149 = .ok (.goto 20, 3) := by decide +kernel
theorem dL_law_2152 : decode cL_law 2152 = .ok (.aload_n 1, 1) := by decide +kernel
theorem dL_law_2153 : decode cL_law 2153 = .ok (.iload 36, 2) := by decide +kernel
theorem dL_law_2155 : decode cL_law 2155 = .ok (.iconst 1, 1) := by decide +kernel
theorem dL_law_2156 : decode cL_law 2156 = .ok (.iload 34, 2) := by decide +kernel
theorem dL_law_2158 : decode cL_law 2158 = .ok (.bipush 6, 2) := by decide +kernel
theorem dL_law_2160 : decode cL_law 2160 = .ok (.ishr, 1) := by decide +kernel
theorem dL_law_2161 : decode cL_law 2161 = .ok (.iconst 3, 1) := by decide +kernel
theorem dL_law_2162 : decode cL_law 2162 = .ok (.invokestatic 15, 3) := by decide +kernel
theorem dL_law_2165 : decode cL_law 2165 = .ok (.iadd, 1) := by decide +kernel
theorem dL_law_2166 : decode cL_law 2166 = .ok (.invokevirtual 75, 3) := by decide +kernel
theorem dL_law_2169 : decode cL_law 2169 = .ok (.istore 37, 2) := by decide +kernel
theorem dL_law_2171 : decode cL_law 2171 = .ok (.iload 37, 2) := by decide +kernel
theorem dL_law_2173 : decode cL_law 2173 = .ok (.bipush (-4), 2) := by decide +kernel
theorem dL_law_2175 : decode cL_law 2175 = .ok (.if_icmp .eq 27, 3) := by decide +kernel
theorem dL_law_2178 : decode cL_law 2178 = .ok (.iinc 32 1, 3) := by decide +kernel
theorem dL_law_2181 : decode cL_law 2181 = .ok (.aload 30, 2) := by decide +kernel
theorem dL_law_2183 : decode cL_law 2183 = .ok (.iload 32, 2) := by decide +kernel
theorem dL_law_2185 : decode cL_law 2185 = .ok (.aload_n 1, 1) := by decide +kernel
theorem dL_law_2186 : decode cL_law 2186 = .ok (.iconst 4, 1) := by decide +kernel
theorem dL_law_2187 : decode cL_law 2187 = .ok (.invokevirtual 62, 3) := by decide +kernel
theorem dL_law_2190 : decode cL_law 2190 = .ok (.iastore, 1) := by decide +kernel
theorem dL_law_2191 : decode cL_law 2191 = .ok (.aload 31, 2) := by decide +kernel
theorem dL_law_2193 : decode cL_law 2193 = .ok (.iload 32, 2) := by decide +kernel
theorem dL_law_2195 : decode cL_law 2195 = .ok (.aload_n 1, 1) := by decide +kernel
theorem dL_law_2196 : decode cL_law 2196 = .ok (.bipush 6, 2) := by decide +kernel
theorem dL_law_2198 : decode cL_law 2198 = .ok (.invokevirtual 62, 3) := by decide +kernel
theorem dL_law_2201 : decode cL_law 2201 = .ok (.iastore, 1) := by decide +kernel
theorem dL_law_2202 : decode cL_law 2202 = .ok (.iload 37, 2) := by decide +kernel
theorem dL_law_2204 : decode cL_law 2204 = .ok (.bipush (-4), 2) := by decide +kernel
theorem dL_law_2206 : decode cL_law 2206 = .ok (.if_icmp .lt 28, 3) := by decide +kernel
theorem dL_law_2209 : decode cL_law 2209 = .ok (.iload 37, 2) := by decide +kernel
theorem dL_law_2211 : decode cL_law 2211 = .ok (.bipush (-4), 2) := by decide +kernel
theorem dL_law_2213 : decode cL_law 2213 = .ok (.if_icmp .le 8, 3) := by decide +kernel
theorem dL_law_2216 : decode cL_law 2216 = .ok (.iload 37, 2) := by decide +kernel
theorem dL_law_2218 : decode cL_law 2218 = .ok (.ifCond .lt 16, 3) := by decide +kernel
theorem dL_law_2221 : decode cL_law 2221 = .ok (.aload_n 1, 1) := by decide +kernel
theorem dL_law_2222 : decode cL_law 2222 = .ok (.iconst 2, 1) := by decide +kernel
theorem dL_law_2223 : decode cL_law 2223 = .ok (.invokevirtual 62, 3) := by decide +kernel
theorem dL_law_2226 : decode cL_law 2226 = .ok (.iload 5, 2) := by decide +kernel
theorem dL_law_2228 : decode cL_law 2228 = .ok (.iload 32, 2) := by decide +kernel
theorem dL_law_2230 : decode cL_law 2230 = .ok (.iadd, 1) := by decide +kernel
theorem dL_law_2231 : decode cL_law 2231 = .ok (.if_icmp .eq 5, 3) := by decide +kernel
theorem dL_law_2234 : decode cL_law 2234 = .ok (.iconst 0, 1) := by decide +kernel
theorem dL_law_2235 : decode cL_law 2235 = .ok (.ireturn, 1) := by decide +kernel
theorem dL_law_2236 : decode cL_law 2236 = .ok (.iinc 33 1, 3) := by decide +kernel
theorem dL_law_2239 : decode cL_law 2239 = .ok (.goto (-203), 3) := by decide +kernel
theorem dL_law_2242 : decode cL_law 2242 = .ok (.iload 32, 2) := by decide +kernel
theorem dL_law_2244 : decode cL_law 2244 = .ok (.istore 33, 2) := by decide +kernel
theorem dL_law_2246 : decode cL_law 2246 = .ok (.iload 33, 2) := by decide +kernel
theorem dL_law_2248 : decode cL_law 2248 = .ok (.ifCond .lt 62, 3) := by decide +kernel
theorem dL_law_2251 : decode cL_law 2251 = .ok (.aload_n 1, 1) := by decide +kernel
theorem dL_law_2252 : decode cL_law 2252 = .ok (.iload 5, 2) := by decide +kernel
theorem dL_law_2254 : decode cL_law 2254 = .ok (.iload 33, 2) := by decide +kernel
theorem dL_law_2256 : decode cL_law 2256 = .ok (.iadd, 1) := by decide +kernel
theorem dL_law_2257 : decode cL_law 2257 = .ok (.invokevirtual 81, 3) := by decide +kernel
theorem dL_law_2260 : decode cL_law 2260 = .ok (.iload 33, 2) := by decide +kernel
theorem dL_law_2262 : decode cL_law 2262 = .ok (.iload 32, 2) := by decide +kernel
theorem dL_law_2264 : decode cL_law 2264 = .ok (.if_icmp .ne 7, 3) := by decide +kernel
theorem dL_law_2267 : decode cL_law 2267 = .ok (.iconst 0, 1) := by decide +kernel
theorem dL_law_2268 : decode cL_law 2268 = .ok (.goto 4, 3) := by decide +kernel
theorem dL_law_2271 : decode cL_law 2271 = .ok (.iconst 1, 1) := by decide +kernel
theorem dL_law_2272 : decode cL_law 2272 = .ok (.if_icmp .ne 30, 3) := by decide +kernel
theorem dL_law_2275 : decode cL_law 2275 = .ok (.aload_n 1, 1) := by decide +kernel
theorem dL_law_2276 : decode cL_law 2276 = .ok (.iconst 4, 1) := by decide +kernel
theorem dL_law_2277 : decode cL_law 2277 = .ok (.invokevirtual 62, 3) := by decide +kernel
theorem dL_law_2280 : decode cL_law 2280 = .ok (.aload 30, 2) := by decide +kernel
theorem dL_law_2282 : decode cL_law 2282 = .ok (.iload 33, 2) := by decide +kernel
theorem dL_law_2284 : decode cL_law 2284 = .ok (.iaload, 1) := by decide +kernel
theorem dL_law_2285 : decode cL_law 2285 = .ok (.if_icmp .ne 17, 3) := by decide +kernel
theorem dL_law_2288 : decode cL_law 2288 = .ok (.aload_n 1, 1) := by decide +kernel
theorem dL_law_2289 : decode cL_law 2289 = .ok (.bipush 6, 2) := by decide +kernel
theorem dL_law_2291 : decode cL_law 2291 = .ok (.invokevirtual 62, 3) := by decide +kernel
theorem dL_law_2294 : decode cL_law 2294 = .ok (.aload 31, 2) := by decide +kernel
theorem dL_law_2296 : decode cL_law 2296 = .ok (.iload 33, 2) := by decide +kernel
theorem dL_law_2298 : decode cL_law 2298 = .ok (.iaload, 1) := by decide +kernel
theorem dL_law_2299 : decode cL_law 2299 = .ok (.if_icmp .eq 5, 3) := by decide +kernel
theorem dL_law_2302 : decode cL_law 2302 = .ok (.iconst 0, 1) := by decide +kernel
theorem dL_law_2303 : decode cL_law 2303 = .ok (.ireturn, 1) := by decide +kernel
theorem dL_law_2304 : decode cL_law 2304 = .ok (.iinc 33 (-1), 3) := by decide +kernel
theorem dL_law_2307 : decode cL_law 2307 = .ok (.goto (-61), 3) := by decide +kernel
theorem dL_law_2310 : decode cL_law 2310 = .ok (.aload_n 1, 1) := by decide +kernel
theorem dL_law_2311 : decode cL_law 2311 = .ok (.invokevirtual 153, 3) := by decide +kernel
theorem dL_law_2314 : decode cL_law 2314 = .ok (.lstore 33, 2) := by decide +kernel
theorem dL_law_2316 : decode cL_law 2316 = .ok (.aload_n 1, 1) := by decide +kernel
theorem dL_law_2317 : decode cL_law 2317 = .ok (.iconst 3, 1) := by decide +kernel
theorem dL_law_2318 : decode cL_law 2318 = .ok (.invokevirtual 62, 3) := by decide +kernel
theorem dL_law_2321 : decode cL_law 2321 = .ok (.iload 6, 2) := by decide +kernel
theorem dL_law_2323 : decode cL_law 2323 = .ok (.if_icmp .ne 85, 3) := by decide +kernel
theorem dL_law_2326 : decode cL_law 2326 = .ok (.aload_n 1, 1) := by decide +kernel
theorem dL_law_2327 : decode cL_law 2327 = .ok (.iconst 0, 1) := by decide +kernel
theorem dL_law_2328 : decode cL_law 2328 = .ok (.invokevirtual 81, 3) := by decide +kernel
theorem dL_law_2331 : decode cL_law 2331 = .ok (.iload 5, 2) := by decide +kernel
theorem dL_law_2333 : decode cL_law 2333 = .ok (.if_icmp .ne 75, 3) := by decide +kernel
theorem dL_law_2336 : decode cL_law 2336 = .ok (.aload_n 1, 1) := by decide +kernel
theorem dL_law_2337 : decode cL_law 2337 = .ok (.bipush 6, 2) := by decide +kernel
theorem dL_law_2339 : decode cL_law 2339 = .ok (.invokevirtual 62, 3) := by decide +kernel
theorem dL_law_2342 : decode cL_law 2342 = .ok (.ifCond .ne 66, 3) := by decide +kernel
theorem dL_law_2345 : decode cL_law 2345 = .ok (.aload_n 1, 1) := by decide +kernel
theorem dL_law_2346 : decode cL_law 2346 = .ok (.iconst 3, 1) := by decide +kernel
theorem dL_law_2347 : decode cL_law 2347 = .ok (.invokevirtual 62, 3) := by decide +kernel
theorem dL_law_2350 : decode cL_law 2350 = .ok (.aload_n 2, 1) := by decide +kernel
theorem dL_law_2351 : decode cL_law 2351 = .ok (.bipush 26, 2) := by decide +kernel
theorem dL_law_2353 : decode cL_law 2353 = .ok (.iaload, 1) := by decide +kernel
theorem dL_law_2354 : decode cL_law 2354 = .ok (.if_icmp .ne 54, 3) := by decide +kernel
theorem dL_law_2357 : decode cL_law 2357 = .ok (.aload_n 1, 1) := by decide +kernel
theorem dL_law_2358 : decode cL_law 2358 = .ok (.iconst 0, 1) := by decide +kernel
theorem dL_law_2359 : decode cL_law 2359 = .ok (.invokevirtual 93, 3) := by decide +kernel
theorem dL_law_2362 : decode cL_law 2362 = .ok (.iload 5, 2) := by decide +kernel
theorem dL_law_2364 : decode cL_law 2364 = .ok (.if_icmp .ne 44, 3) := by decide +kernel
theorem dL_law_2367 : decode cL_law 2367 = .ok (.aload_n 1, 1) := by decide +kernel
theorem dL_law_2368 : decode cL_law 2368 = .ok (.invokevirtual 153, 3) := by decide +kernel
theorem dL_law_2371 : decode cL_law 2371 = .ok (.lload 33, 2) := by decide +kernel
theorem dL_law_2373 : decode cL_law 2373 = .ok (.lcmp, 1) := by decide +kernel
theorem dL_law_2374 : decode cL_law 2374 = .ok (.ifCond .ne 34, 3) := by decide +kernel
theorem dL_law_2377 : decode cL_law 2377 = .ok (.aload_n 1, 1) := by decide +kernel
theorem dL_law_2378 : decode cL_law 2378 = .ok (.iconst 0, 1) := by decide +kernel
theorem dL_law_2379 : decode cL_law 2379 = .ok (.invokevirtual 36, 3) := by decide +kernel
theorem dL_law_2382 : decode cL_law 2382 = .ok (.iload_n 3, 1) := by decide +kernel
theorem dL_law_2383 : decode cL_law 2383 = .ok (.if_icmp .ne 25, 3) := by decide +kernel
theorem dL_law_2386 : decode cL_law 2386 = .ok (.aload_n 1, 1) := by decide +kernel
theorem dL_law_2387 : decode cL_law 2387 = .ok (.iconst 0, 1) := by decide +kernel
theorem dL_law_2388 : decode cL_law 2388 = .ok (.invokevirtual 93, 3) := by decide +kernel
theorem dL_law_2391 : decode cL_law 2391 = .ok (.bipush (-3), 2) := by decide +kernel
theorem dL_law_2393 : decode cL_law 2393 = .ok (.if_icmp .ne 15, 3) := by decide +kernel
theorem dL_law_2396 : decode cL_law 2396 = .ok (.aload_n 1, 1) := by decide +kernel
theorem dL_law_2397 : decode cL_law 2397 = .ok (.iconst 2, 1) := by decide +kernel
theorem dL_law_2398 : decode cL_law 2398 = .ok (.invokevirtual 62, 3) := by decide +kernel
theorem dL_law_2401 : decode cL_law 2401 = .ok (.ifCond .ne 7, 3) := by decide +kernel
theorem dL_law_2404 : decode cL_law 2404 = .ok (.iconst 1, 1) := by decide +kernel
theorem dL_law_2405 : decode cL_law 2405 = .ok (.goto 4, 3) := by decide +kernel
theorem dL_law_2408 : decode cL_law 2408 = .ok (.iconst 0, 1) := by decide +kernel
theorem dL_law_2409 : decode cL_law 2409 = .ok (.ireturn, 1) := by decide +kernel
end
