-- ===== PART A: goes FIRST, ahead of the names: the tables' words, and 'selects' of the private methods out of them =====
/-- a private method of a class that the tables say can be made, by its rows of tables_1 -/
def lw_okq (q : MethodName × Nat) : Prop := (q.1.cls ≠ "java/lang/invoke/MethodHandle" ∧ q.1.cls ≠ "java/lang/invoke/VarHandle") ∧ Cond.instantiable q.1.cls q.2 ∈ tables_1 ∧ Cond.privateMethod q.1 ∈ tables_1 ∧ Cond.instanceMethod q.1 ∈ tables_1
theorem lw_p0 : lw_okq (⟨"PrintedByFrost", "shelfAt", "(I)LPrintedByFrost$Shelf;"⟩, 9) := ⟨⟨by decide +kernel, by decide +kernel⟩, List.mem_of_getElem? (i := 15) (by decide +kernel), List.mem_of_getElem? (i := 242) (by decide +kernel), List.mem_of_getElem? (i := 243) (by decide +kernel)⟩
theorem lw_p1 : lw_okq (⟨"PrintedByFrost", "refuse", "(I)I"⟩, 9) := ⟨⟨by decide +kernel, by decide +kernel⟩, List.mem_of_getElem? (i := 15) (by decide +kernel), List.mem_of_getElem? (i := 246) (by decide +kernel), List.mem_of_getElem? (i := 247) (by decide +kernel)⟩
theorem lw_p2 : lw_okq (⟨"PrintedByFrost$Shelf", "lowestBits", "(J)J"⟩, 5) := ⟨⟨by decide +kernel, by decide +kernel⟩, List.mem_of_getElem? (i := 145) (by decide +kernel), List.mem_of_getElem? (i := 273) (by decide +kernel), List.mem_of_getElem? (i := 274) (by decide +kernel)⟩
theorem lw_p3 : lw_okq (⟨"PrintedByFrost$Reader", "itemStands", "(LPrintedByFrost$Shelf;LPrintedByFrost$Street;)Z"⟩, 3) := ⟨⟨by decide +kernel, by decide +kernel⟩, List.mem_of_getElem? (i := 171) (by decide +kernel), List.mem_of_getElem? (i := 425) (by decide +kernel), List.mem_of_getElem? (i := 426) (by decide +kernel)⟩
theorem lw_p4 : lw_okq (⟨"PrintedByFrost$Reader", "failAt", "(I)Z"⟩, 3) := ⟨⟨by decide +kernel, by decide +kernel⟩, List.mem_of_getElem? (i := 171) (by decide +kernel), List.mem_of_getElem? (i := 437) (by decide +kernel), List.mem_of_getElem? (i := 438) (by decide +kernel)⟩
theorem lw_p5 : lw_okq (⟨"PrintedByFrost$Reader", "lettersStand", "(LPrintedByFrost$Shelf;Ljava/lang/String;)Z"⟩, 3) := ⟨⟨by decide +kernel, by decide +kernel⟩, List.mem_of_getElem? (i := 171) (by decide +kernel), List.mem_of_getElem? (i := 450) (by decide +kernel), List.mem_of_getElem? (i := 451) (by decide +kernel)⟩
theorem lw_p6 : lw_okq (⟨"PrintedByFrost$Reader", "signStands", "(LPrintedByFrost$Shelf;I)Z"⟩, 3) := ⟨⟨by decide +kernel, by decide +kernel⟩, List.mem_of_getElem? (i := 171) (by decide +kernel), List.mem_of_getElem? (i := 502) (by decide +kernel), List.mem_of_getElem? (i := 503) (by decide +kernel)⟩
theorem lw_p7 : lw_okq (⟨"PrintedByFrost$Reader", "numberStands", "(LPrintedByFrost$Shelf;II)Z"⟩, 3) := ⟨⟨by decide +kernel, by decide +kernel⟩, List.mem_of_getElem? (i := 171) (by decide +kernel), List.mem_of_getElem? (i := 518) (by decide +kernel), List.mem_of_getElem? (i := 519) (by decide +kernel)⟩
theorem lw_p8 : lw_okq (⟨"PrintedByFrost$Reader", "isDigitAt", "(LPrintedByFrost$Shelf;)Z"⟩, 3) := ⟨⟨by decide +kernel, by decide +kernel⟩, List.mem_of_getElem? (i := 171) (by decide +kernel), List.mem_of_getElem? (i := 522) (by decide +kernel), List.mem_of_getElem? (i := 523) (by decide +kernel)⟩
theorem lw_p9 : lw_okq (⟨"PrintedByFrost$Reader", "tell", "(ILPrintedByFrost$Street;)V"⟩, 3) := ⟨⟨by decide +kernel, by decide +kernel⟩, List.mem_of_getElem? (i := 171) (by decide +kernel), List.mem_of_getElem? (i := 526) (by decide +kernel), List.mem_of_getElem? (i := 527) (by decide +kernel)⟩
theorem lw_p10 : lw_okq (⟨"PrintedByFrost$Thought", "shapeOnGlass", "(III)I"⟩, 7) := ⟨⟨by decide +kernel, by decide +kernel⟩, List.mem_of_getElem? (i := 114) (by decide +kernel), List.mem_of_getElem? (i := 561) (by decide +kernel), List.mem_of_getElem? (i := 562) (by decide +kernel)⟩
theorem lw_p11 : lw_okq (⟨"PrintedByFrost$Pane", "freshIce", "(IIII)I"⟩, 6) := ⟨⟨by decide +kernel, by decide +kernel⟩, List.mem_of_getElem? (i := 30) (by decide +kernel), List.mem_of_getElem? (i := 582) (by decide +kernel), List.mem_of_getElem? (i := 583) (by decide +kernel)⟩
theorem lw_p12 : lw_okq (⟨"PrintedByFrost", "refuseNobody", "()I"⟩, 9) := ⟨⟨by decide +kernel, by decide +kernel⟩, List.mem_of_getElem? (i := 15) (by decide +kernel), List.mem_of_getElem? (i := 623) (by decide +kernel), List.mem_of_getElem? (i := 624) (by decide +kernel)⟩
theorem lw_p13 : lw_okq (⟨"PrintedByFrost", "refuseWrong", "()I"⟩, 9) := ⟨⟨by decide +kernel, by decide +kernel⟩, List.mem_of_getElem? (i := 15) (by decide +kernel), List.mem_of_getElem? (i := 627) (by decide +kernel), List.mem_of_getElem? (i := 628) (by decide +kernel)⟩
theorem lw_p14 : lw_okq (⟨"PrintedByFrost$Thought", "readAllHours", "(LPrintedByFrost$Pane;I)V"⟩, 7) := ⟨⟨by decide +kernel, by decide +kernel⟩, List.mem_of_getElem? (i := 114) (by decide +kernel), List.mem_of_getElem? (i := 645) (by decide +kernel), List.mem_of_getElem? (i := 646) (by decide +kernel)⟩
theorem lw_p15 : lw_okq (⟨"PrintedByFrost$Thought", "lettersAmongReadings", "()I"⟩, 7) := ⟨⟨by decide +kernel, by decide +kernel⟩, List.mem_of_getElem? (i := 114) (by decide +kernel), List.mem_of_getElem? (i := 661) (by decide +kernel), List.mem_of_getElem? (i := 662) (by decide +kernel)⟩
def lw_privs_1 : List (MethodName × Nat) := [(⟨"PrintedByFrost", "shelfAt", "(I)LPrintedByFrost$Shelf;"⟩, 9), (⟨"PrintedByFrost", "refuse", "(I)I"⟩, 9), (⟨"PrintedByFrost$Shelf", "lowestBits", "(J)J"⟩, 5), (⟨"PrintedByFrost$Reader", "itemStands", "(LPrintedByFrost$Shelf;LPrintedByFrost$Street;)Z"⟩, 3), (⟨"PrintedByFrost$Reader", "failAt", "(I)Z"⟩, 3), (⟨"PrintedByFrost$Reader", "lettersStand", "(LPrintedByFrost$Shelf;Ljava/lang/String;)Z"⟩, 3), (⟨"PrintedByFrost$Reader", "signStands", "(LPrintedByFrost$Shelf;I)Z"⟩, 3), (⟨"PrintedByFrost$Reader", "numberStands", "(LPrintedByFrost$Shelf;II)Z"⟩, 3), (⟨"PrintedByFrost$Reader", "isDigitAt", "(LPrintedByFrost$Shelf;)Z"⟩, 3), (⟨"PrintedByFrost$Reader", "tell", "(ILPrintedByFrost$Street;)V"⟩, 3), (⟨"PrintedByFrost$Thought", "shapeOnGlass", "(III)I"⟩, 7), (⟨"PrintedByFrost$Pane", "freshIce", "(IIII)I"⟩, 6), (⟨"PrintedByFrost", "refuseNobody", "()I"⟩, 9), (⟨"PrintedByFrost", "refuseWrong", "()I"⟩, 9), (⟨"PrintedByFrost$Thought", "readAllHours", "(LPrintedByFrost$Pane;I)V"⟩, 7), (⟨"PrintedByFrost$Thought", "lettersAmongReadings", "()I"⟩, 7)]
theorem lw_r1 : ∀ q ∈ lw_privs_1, lw_okq q := List.forall_mem_cons.mpr ⟨lw_p0, List.forall_mem_cons.mpr ⟨lw_p1, List.forall_mem_cons.mpr ⟨lw_p2, List.forall_mem_cons.mpr ⟨lw_p3, List.forall_mem_cons.mpr ⟨lw_p4, List.forall_mem_cons.mpr ⟨lw_p5, List.forall_mem_cons.mpr ⟨lw_p6, List.forall_mem_cons.mpr ⟨lw_p7, List.forall_mem_cons.mpr ⟨lw_p8, List.forall_mem_cons.mpr ⟨lw_p9, List.forall_mem_cons.mpr ⟨lw_p10, List.forall_mem_cons.mpr ⟨lw_p11, List.forall_mem_cons.mpr ⟨lw_p12, List.forall_mem_cons.mpr ⟨lw_p13, List.forall_mem_cons.mpr ⟨lw_p14, List.forall_mem_cons.mpr ⟨lw_p15, fun _ h => absurd h List.not_mem_nil⟩⟩⟩⟩⟩⟩⟩⟩⟩⟩⟩⟩⟩⟩⟩⟩
theorem lw_p16 : lw_okq (⟨"PrintedByFrost$Street", "isReadRight", "(LPrintedByFrost$Pane;)Z"⟩, 10) := ⟨⟨by decide +kernel, by decide +kernel⟩, List.mem_of_getElem? (i := 23) (by decide +kernel), List.mem_of_getElem? (i := 683) (by decide +kernel), List.mem_of_getElem? (i := 684) (by decide +kernel)⟩
theorem lw_p17 : lw_okq (⟨"PrintedByFrost$Street", "drawBelow", "(I)I"⟩, 10) := ⟨⟨by decide +kernel, by decide +kernel⟩, List.mem_of_getElem? (i := 23) (by decide +kernel), List.mem_of_getElem? (i := 726) (by decide +kernel), List.mem_of_getElem? (i := 727) (by decide +kernel)⟩
theorem lw_p18 : lw_okq (⟨"PrintedByFrost", "refusalsOf", "(I)I"⟩, 9) := ⟨⟨by decide +kernel, by decide +kernel⟩, List.mem_of_getElem? (i := 15) (by decide +kernel), List.mem_of_getElem? (i := 762) (by decide +kernel), List.mem_of_getElem? (i := 763) (by decide +kernel)⟩
theorem lw_p19 : lw_okq (⟨"PrintedByFrost$Street", "fewestUnlike", "(II)I"⟩, 10) := ⟨⟨by decide +kernel, by decide +kernel⟩, List.mem_of_getElem? (i := 23) (by decide +kernel), List.mem_of_getElem? (i := 801) (by decide +kernel), List.mem_of_getElem? (i := 802) (by decide +kernel)⟩
theorem lw_p20 : lw_okq (⟨"PrintedByFrost$Thought", "worthOf", "(LPrintedByFrost$Pane;)I"⟩, 7) := ⟨⟨by decide +kernel, by decide +kernel⟩, List.mem_of_getElem? (i := 114) (by decide +kernel), List.mem_of_getElem? (i := 868) (by decide +kernel), List.mem_of_getElem? (i := 869) (by decide +kernel)⟩
theorem lw_p21 : lw_okq (⟨"PrintedByFrost$Thought", "takeDearest", "()I"⟩, 7) := ⟨⟨by decide +kernel, by decide +kernel⟩, List.mem_of_getElem? (i := 114) (by decide +kernel), List.mem_of_getElem? (i := 872) (by decide +kernel), List.mem_of_getElem? (i := 873) (by decide +kernel)⟩
def lw_privs_2 : List (MethodName × Nat) := [(⟨"PrintedByFrost$Street", "isReadRight", "(LPrintedByFrost$Pane;)Z"⟩, 10), (⟨"PrintedByFrost$Street", "drawBelow", "(I)I"⟩, 10), (⟨"PrintedByFrost", "refusalsOf", "(I)I"⟩, 9), (⟨"PrintedByFrost$Street", "fewestUnlike", "(II)I"⟩, 10), (⟨"PrintedByFrost$Thought", "worthOf", "(LPrintedByFrost$Pane;)I"⟩, 7), (⟨"PrintedByFrost$Thought", "takeDearest", "()I"⟩, 7)]
theorem lw_r2 : ∀ q ∈ lw_privs_2, lw_okq q := List.forall_mem_cons.mpr ⟨lw_p16, List.forall_mem_cons.mpr ⟨lw_p17, List.forall_mem_cons.mpr ⟨lw_p18, List.forall_mem_cons.mpr ⟨lw_p19, List.forall_mem_cons.mpr ⟨lw_p20, List.forall_mem_cons.mpr ⟨lw_p21, fun _ h => absurd h List.not_mem_nil⟩⟩⟩⟩⟩⟩
def lw_privs : List (MethodName × Nat) := lw_privs_1 ++ (lw_privs_2)
def lw_tbl : List Cond := k2_sels lw_privs ++ tables_1
theorem lw_privs_ok : ∀ q ∈ lw_privs, lw_okq q := by
  show ∀ q ∈ lw_privs_1 ++ (lw_privs_2), lw_okq q
  exact List.forall_mem_append.mpr ⟨lw_r1, lw_r2⟩
/-! ===== BEGIN printed: names, fields, word lists, decode rows ===== -/
def RX0 : String := "PrintedByFrost$Acts"
def TX0 : u_T := fun k => match k with
  | 0 => ("PrintedByFrost$Acts", "bodies", "[I", true)
  | 1 => ("PrintedByFrost$Acts", "ran", "I", false)
  | 2 => ("PrintedByFrost$Acts", "kind", "I", false)
  | 3 => ("PrintedByFrost$Acts", "number", "I", false)
  | _ => ("PrintedByFrost$Acts", "a", "I", false)
def tyX0 : Nat → FieldType := fun k => match k with
  | 0 => .array .int
  | 1 => .int
  | 2 => .int
  | 3 => .int
  | _ => .int
abbrev wsX00 : List Cond := u_ws RX0 TX0 5
theorem nmX0 : ∀ a, a < 5 → ∀ b, b < 5 → a ≠ b → (TX0 a).2.1 ≠ (TX0 b).2.1 := by decide +kernel
theorem tyX0_ok : ∀ k, k < 5 → parseFieldDescriptor (TX0 k).2.2.1 = some (tyX0 k) := by decide +kernel
abbrev cX0_init : ByteArray := prog_2_method_1_code
def yX0_init : MethodName := ⟨RX0, "<init>", "()V"⟩
def RX1 : String := "PrintedByFrost$Pane"
def TX1 : u_T := fun k => match k with
  | 0 => ("PrintedByFrost$Pane", "kind", "I", false)
  | 1 => ("PrintedByFrost$Pane", "room", "I", false)
  | 2 => ("PrintedByFrost$Pane", "a", "I", false)
  | 3 => ("PrintedByFrost$Pane", "hung", "I", false)
  | 4 => ("PrintedByFrost$Pane", "scratched", "I", false)
  | _ => ("PrintedByFrost$Pane", "ice", "[I", true)
def tyX1 : Nat → FieldType := fun k => match k with
  | 0 => .int
  | 1 => .int
  | 2 => .int
  | 3 => .int
  | 4 => .int
  | _ => .array .int
abbrev wsX10 : List Cond := u_ws RX1 TX1 6
theorem nmX1 : ∀ a, a < 6 → ∀ b, b < 6 → a ≠ b → (TX1 a).2.1 ≠ (TX1 b).2.1 := by decide +kernel
theorem tyX1_ok : ∀ k, k < 6 → parseFieldDescriptor (TX1 k).2.2.1 = some (tyX1 k) := by decide +kernel
abbrev cX1_init : ByteArray := prog_3_method_1_code
def yX1_init : MethodName := ⟨RX1, "<init>", "()V"⟩
abbrev cX1_isKind : ByteArray := prog_3_method_2_code
def yX1_isKind : MethodName := ⟨RX1, "isKind", "(I)Z"⟩
abbrev cX1_makeNew : ByteArray := prog_3_method_4_code
def yX1_makeNew : MethodName := ⟨RX1, "makeNew", "(III)V"⟩
abbrev cX1_takeGlass : ByteArray := prog_3_method_5_code
def yX1_takeGlass : MethodName := ⟨RX1, "takeGlass", "(LPrintedByFrost$Pane;)V"⟩
abbrev cX1_takeAll : ByteArray := prog_3_method_6_code
def yX1_takeAll : MethodName := ⟨RX1, "takeAll", "(LPrintedByFrost$Pane;)V"⟩
abbrev cX1_isOf : ByteArray := prog_3_method_7_code
def yX1_isOf : MethodName := ⟨RX1, "isOf", "(I)Z"⟩
abbrev cX1_countedCold : ByteArray := prog_3_method_8_code
def yX1_countedCold : MethodName := ⟨RX1, "countedCold", "(I)I"⟩
abbrev cX1_sharpness : ByteArray := prog_3_method_9_code
def yX1_sharpness : MethodName := ⟨RX1, "sharpness", "(II)I"⟩
abbrev cX1_laceRow : ByteArray := prog_3_method_10_code
def yX1_laceRow : MethodName := ⟨RX1, "laceRow", "()I"⟩
abbrev cX1_patternWith : ByteArray := prog_3_method_11_code
def yX1_patternWith : MethodName := ⟨RX1, "patternWith", "(I)I"⟩
abbrev cX1_freezeWith : ByteArray := prog_3_method_12_code
def yX1_freezeWith : MethodName := ⟨RX1, "freezeWith", "(III)V"⟩
abbrev cX1_freshIce : ByteArray := prog_3_method_13_code
def yX1_freshIce : MethodName := ⟨RX1, "freshIce", "(IIII)I"⟩
abbrev cX1_melting : ByteArray := prog_3_method_14_code
def yX1_melting : MethodName := ⟨RX1, "melting", "(II)I"⟩
abbrev cX1_passHours : ByteArray := prog_3_method_15_code
def yX1_passHours : MethodName := ⟨RX1, "passHours", "(III)V"⟩
abbrev cX1_meltBy : ByteArray := prog_3_method_16_code
def yX1_meltBy : MethodName := ⟨RX1, "meltBy", "(I)V"⟩
abbrev cX1_hasCell : ByteArray := prog_3_method_17_code
def yX1_hasCell : MethodName := ⟨RX1, "hasCell", "(II)Z"⟩
abbrev cX1_cellsBeside : ByteArray := prog_3_method_18_code
def yX1_cellsBeside : MethodName := ⟨RX1, "cellsBeside", "(I)I"⟩
abbrev cX1_frosted : ByteArray := prog_3_method_19_code
def yX1_frosted : MethodName := ⟨RX1, "frosted", "()I"⟩
abbrev cX1_iceOn : ByteArray := prog_3_method_20_code
def yX1_iceOn : MethodName := ⟨RX1, "iceOn", "(I)I"⟩
abbrev cX1_isScratched : ByteArray := prog_3_method_21_code
def yX1_isScratched : MethodName := ⟨RX1, "isScratched", "(I)Z"⟩
abbrev cX1_breatheOn : ByteArray := prog_3_method_22_code
def yX1_breatheOn : MethodName := ⟨RX1, "breatheOn", "(I)I"⟩
abbrev cX1_scratchOff : ByteArray := prog_3_method_23_code
def yX1_scratchOff : MethodName := ⟨RX1, "scratchOff", "(I)I"⟩
def RX2 : String := "PrintedByFrost$Reader"
def TX2 : u_T := fun k => match k with
  | 0 => ("PrintedByFrost$Reader", "numbers", "[I", true)
  | 1 => ("PrintedByFrost$Reader", "at", "I", false)
  | _ => ("PrintedByFrost$Reader", "faultPlace", "I", false)
def tyX2 : Nat → FieldType := fun k => match k with
  | 0 => .array .int
  | 1 => .int
  | _ => .int
abbrev wsX20 : List Cond := u_ws RX2 TX2 3
theorem nmX2 : ∀ a, a < 3 → ∀ b, b < 3 → a ≠ b → (TX2 a).2.1 ≠ (TX2 b).2.1 := by decide +kernel
theorem tyX2_ok : ∀ k, k < 3 → parseFieldDescriptor (TX2 k).2.2.1 = some (tyX2 k) := by decide +kernel
abbrev cX2_init : ByteArray := prog_4_method_1_code
def yX2_init : MethodName := ⟨RX2, "<init>", "()V"⟩
abbrev cX2_itemsOf : ByteArray := prog_4_method_2_code
def yX2_itemsOf : MethodName := ⟨RX2, "itemsOf", "(LPrintedByFrost$Shelf;LPrintedByFrost$Street;)I"⟩
abbrev cX2_failAt : ByteArray := prog_4_method_3_code
def yX2_failAt : MethodName := ⟨RX2, "failAt", "(I)Z"⟩
abbrev cX2_signStands : ByteArray := prog_4_method_4_code
def yX2_signStands : MethodName := ⟨RX2, "signStands", "(LPrintedByFrost$Shelf;I)Z"⟩
abbrev cX2_itemStands : ByteArray := prog_4_method_5_code
def yX2_itemStands : MethodName := ⟨RX2, "itemStands", "(LPrintedByFrost$Shelf;LPrintedByFrost$Street;)Z"⟩
abbrev cX2_lettersStand : ByteArray := prog_4_method_6_code
def yX2_lettersStand : MethodName := ⟨RX2, "lettersStand", "(LPrintedByFrost$Shelf;Ljava/lang/String;)Z"⟩
abbrev cX2_numberStands : ByteArray := prog_4_method_7_code
def yX2_numberStands : MethodName := ⟨RX2, "numberStands", "(LPrintedByFrost$Shelf;II)Z"⟩
abbrev cX2_isDigitAt : ByteArray := prog_4_method_8_code
def yX2_isDigitAt : MethodName := ⟨RX2, "isDigitAt", "(LPrintedByFrost$Shelf;)Z"⟩
abbrev cX2_wordFrom : ByteArray := prog_4_method_9_code
def yX2_wordFrom : MethodName := ⟨RX2, "wordFrom", "(I)I"⟩
abbrev cX2_lettersOf : ByteArray := prog_4_method_10_code
def yX2_lettersOf : MethodName := ⟨RX2, "lettersOf", "(I)Ljava/lang/String;"⟩
abbrev cX2_numbersOf : ByteArray := prog_4_method_11_code
def yX2_numbersOf : MethodName := ⟨RX2, "numbersOf", "(I)I"⟩
abbrev cX2_hasRoomFor : ByteArray := prog_4_method_12_code
def yX2_hasRoomFor : MethodName := ⟨RX2, "hasRoomFor", "(ILPrintedByFrost$Street;)Z"⟩
abbrev cX2_mostOf : ByteArray := prog_4_method_13_code
def yX2_mostOf : MethodName := ⟨RX2, "mostOf", "(IILPrintedByFrost$Street;)I"⟩
abbrev cX2_tell : ByteArray := prog_4_method_14_code
def yX2_tell : MethodName := ⟨RX2, "tell", "(ILPrintedByFrost$Street;)V"⟩
def RX3 : String := "PrintedByFrost$Shelf"
def TX3 : u_T := fun k => match k with
  | 0 => ("PrintedByFrost$Shelf", "elements", "[J", true)
  | 1 => ("PrintedByFrost$Shelf", "sort", "I", false)
  | 2 => ("PrintedByFrost$Shelf", "size", "I", false)
  | 3 => ("PrintedByFrost$Shelf", "paneNumber", "I", false)
  | _ => ("PrintedByFrost$Shelf", "row", "Z", false)
def tyX3 : Nat → FieldType := fun k => match k with
  | 0 => .array .long
  | 1 => .int
  | 2 => .int
  | 3 => .int
  | _ => .boolean
abbrev wsX30 : List Cond := u_ws RX3 TX3 5
theorem nmX3 : ∀ a, a < 5 → ∀ b, b < 5 → a ≠ b → (TX3 a).2.1 ≠ (TX3 b).2.1 := by decide +kernel
theorem tyX3_ok : ∀ k, k < 5 → parseFieldDescriptor (TX3 k).2.2.1 = some (tyX3 k) := by decide +kernel
abbrev cX3_init : ByteArray := prog_5_method_1_code
def yX3_init : MethodName := ⟨RX3, "<init>", "()V"⟩
abbrev cX3_hasRow : ByteArray := prog_5_method_2_code
def yX3_hasRow : MethodName := ⟨RX3, "hasRow", "()Z"⟩
abbrev cX3_hasPane : ByteArray := prog_5_method_3_code
def yX3_hasPane : MethodName := ⟨RX3, "hasPane", "()Z"⟩
abbrev cX3_takeNothing : ByteArray := prog_5_method_4_code
def yX3_takeNothing : MethodName := ⟨RX3, "takeNothing", "()V"⟩
abbrev cX3_takePane : ByteArray := prog_5_method_5_code
def yX3_takePane : MethodName := ⟨RX3, "takePane", "(I)V"⟩
abbrev cX3_takeRow : ByteArray := prog_5_method_6_code
def yX3_takeRow : MethodName := ⟨RX3, "takeRow", "(II)V"⟩
abbrev cX3_told : ByteArray := prog_5_method_7_code
def yX3_told : MethodName := ⟨RX3, "told", "()I"⟩
abbrev cX3_elementAt : ByteArray := prog_5_method_8_code
def yX3_elementAt : MethodName := ⟨RX3, "elementAt", "(I)J"⟩
abbrev cX3_signAt : ByteArray := prog_5_method_9_code
def yX3_signAt : MethodName := ⟨RX3, "signAt", "(I)I"⟩
abbrev cX3_put : ByteArray := prog_5_method_10_code
def yX3_put : MethodName := ⟨RX3, "put", "(IJ)V"⟩
abbrev cX3_lowestBits : ByteArray := prog_5_method_11_code
def yX3_lowestBits : MethodName := ⟨RX3, "lowestBits", "(J)J"⟩
def RX4 : String := "PrintedByFrost$Street"
def TX4 : u_T := fun k => match k with
  | 0 => ("PrintedByFrost$Street", "forms", "[I", true)
  | 1 => ("PrintedByFrost$Street", "panes", "[LPrintedByFrost$Pane;", true)
  | 2 => ("PrintedByFrost$Street", "letterCount", "I", false)
  | 3 => ("PrintedByFrost$Street", "paneCount", "I", false)
  | 4 => ("PrintedByFrost$Street", "cold", "I", false)
  | 5 => ("PrintedByFrost$Street", "wet", "I", false)
  | 6 => ("PrintedByFrost$Street", "out", "I", false)
  | 7 => ("PrintedByFrost$Street", "hour", "I", false)
  | 8 => ("PrintedByFrost$Street", "editions", "I", false)
  | _ => ("PrintedByFrost$Street", "drawn", "I", false)
def tyX4 : Nat → FieldType := fun k => match k with
  | 0 => .array .int
  | 1 => .array (.object "PrintedByFrost$Pane")
  | 2 => .int
  | 3 => .int
  | 4 => .int
  | 5 => .int
  | 6 => .int
  | 7 => .int
  | 8 => .int
  | _ => .int
abbrev wsX40 : List Cond := u_ws RX4 TX4 10
theorem nmX4 : ∀ a, a < 10 → ∀ b, b < 10 → a ≠ b → (TX4 a).2.1 ≠ (TX4 b).2.1 := by decide +kernel
theorem tyX4_ok : ∀ k, k < 10 → parseFieldDescriptor (TX4 k).2.2.1 = some (tyX4 k) := by decide +kernel
abbrev cX4_init : ByteArray := prog_6_method_1_code
def yX4_init : MethodName := ⟨RX4, "<init>", "()V"⟩
abbrev cX4_takeAll : ByteArray := prog_6_method_2_code
def yX4_takeAll : MethodName := ⟨RX4, "takeAll", "(LPrintedByFrost$Street;)V"⟩
abbrev cX4_isLetter : ByteArray := prog_6_method_3_code
def yX4_isLetter : MethodName := ⟨RX4, "isLetter", "(I)Z"⟩
abbrev cX4_isLetterOrNone : ByteArray := prog_6_method_4_code
def yX4_isLetterOrNone : MethodName := ⟨RX4, "isLetterOrNone", "(I)Z"⟩
abbrev cX4_hasLetterRoom : ByteArray := prog_6_method_5_code
def yX4_hasLetterRoom : MethodName := ⟨RX4, "hasLetterRoom", "()Z"⟩
abbrev cX4_addLetter : ByteArray := prog_6_method_6_code
def yX4_addLetter : MethodName := ⟨RX4, "addLetter", "(I)I"⟩
abbrev cX4_cellsOf : ByteArray := prog_6_method_7_code
def yX4_cellsOf : MethodName := ⟨RX4, "cellsOf", "(I)I"⟩
abbrev cX4_paneAt : ByteArray := prog_6_method_8_code
def yX4_paneAt : MethodName := ⟨RX4, "paneAt", "(I)LPrintedByFrost$Pane;"⟩
abbrev cX4_hasPaneRoom : ByteArray := prog_6_method_9_code
def yX4_hasPaneRoom : MethodName := ⟨RX4, "hasPaneRoom", "()Z"⟩
abbrev cX4_addPane : ByteArray := prog_6_method_10_code
def yX4_addPane : MethodName := ⟨RX4, "addPane", "(III)I"⟩
abbrev cX4_mostOf : ByteArray := prog_6_method_11_code
def yX4_mostOf : MethodName := ⟨RX4, "mostOf", "(I)I"⟩
abbrev cX4_mayBecome : ByteArray := prog_6_method_12_code
def yX4_mayBecome : MethodName := ⟨RX4, "mayBecome", "(II)Z"⟩
abbrev cX4_changeWeather : ByteArray := prog_6_method_13_code
def yX4_changeWeather : MethodName := ⟨RX4, "changeWeather", "(II)I"⟩
abbrev cX4_readingOf : ByteArray := prog_6_method_14_code
def yX4_readingOf : MethodName := ⟨RX4, "readingOf", "(I)I"⟩
abbrev cX4_cellsUnlike : ByteArray := prog_6_method_15_code
def yX4_cellsUnlike : MethodName := ⟨RX4, "cellsUnlike", "(II)I"⟩
abbrev cX4_nearestPair : ByteArray := prog_6_method_16_code
def yX4_nearestPair : MethodName := ⟨RX4, "nearestPair", "()I"⟩
abbrev cX4_bestChange : ByteArray := prog_6_method_17_code
def yX4_bestChange : MethodName := ⟨RX4, "bestChange", "(I)I"⟩
abbrev cX4_fewestUnlike : ByteArray := prog_6_method_18_code
def yX4_fewestUnlike : MethodName := ⟨RX4, "fewestUnlike", "(II)I"⟩
abbrev cX4_passNight : ByteArray := prog_6_method_19_code
def yX4_passNight : MethodName := ⟨RX4, "passNight", "()I"⟩
abbrev cX4_isReadRight : ByteArray := prog_6_method_20_code
def yX4_isReadRight : MethodName := ⟨RX4, "isReadRight", "(LPrintedByFrost$Pane;)Z"⟩
abbrev cX4_passHours : ByteArray := prog_6_method_21_code
def yX4_passHours : MethodName := ⟨RX4, "passHours", "(I)I"⟩
abbrev cX4_passWinter : ByteArray := prog_6_method_22_code
def yX4_passWinter : MethodName := ⟨RX4, "passWinter", "(I)I"⟩
abbrev cX4_drawBelow : ByteArray := prog_6_method_23_code
def yX4_drawBelow : MethodName := ⟨RX4, "drawBelow", "(I)I"⟩
def RX5 : String := "PrintedByFrost$Thought"
def TX5 : u_T := fun k => match k with
  | 0 => ("PrintedByFrost$Thought", "street", "LPrintedByFrost$Street;", true)
  | 1 => ("PrintedByFrost$Thought", "glass", "LPrintedByFrost$Pane;", true)
  | 2 => ("PrintedByFrost$Thought", "readings", "[I", true)
  | 3 => ("PrintedByFrost$Thought", "rightLetters", "[I", true)
  | 4 => ("PrintedByFrost$Thought", "worths", "[I", true)
  | 5 => ("PrintedByFrost$Thought", "chosenPanes", "I", false)
  | _ => ("PrintedByFrost$Thought", "chosenRight", "I", false)
def tyX5 : Nat → FieldType := fun k => match k with
  | 0 => .object "PrintedByFrost$Street"
  | 1 => .object "PrintedByFrost$Pane"
  | 2 => .array .int
  | 3 => .array .int
  | 4 => .array .int
  | 5 => .int
  | _ => .int
abbrev wsX50 : List Cond := u_ws RX5 TX5 7
theorem nmX5 : ∀ a, a < 7 → ∀ b, b < 7 → a ≠ b → (TX5 a).2.1 ≠ (TX5 b).2.1 := by decide +kernel
theorem tyX5_ok : ∀ k, k < 7 → parseFieldDescriptor (TX5 k).2.2.1 = some (tyX5 k) := by decide +kernel
abbrev cX5_init : ByteArray := prog_7_method_1_code
def yX5_init : MethodName := ⟨RX5, "<init>", "(LPrintedByFrost$Street;)V"⟩
abbrev cX5_iceAt : ByteArray := prog_7_method_2_code
def yX5_iceAt : MethodName := ⟨RX5, "iceAt", "(LPrintedByFrost$Pane;III)I"⟩
abbrev cX5_shapeAt : ByteArray := prog_7_method_3_code
def yX5_shapeAt : MethodName := ⟨RX5, "shapeAt", "(LPrintedByFrost$Pane;II)I"⟩
abbrev cX5_shapeOnGlass : ByteArray := prog_7_method_4_code
def yX5_shapeOnGlass : MethodName := ⟨RX5, "shapeOnGlass", "(III)I"⟩
abbrev cX5_readAllHours : ByteArray := prog_7_method_5_code
def yX5_readAllHours : MethodName := ⟨RX5, "readAllHours", "(LPrintedByFrost$Pane;I)V"⟩
abbrev cX5_lastHour : ByteArray := prog_7_method_6_code
def yX5_lastHour : MethodName := ⟨RX5, "lastHour", "(LPrintedByFrost$Pane;I)I"⟩
abbrev cX5_firstHourAs : ByteArray := prog_7_method_7_code
def yX5_firstHourAs : MethodName := ⟨RX5, "firstHourAs", "(LPrintedByFrost$Pane;II)I"⟩
abbrev cX5_othersReadFor : ByteArray := prog_7_method_8_code
def yX5_othersReadFor : MethodName := ⟨RX5, "othersReadFor", "(I)I"⟩
abbrev cX5_lettersAmongReadings : ByteArray := prog_7_method_9_code
def yX5_lettersAmongReadings : MethodName := ⟨RX5, "lettersAmongReadings", "()I"⟩
abbrev cX5_panesRight : ByteArray := prog_7_method_10_code
def yX5_panesRight : MethodName := ⟨RX5, "panesRight", "(I)I"⟩
abbrev cX5_lettersThatShow : ByteArray := prog_7_method_11_code
def yX5_lettersThatShow : MethodName := ⟨RX5, "lettersThatShow", "(LPrintedByFrost$Pane;II)I"⟩
abbrev cX5_warmestRoom : ByteArray := prog_7_method_12_code
def yX5_warmestRoom : MethodName := ⟨RX5, "warmestRoom", "(LPrintedByFrost$Pane;II)I"⟩
abbrev cX5_leastCold : ByteArray := prog_7_method_13_code
def yX5_leastCold : MethodName := ⟨RX5, "leastCold", "(LPrintedByFrost$Pane;II)I"⟩
abbrev cX5_curtainsRead : ByteArray := prog_7_method_14_code
def yX5_curtainsRead : MethodName := ⟨RX5, "curtainsRead", "()I"⟩
abbrev cX5_firstPaperLead : ByteArray := prog_7_method_15_code
def yX5_firstPaperLead : MethodName := ⟨RX5, "firstPaperLead", "()I"⟩
abbrev cX5_takeDearest : ByteArray := prog_7_method_16_code
def yX5_takeDearest : MethodName := ⟨RX5, "takeDearest", "()I"⟩
abbrev cX5_worthOf : ByteArray := prog_7_method_17_code
def yX5_worthOf : MethodName := ⟨RX5, "worthOf", "(LPrintedByFrost$Pane;)I"⟩
def RX6 : String := "PrintedByFrost"
def TX6 : u_T := fun k => match k with
  | 0 => ("PrintedByFrost", "street", "LPrintedByFrost$Street;", true)
  | 1 => ("PrintedByFrost", "imaged", "LPrintedByFrost$Street;", true)
  | 2 => ("PrintedByFrost", "draft", "LPrintedByFrost$Street;", true)
  | 3 => ("PrintedByFrost", "thought", "LPrintedByFrost$Thought;", true)
  | 4 => ("PrintedByFrost", "shelves", "[LPrintedByFrost$Shelf;", true)
  | 5 => ("PrintedByFrost", "reader", "LPrintedByFrost$Reader;", true)
  | 6 => ("PrintedByFrost", "acts", "LPrintedByFrost$Acts;", true)
  | 7 => ("PrintedByFrost", "refusals", "[I", true)
  | _ => ("PrintedByFrost", "hasImage", "Z", false)
def tyX6 : Nat → FieldType := fun k => match k with
  | 0 => .object "PrintedByFrost$Street"
  | 1 => .object "PrintedByFrost$Street"
  | 2 => .object "PrintedByFrost$Street"
  | 3 => .object "PrintedByFrost$Thought"
  | 4 => .array (.object "PrintedByFrost$Shelf")
  | 5 => .object "PrintedByFrost$Reader"
  | 6 => .object "PrintedByFrost$Acts"
  | 7 => .array .int
  | _ => .boolean
abbrev wsX60 : List Cond := u_ws RX6 TX6 9
theorem nmX6 : ∀ a, a < 9 → ∀ b, b < 9 → a ≠ b → (TX6 a).2.1 ≠ (TX6 b).2.1 := by decide +kernel
theorem tyX6_ok : ∀ k, k < 9 → parseFieldDescriptor (TX6 k).2.2.1 = some (tyX6 k) := by decide +kernel
abbrev cX6_init : ByteArray := prog_1_method_1_code
def yX6_init : MethodName := ⟨RX6, "<init>", "()V"⟩
abbrev cX6_row : ByteArray := prog_1_method_2_code
def yX6_row : MethodName := ⟨RX6, "row", "(III)I"⟩
abbrev cX6_set : ByteArray := prog_1_method_3_code
def yX6_set : MethodName := ⟨RX6, "set", "(IIJ)I"⟩
abbrev cX6_element : ByteArray := prog_1_method_5_code
def yX6_element : MethodName := ⟨RX6, "element", "(II)J"⟩
abbrev cX6_show : ByteArray := prog_1_method_6_code
def yX6_show : MethodName := ⟨RX6, "show", "(II)I"⟩
abbrev cX6_holds : ByteArray := prog_1_method_7_code
def yX6_holds : MethodName := ⟨RX6, "holds", "(I)I"⟩
abbrev cX6_shelfAt : ByteArray := prog_1_method_10_code
def yX6_shelfAt : MethodName := ⟨RX6, "shelfAt", "(I)LPrintedByFrost$Shelf;"⟩
abbrev cX6_lackOfRow : ByteArray := prog_1_method_11_code
def yX6_lackOfRow : MethodName := ⟨RX6, "lackOfRow", "(LPrintedByFrost$Shelf;)I"⟩
abbrev cX6_refuse : ByteArray := prog_1_method_12_code
def yX6_refuse : MethodName := ⟨RX6, "refuse", "(I)I"⟩
abbrev cX6_refuseNobody : ByteArray := prog_1_method_13_code
def yX6_refuseNobody : MethodName := ⟨RX6, "refuseNobody", "()I"⟩
abbrev cX6_refuseWrong : ByteArray := prog_1_method_14_code
def yX6_refuseWrong : MethodName := ⟨RX6, "refuseWrong", "()I"⟩
abbrev cX6_isHour : ByteArray := prog_1_method_15_code
def yX6_isHour : MethodName := ⟨RX6, "isHour", "(I)Z"⟩
abbrev cX6_isCell : ByteArray := prog_1_method_16_code
def yX6_isCell : MethodName := ⟨RX6, "isCell", "(I)Z"⟩
abbrev cX6_isShape : ByteArray := prog_1_method_17_code
def yX6_isShape : MethodName := ⟨RX6, "isShape", "(I)Z"⟩
abbrev cX6_form : ByteArray := prog_1_method_18_code
def yX6_form : MethodName := ⟨RX6, "form", "(I)I"⟩
abbrev cX6_formOf : ByteArray := prog_1_method_19_code
def yX6_formOf : MethodName := ⟨RX6, "formOf", "(I)I"⟩
abbrev cX6_pane : ByteArray := prog_1_method_20_code
def yX6_pane : MethodName := ⟨RX6, "pane", "(III)I"⟩
abbrev cX6_paneOf : ByteArray := prog_1_method_21_code
def yX6_paneOf : MethodName := ⟨RX6, "paneOf", "(II)I"⟩
abbrev cX6_hang : ByteArray := prog_1_method_22_code
def yX6_hang : MethodName := ⟨RX6, "hang", "(II)I"⟩
abbrev cX6_hangs : ByteArray := prog_1_method_23_code
def yX6_hangs : MethodName := ⟨RX6, "hangs", "(I)I"⟩
abbrev cX6_ask : ByteArray := prog_1_method_24_code
def yX6_ask : MethodName := ⟨RX6, "ask", "(II)I"⟩
abbrev cX6_room : ByteArray := prog_1_method_25_code
def yX6_room : MethodName := ⟨RX6, "room", "(II)I"⟩
abbrev cX6_press : ByteArray := prog_1_method_26_code
def yX6_press : MethodName := ⟨RX6, "press", "(I)I"⟩
abbrev cX6_melt : ByteArray := prog_1_method_28_code
def yX6_melt : MethodName := ⟨RX6, "melt", "(II)I"⟩
abbrev cX6_ice : ByteArray := prog_1_method_29_code
def yX6_ice : MethodName := ⟨RX6, "ice", "(IIII)I"⟩
abbrev cX6_shape : ByteArray := prog_1_method_30_code
def yX6_shape : MethodName := ⟨RX6, "shape", "(III)I"⟩
abbrev cX6_reads : ByteArray := prog_1_method_31_code
def yX6_reads : MethodName := ⟨RX6, "reads", "(I)I"⟩
abbrev cX6_readsAs : ByteArray := prog_1_method_32_code
def yX6_readsAs : MethodName := ⟨RX6, "readsAs", "(III)I"⟩
abbrev cX6_lasts : ByteArray := prog_1_method_33_code
def yX6_lasts : MethodName := ⟨RX6, "lasts", "(II)I"⟩
abbrev cX6_page : ByteArray := prog_1_method_34_code
def yX6_page : MethodName := ⟨RX6, "page", "(I)I"⟩
abbrev cX6_becomes : ByteArray := prog_1_method_37_code
def yX6_becomes : MethodName := ⟨RX6, "becomes", "(I)I"⟩
abbrev cX6_turns : ByteArray := prog_1_method_38_code
def yX6_turns : MethodName := ⟨RX6, "turns", "(III)I"⟩
abbrev cX6_could : ByteArray := prog_1_method_39_code
def yX6_could : MethodName := ⟨RX6, "could", "(III)I"⟩
abbrev cX6_unlike : ByteArray := prog_1_method_40_code
def yX6_unlike : MethodName := ⟨RX6, "unlike", "(II)I"⟩
abbrev cX6_closest : ByteArray := prog_1_method_41_code
def yX6_closest : MethodName := ⟨RX6, "closest", "()I"⟩
abbrev cX6_mend : ByteArray := prog_1_method_42_code
def yX6_mend : MethodName := ⟨RX6, "mend", "(I)I"⟩
abbrev cX6_stove : ByteArray := prog_1_method_43_code
def yX6_stove : MethodName := ⟨RX6, "stove", "(III)I"⟩
abbrev cX6_chill : ByteArray := prog_1_method_44_code
def yX6_chill : MethodName := ⟨RX6, "chill", "(III)I"⟩
abbrev cX6_mistaken : ByteArray := prog_1_method_45_code
def yX6_mistaken : MethodName := ⟨RX6, "mistaken", "()I"⟩
abbrev cX6_let : ByteArray := prog_1_method_46_code
def yX6_let : MethodName := ⟨RX6, "let", "()I"⟩
abbrev cX6_night : ByteArray := prog_1_method_47_code
def yX6_night : MethodName := ⟨RX6, "night", "()I"⟩
abbrev cX6_hours : ByteArray := prog_1_method_48_code
def yX6_hours : MethodName := ⟨RX6, "hours", "(I)I"⟩
abbrev cX6_truth : ByteArray := prog_1_method_49_code
def yX6_truth : MethodName := ⟨RX6, "truth", "(II)I"⟩
abbrev cX6_readOf : ByteArray := prog_1_method_50_code
def yX6_readOf : MethodName := ⟨RX6, "readOf", "(I)I"⟩
abbrev cX6_breath : ByteArray := prog_1_method_51_code
def yX6_breath : MethodName := ⟨RX6, "breath", "(II)I"⟩
abbrev cX6_scratch : ByteArray := prog_1_method_52_code
def yX6_scratch : MethodName := ⟨RX6, "scratch", "(II)I"⟩
abbrev cX6_winter : ByteArray := prog_1_method_53_code
def yX6_winter : MethodName := ⟨RX6, "winter", "(I)I"⟩
abbrev cX6_seed : ByteArray := prog_1_method_54_code
def yX6_seed : MethodName := ⟨RX6, "seed", "(I)I"⟩
abbrev cX6_image : ByteArray := prog_1_method_57_code
def yX6_image : MethodName := ⟨RX6, "image", "()I"⟩
abbrev cX6_restore : ByteArray := prog_1_method_58_code
def yX6_restore : MethodName := ⟨RX6, "restore", "()I"⟩
abbrev cX6_status : ByteArray := prog_1_method_59_code
def yX6_status : MethodName := ⟨RX6, "status", "(I)I"⟩
abbrev cX6_refusalsOf : ByteArray := prog_1_method_60_code
def yX6_refusalsOf : MethodName := ⟨RX6, "refusalsOf", "(I)I"⟩
def RX7 : String := "PrintedByFrostModel"
def TX7 : u_T := fun k => match k with
  | _ => ("", "", "", false)
def tyX7 : Nat → FieldType := fun k => match k with
  | _ => .int
abbrev wsX70 : List Cond := u_ws RX7 TX7 0
theorem nmX7 : ∀ a, a < 0 → ∀ b, b < 0 → a ≠ b → (TX7 a).2.1 ≠ (TX7 b).2.1 := by decide +kernel
theorem tyX7_ok : ∀ k, k < 0 → parseFieldDescriptor (TX7 k).2.2.1 = some (tyX7 k) := by decide +kernel
def RJ6 : String := "java/lang/Integer"
def TJ6 : u_T := fun k => match k with
  | _ => ("", "", "", false)
def tyJ6 : Nat → FieldType := fun k => match k with
  | _ => .int
abbrev wsJ60 : List Cond := u_ws RJ6 TJ6 0
theorem nmJ6 : ∀ a, a < 0 → ∀ b, b < 0 → a ≠ b → (TJ6 a).2.1 ≠ (TJ6 b).2.1 := by decide +kernel
theorem tyJ6_ok : ∀ k, k < 0 → parseFieldDescriptor (TJ6 k).2.2.1 = some (tyJ6 k) := by decide +kernel
abbrev cJ6_bitCount_0f7a4 : ByteArray := prog_10_method_49_code
def yJ6_bitCount_0f7a4 : MethodName := ⟨RJ6, "bitCount", "(I)I"⟩
def RJ9 : String := "java/lang/Math"
def TJ9 : u_T := fun k => match k with
  | _ => ("", "", "", false)
def tyJ9 : Nat → FieldType := fun k => match k with
  | _ => .int
abbrev wsJ90 : List Cond := u_ws RJ9 TJ9 0
theorem nmJ9 : ∀ a, a < 0 → ∀ b, b < 0 → a ≠ b → (TJ9 a).2.1 ≠ (TJ9 b).2.1 := by decide +kernel
theorem tyJ9_ok : ∀ k, k < 0 → parseFieldDescriptor (TJ9 k).2.2.1 = some (tyJ9 k) := by decide +kernel
abbrev cJ9_max_7cf53 : ByteArray := prog_11_method_65_code
def yJ9_max_7cf53 : MethodName := ⟨RJ9, "max", "(II)I"⟩
abbrev cJ9_min_7cf53 : ByteArray := prog_11_method_69_code
def yJ9_min_7cf53 : MethodName := ⟨RJ9, "min", "(II)I"⟩
def RJ0 : String := "java/lang/String"
def TJ0 : u_T := fun k => match k with
  | _ => ("", "", "", false)
def tyJ0 : Nat → FieldType := fun k => match k with
  | _ => .int
abbrev wsJ00 : List Cond := u_ws RJ0 TJ0 0
theorem nmJ0 : ∀ a, a < 0 → ∀ b, b < 0 → a ≠ b → (TJ0 a).2.1 ≠ (TJ0 b).2.1 := by decide +kernel
theorem tyJ0_ok : ∀ k, k < 0 → parseFieldDescriptor (TJ0 k).2.2.1 = some (tyJ0 k) := by decide +kernel
abbrev cJ0_length_8abf5 : ByteArray := prog_12_method_54_code
def yJ0_length_8abf5 : MethodName := ⟨RJ0, "length", "()I"⟩
abbrev cJ0_charAt_5068e : ByteArray := prog_12_method_56_code
def yJ0_charAt_5068e : MethodName := ⟨RJ0, "charAt", "(I)C"⟩
abbrev cJ0_coder_7d493 : ByteArray := prog_12_method_152_code
def yJ0_coder_7d493 : MethodName := ⟨RJ0, "coder", "()B"⟩
abbrev cJ0_isLatin1_aae02 : ByteArray := prog_12_method_154_code
def yJ0_isLatin1_aae02 : MethodName := ⟨RJ0, "isLatin1", "()Z"⟩
abbrev cJ0_checkIndex_df160 : ByteArray := prog_12_method_155_code
def yJ0_checkIndex_df160 : MethodName := ⟨RJ0, "checkIndex", "(II)V"⟩
def RJ1 : String := "java/lang/StringLatin1"
def TJ1 : u_T := fun k => match k with
  | _ => ("", "", "", false)
def tyJ1 : Nat → FieldType := fun k => match k with
  | _ => .int
abbrev wsJ10 : List Cond := u_ws RJ1 TJ1 0
theorem nmJ1 : ∀ a, a < 0 → ∀ b, b < 0 → a ≠ b → (TJ1 a).2.1 ≠ (TJ1 b).2.1 := by decide +kernel
theorem tyJ1_ok : ∀ k, k < 0 → parseFieldDescriptor (TJ1 k).2.2.1 = some (tyJ1 k) := by decide +kernel
abbrev cJ1_charAt_3b067 : ByteArray := prog_13_method_2_code
def yJ1_charAt_3b067 : MethodName := ⟨RJ1, "charAt", "([BI)C"⟩
def RJ2 : String := "java/lang/StringUTF16"
def TJ2 : u_T := fun k => match k with
  | _ => ("", "", "", false)
def tyJ2 : Nat → FieldType := fun k => match k with
  | _ => .int
abbrev wsJ20 : List Cond := u_ws RJ2 TJ2 0
theorem nmJ2 : ∀ a, a < 0 → ∀ b, b < 0 → a ≠ b → (TJ2 a).2.1 ≠ (TJ2 b).2.1 := by decide +kernel
theorem tyJ2_ok : ∀ k, k < 0 → parseFieldDescriptor (TJ2 k).2.2.1 = some (tyJ2 k) := by decide +kernel
abbrev cJ2_getChar_3b067 : ByteArray := prog_14_method_5_code
def yJ2_getChar_3b067 : MethodName := ⟨RJ2, "getChar", "([BI)C"⟩
abbrev cJ2_length_9d52b : ByteArray := prog_14_method_6_code
def yJ2_length_9d52b : MethodName := ⟨RJ2, "length", "([B)I"⟩
abbrev cJ2_charAt_3b067 : ByteArray := prog_14_method_83_code
def yJ2_charAt_3b067 : MethodName := ⟨RJ2, "charAt", "([BI)C"⟩
abbrev cJ2_checkIndex_2214a : ByteArray := prog_14_method_91_code
def yJ2_checkIndex_2214a : MethodName := ⟨RJ2, "checkIndex", "(I[B)V"⟩
def RJ3 : String := "jdk/internal/util/Preconditions"
def TJ3 : u_T := fun k => match k with
  | _ => ("", "", "", false)
def tyJ3 : Nat → FieldType := fun k => match k with
  | _ => .int
abbrev wsJ30 : List Cond := u_ws RJ3 TJ3 0
theorem nmJ3 : ∀ a, a < 0 → ∀ b, b < 0 → a ≠ b → (TJ3 a).2.1 ≠ (TJ3 b).2.1 := by decide +kernel
theorem tyJ3_ok : ∀ k, k < 0 → parseFieldDescriptor (TJ3 k).2.2.1 = some (tyJ3 k) := by decide +kernel
abbrev cJ3_checkIndex_8e157 : ByteArray := prog_15_method_11_code
def yJ3_checkIndex_8e157 : MethodName := ⟨RJ3, "checkIndex", "(IILjava/util/function/BiFunction;)I"⟩
def RL : String := "PrintedByFrostLaw"
abbrev cL_at : ByteArray := method_2_code
def yL_at : MethodName := ⟨RL, "at", "([II)I"⟩
abbrev cL_some : ByteArray := method_3_code
def yL_some : MethodName := ⟨RL, "some", "(II)I"⟩
abbrev cL_world : ByteArray := method_4_code
def yL_world : MethodName := ⟨RL, "world", "(LPrintedByFrost;[I[I)V"⟩
abbrev cL_told : ByteArray := method_5_code
def yL_told : MethodName := ⟨RL, "told", "(LPrintedByFrost;)J"⟩
abbrev cL_law : ByteArray := code
def yL_law : MethodName := ⟨RL, "law", "([I)Z"⟩
abbrev vwCl : List vw_C := [(RX0, TX0, 5), (RX1, TX1, 6), (RX2, TX2, 3), (RX3, TX3, 5), (RX4, TX4, 10), (RX5, TX5, 7), (RX6, TX6, 9)]
