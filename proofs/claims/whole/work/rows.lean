section
-- ===== PART A: goes FIRST, ahead of the names: the tables' words, and 'selects' of the private methods out of them =====
/-- a private method of a class that the tables say can be made, by its rows of tables_1 -/
def lw_okq (q : MethodName × Nat) : Prop := (q.1.cls ≠ "java/lang/invoke/MethodHandle" ∧ q.1.cls ≠ "java/lang/invoke/VarHandle") ∧ Cond.instantiable q.1.cls q.2 ∈ tables_1 ∧ Cond.privateMethod q.1 ∈ tables_1 ∧ Cond.instanceMethod q.1 ∈ tables_1
theorem lw_p0 : lw_okq (⟨"PrintedByFrost", "shelfAt", "(I)LPrintedByFrost$Shelf;"⟩, 9) := ⟨⟨by decide +kernel, by decide +kernel⟩, List.mem_of_getElem? (i := 16) (by decide +kernel), List.mem_of_getElem? (i := 248) (by decide +kernel), List.mem_of_getElem? (i := 249) (by decide +kernel)⟩
theorem lw_p1 : lw_okq (⟨"PrintedByFrost", "refuse", "(I)I"⟩, 9) := ⟨⟨by decide +kernel, by decide +kernel⟩, List.mem_of_getElem? (i := 16) (by decide +kernel), List.mem_of_getElem? (i := 252) (by decide +kernel), List.mem_of_getElem? (i := 253) (by decide +kernel)⟩
theorem lw_p2 : lw_okq (⟨"PrintedByFrost$Shelf", "lowestBits", "(J)J"⟩, 5) := ⟨⟨by decide +kernel, by decide +kernel⟩, List.mem_of_getElem? (i := 149) (by decide +kernel), List.mem_of_getElem? (i := 279) (by decide +kernel), List.mem_of_getElem? (i := 280) (by decide +kernel)⟩
theorem lw_p3 : lw_okq (⟨"PrintedByFrost", "saidAs", "(LPrintedByFrost$Pane;I)I"⟩, 9) := ⟨⟨by decide +kernel, by decide +kernel⟩, List.mem_of_getElem? (i := 16) (by decide +kernel), List.mem_of_getElem? (i := 338) (by decide +kernel), List.mem_of_getElem? (i := 339) (by decide +kernel)⟩
theorem lw_p4 : lw_okq (⟨"PrintedByFrost", "refuseNobody", "()I"⟩, 9) := ⟨⟨by decide +kernel, by decide +kernel⟩, List.mem_of_getElem? (i := 16) (by decide +kernel), List.mem_of_getElem? (i := 426) (by decide +kernel), List.mem_of_getElem? (i := 427) (by decide +kernel)⟩
theorem lw_p5 : lw_okq (⟨"PrintedByFrost$Reader", "itemStands", "(LPrintedByFrost$Shelf;LPrintedByFrost$Street;)Z"⟩, 3) := ⟨⟨by decide +kernel, by decide +kernel⟩, List.mem_of_getElem? (i := 176) (by decide +kernel), List.mem_of_getElem? (i := 473) (by decide +kernel), List.mem_of_getElem? (i := 474) (by decide +kernel)⟩
theorem lw_p6 : lw_okq (⟨"PrintedByFrost$Reader", "failAt", "(I)Z"⟩, 3) := ⟨⟨by decide +kernel, by decide +kernel⟩, List.mem_of_getElem? (i := 176) (by decide +kernel), List.mem_of_getElem? (i := 484) (by decide +kernel), List.mem_of_getElem? (i := 485) (by decide +kernel)⟩
theorem lw_p7 : lw_okq (⟨"PrintedByFrost$Reader", "lettersStand", "(LPrintedByFrost$Shelf;Ljava/lang/String;)Z"⟩, 3) := ⟨⟨by decide +kernel, by decide +kernel⟩, List.mem_of_getElem? (i := 176) (by decide +kernel), List.mem_of_getElem? (i := 497) (by decide +kernel), List.mem_of_getElem? (i := 498) (by decide +kernel)⟩
theorem lw_p8 : lw_okq (⟨"PrintedByFrost$Reader", "signStands", "(LPrintedByFrost$Shelf;I)Z"⟩, 3) := ⟨⟨by decide +kernel, by decide +kernel⟩, List.mem_of_getElem? (i := 176) (by decide +kernel), List.mem_of_getElem? (i := 549) (by decide +kernel), List.mem_of_getElem? (i := 550) (by decide +kernel)⟩
theorem lw_p9 : lw_okq (⟨"PrintedByFrost$Reader", "numberStands", "(LPrintedByFrost$Shelf;II)Z"⟩, 3) := ⟨⟨by decide +kernel, by decide +kernel⟩, List.mem_of_getElem? (i := 176) (by decide +kernel), List.mem_of_getElem? (i := 565) (by decide +kernel), List.mem_of_getElem? (i := 566) (by decide +kernel)⟩
theorem lw_p10 : lw_okq (⟨"PrintedByFrost$Reader", "isDigitAt", "(LPrintedByFrost$Shelf;)Z"⟩, 3) := ⟨⟨by decide +kernel, by decide +kernel⟩, List.mem_of_getElem? (i := 176) (by decide +kernel), List.mem_of_getElem? (i := 569) (by decide +kernel), List.mem_of_getElem? (i := 570) (by decide +kernel)⟩
theorem lw_p11 : lw_okq (⟨"PrintedByFrost$Reader", "tell", "(ILPrintedByFrost$Street;)V"⟩, 3) := ⟨⟨by decide +kernel, by decide +kernel⟩, List.mem_of_getElem? (i := 176) (by decide +kernel), List.mem_of_getElem? (i := 573) (by decide +kernel), List.mem_of_getElem? (i := 574) (by decide +kernel)⟩
theorem lw_p12 : lw_okq (⟨"PrintedByFrost$Thought", "shapeOnGlass", "(III)I"⟩, 7) := ⟨⟨by decide +kernel, by decide +kernel⟩, List.mem_of_getElem? (i := 117) (by decide +kernel), List.mem_of_getElem? (i := 608) (by decide +kernel), List.mem_of_getElem? (i := 609) (by decide +kernel)⟩
theorem lw_p13 : lw_okq (⟨"PrintedByFrost$Pane", "freshIce", "(IIII)I"⟩, 6) := ⟨⟨by decide +kernel, by decide +kernel⟩, List.mem_of_getElem? (i := 31) (by decide +kernel), List.mem_of_getElem? (i := 626) (by decide +kernel), List.mem_of_getElem? (i := 627) (by decide +kernel)⟩
theorem lw_p14 : lw_okq (⟨"PrintedByFrost", "refuseWrong", "()I"⟩, 9) := ⟨⟨by decide +kernel, by decide +kernel⟩, List.mem_of_getElem? (i := 16) (by decide +kernel), List.mem_of_getElem? (i := 667) (by decide +kernel), List.mem_of_getElem? (i := 668) (by decide +kernel)⟩
theorem lw_p15 : lw_okq (⟨"PrintedByFrost$Thought", "readAllHours", "(LPrintedByFrost$Pane;I)V"⟩, 7) := ⟨⟨by decide +kernel, by decide +kernel⟩, List.mem_of_getElem? (i := 117) (by decide +kernel), List.mem_of_getElem? (i := 688) (by decide +kernel), List.mem_of_getElem? (i := 689) (by decide +kernel)⟩
def lw_privs_1 : List (MethodName × Nat) := [(⟨"PrintedByFrost", "shelfAt", "(I)LPrintedByFrost$Shelf;"⟩, 9), (⟨"PrintedByFrost", "refuse", "(I)I"⟩, 9), (⟨"PrintedByFrost$Shelf", "lowestBits", "(J)J"⟩, 5), (⟨"PrintedByFrost", "saidAs", "(LPrintedByFrost$Pane;I)I"⟩, 9), (⟨"PrintedByFrost", "refuseNobody", "()I"⟩, 9), (⟨"PrintedByFrost$Reader", "itemStands", "(LPrintedByFrost$Shelf;LPrintedByFrost$Street;)Z"⟩, 3), (⟨"PrintedByFrost$Reader", "failAt", "(I)Z"⟩, 3), (⟨"PrintedByFrost$Reader", "lettersStand", "(LPrintedByFrost$Shelf;Ljava/lang/String;)Z"⟩, 3), (⟨"PrintedByFrost$Reader", "signStands", "(LPrintedByFrost$Shelf;I)Z"⟩, 3), (⟨"PrintedByFrost$Reader", "numberStands", "(LPrintedByFrost$Shelf;II)Z"⟩, 3), (⟨"PrintedByFrost$Reader", "isDigitAt", "(LPrintedByFrost$Shelf;)Z"⟩, 3), (⟨"PrintedByFrost$Reader", "tell", "(ILPrintedByFrost$Street;)V"⟩, 3), (⟨"PrintedByFrost$Thought", "shapeOnGlass", "(III)I"⟩, 7), (⟨"PrintedByFrost$Pane", "freshIce", "(IIII)I"⟩, 6), (⟨"PrintedByFrost", "refuseWrong", "()I"⟩, 9), (⟨"PrintedByFrost$Thought", "readAllHours", "(LPrintedByFrost$Pane;I)V"⟩, 7)]
theorem lw_r1 : ∀ q ∈ lw_privs_1, lw_okq q := List.forall_mem_cons.mpr ⟨lw_p0, List.forall_mem_cons.mpr ⟨lw_p1, List.forall_mem_cons.mpr ⟨lw_p2, List.forall_mem_cons.mpr ⟨lw_p3, List.forall_mem_cons.mpr ⟨lw_p4, List.forall_mem_cons.mpr ⟨lw_p5, List.forall_mem_cons.mpr ⟨lw_p6, List.forall_mem_cons.mpr ⟨lw_p7, List.forall_mem_cons.mpr ⟨lw_p8, List.forall_mem_cons.mpr ⟨lw_p9, List.forall_mem_cons.mpr ⟨lw_p10, List.forall_mem_cons.mpr ⟨lw_p11, List.forall_mem_cons.mpr ⟨lw_p12, List.forall_mem_cons.mpr ⟨lw_p13, List.forall_mem_cons.mpr ⟨lw_p14, List.forall_mem_cons.mpr ⟨lw_p15, fun _ h => absurd h List.not_mem_nil⟩⟩⟩⟩⟩⟩⟩⟩⟩⟩⟩⟩⟩⟩⟩⟩
theorem lw_p16 : lw_okq (⟨"PrintedByFrost", "areLetters", "(LPrintedByFrost$Shelf;I)Z"⟩, 9) := ⟨⟨by decide +kernel, by decide +kernel⟩, List.mem_of_getElem? (i := 16) (by decide +kernel), List.mem_of_getElem? (i := 708) (by decide +kernel), List.mem_of_getElem? (i := 709) (by decide +kernel)⟩
theorem lw_p17 : lw_okq (⟨"PrintedByFrost$Thought", "lettersRightOnGlass", "(LPrintedByFrost$Shelf;II)I"⟩, 7) := ⟨⟨by decide +kernel, by decide +kernel⟩, List.mem_of_getElem? (i := 117) (by decide +kernel), List.mem_of_getElem? (i := 717) (by decide +kernel), List.mem_of_getElem? (i := 718) (by decide +kernel)⟩
theorem lw_p18 : lw_okq (⟨"PrintedByFrost$Thought", "rightBy", "(ILPrintedByFrost$Shelf;)I"⟩, 7) := ⟨⟨by decide +kernel, by decide +kernel⟩, List.mem_of_getElem? (i := 117) (by decide +kernel), List.mem_of_getElem? (i := 727) (by decide +kernel), List.mem_of_getElem? (i := 728) (by decide +kernel)⟩
theorem lw_p19 : lw_okq (⟨"PrintedByFrost$Thought", "isChosen", "(II)Z"⟩, 7) := ⟨⟨by decide +kernel, by decide +kernel⟩, List.mem_of_getElem? (i := 117) (by decide +kernel), List.mem_of_getElem? (i := 731) (by decide +kernel), List.mem_of_getElem? (i := 732) (by decide +kernel)⟩
theorem lw_p20 : lw_okq (⟨"PrintedByFrost$Thought", "lettersAmongReadings", "()I"⟩, 7) := ⟨⟨by decide +kernel, by decide +kernel⟩, List.mem_of_getElem? (i := 117) (by decide +kernel), List.mem_of_getElem? (i := 747) (by decide +kernel), List.mem_of_getElem? (i := 748) (by decide +kernel)⟩
theorem lw_p21 : lw_okq (⟨"PrintedByFrost$Street", "fewestUnlike", "(II)I"⟩, 10) := ⟨⟨by decide +kernel, by decide +kernel⟩, List.mem_of_getElem? (i := 24) (by decide +kernel), List.mem_of_getElem? (i := 792) (by decide +kernel), List.mem_of_getElem? (i := 793) (by decide +kernel)⟩
theorem lw_p22 : lw_okq (⟨"PrintedByFrost$Thought", "worthOf", "(LPrintedByFrost$Pane;)I"⟩, 7) := ⟨⟨by decide +kernel, by decide +kernel⟩, List.mem_of_getElem? (i := 117) (by decide +kernel), List.mem_of_getElem? (i := 829) (by decide +kernel), List.mem_of_getElem? (i := 830) (by decide +kernel)⟩
theorem lw_p23 : lw_okq (⟨"PrintedByFrost$Thought", "takeDearest", "()I"⟩, 7) := ⟨⟨by decide +kernel, by decide +kernel⟩, List.mem_of_getElem? (i := 117) (by decide +kernel), List.mem_of_getElem? (i := 833) (by decide +kernel), List.mem_of_getElem? (i := 834) (by decide +kernel)⟩
theorem lw_p24 : lw_okq (⟨"PrintedByFrost$Street", "isReadRight", "(LPrintedByFrost$Pane;)Z"⟩, 10) := ⟨⟨by decide +kernel, by decide +kernel⟩, List.mem_of_getElem? (i := 24) (by decide +kernel), List.mem_of_getElem? (i := 847) (by decide +kernel), List.mem_of_getElem? (i := 848) (by decide +kernel)⟩
theorem lw_p25 : lw_okq (⟨"PrintedByFrost$Street", "drawBelow", "(I)I"⟩, 10) := ⟨⟨by decide +kernel, by decide +kernel⟩, List.mem_of_getElem? (i := 24) (by decide +kernel), List.mem_of_getElem? (i := 900) (by decide +kernel), List.mem_of_getElem? (i := 901) (by decide +kernel)⟩
theorem lw_p26 : lw_okq (⟨"PrintedByFrost$Acts", "note", "(I)V"⟩, 5) := ⟨⟨by decide +kernel, by decide +kernel⟩, List.mem_of_getElem? (i := 193) (by decide +kernel), List.mem_of_getElem? (i := 943) (by decide +kernel), List.mem_of_getElem? (i := 944) (by decide +kernel)⟩
theorem lw_p27 : lw_okq (⟨"PrintedByFrost", "refusalsOf", "(I)I"⟩, 9) := ⟨⟨by decide +kernel, by decide +kernel⟩, List.mem_of_getElem? (i := 16) (by decide +kernel), List.mem_of_getElem? (i := 967) (by decide +kernel), List.mem_of_getElem? (i := 968) (by decide +kernel)⟩
theorem lw_p28 : lw_okq (⟨"PrintedByFrostModel", "no", "(I)I"⟩, 31) := ⟨⟨by decide +kernel, by decide +kernel⟩, List.mem_of_getElem? (i := 971) (by decide +kernel), List.mem_of_getElem? (i := 1078) (by decide +kernel), List.mem_of_getElem? (i := 1079) (by decide +kernel)⟩
theorem lw_p29 : lw_okq (⟨"PrintedByFrostModel", "noRow", "(I)I"⟩, 31) := ⟨⟨by decide +kernel, by decide +kernel⟩, List.mem_of_getElem? (i := 971) (by decide +kernel), List.mem_of_getElem? (i := 1086) (by decide +kernel), List.mem_of_getElem? (i := 1087) (by decide +kernel)⟩
theorem lw_p30 : lw_okq (⟨"PrintedByFrostModel", "isRow", "(I)Z"⟩, 31) := ⟨⟨by decide +kernel, by decide +kernel⟩, List.mem_of_getElem? (i := 971) (by decide +kernel), List.mem_of_getElem? (i := 1090) (by decide +kernel), List.mem_of_getElem? (i := 1091) (by decide +kernel)⟩
theorem lw_p31 : lw_okq (⟨"PrintedByFrostModel", "isPane", "(I)Z"⟩, 31) := ⟨⟨by decide +kernel, by decide +kernel⟩, List.mem_of_getElem? (i := 971) (by decide +kernel), List.mem_of_getElem? (i := 1106) (by decide +kernel), List.mem_of_getElem? (i := 1107) (by decide +kernel)⟩
def lw_privs_2 : List (MethodName × Nat) := [(⟨"PrintedByFrost", "areLetters", "(LPrintedByFrost$Shelf;I)Z"⟩, 9), (⟨"PrintedByFrost$Thought", "lettersRightOnGlass", "(LPrintedByFrost$Shelf;II)I"⟩, 7), (⟨"PrintedByFrost$Thought", "rightBy", "(ILPrintedByFrost$Shelf;)I"⟩, 7), (⟨"PrintedByFrost$Thought", "isChosen", "(II)Z"⟩, 7), (⟨"PrintedByFrost$Thought", "lettersAmongReadings", "()I"⟩, 7), (⟨"PrintedByFrost$Street", "fewestUnlike", "(II)I"⟩, 10), (⟨"PrintedByFrost$Thought", "worthOf", "(LPrintedByFrost$Pane;)I"⟩, 7), (⟨"PrintedByFrost$Thought", "takeDearest", "()I"⟩, 7), (⟨"PrintedByFrost$Street", "isReadRight", "(LPrintedByFrost$Pane;)Z"⟩, 10), (⟨"PrintedByFrost$Street", "drawBelow", "(I)I"⟩, 10), (⟨"PrintedByFrost$Acts", "note", "(I)V"⟩, 5), (⟨"PrintedByFrost", "refusalsOf", "(I)I"⟩, 9), (⟨"PrintedByFrostModel", "no", "(I)I"⟩, 31), (⟨"PrintedByFrostModel", "noRow", "(I)I"⟩, 31), (⟨"PrintedByFrostModel", "isRow", "(I)Z"⟩, 31), (⟨"PrintedByFrostModel", "isPane", "(I)Z"⟩, 31)]
theorem lw_r2 : ∀ q ∈ lw_privs_2, lw_okq q := List.forall_mem_cons.mpr ⟨lw_p16, List.forall_mem_cons.mpr ⟨lw_p17, List.forall_mem_cons.mpr ⟨lw_p18, List.forall_mem_cons.mpr ⟨lw_p19, List.forall_mem_cons.mpr ⟨lw_p20, List.forall_mem_cons.mpr ⟨lw_p21, List.forall_mem_cons.mpr ⟨lw_p22, List.forall_mem_cons.mpr ⟨lw_p23, List.forall_mem_cons.mpr ⟨lw_p24, List.forall_mem_cons.mpr ⟨lw_p25, List.forall_mem_cons.mpr ⟨lw_p26, List.forall_mem_cons.mpr ⟨lw_p27, List.forall_mem_cons.mpr ⟨lw_p28, List.forall_mem_cons.mpr ⟨lw_p29, List.forall_mem_cons.mpr ⟨lw_p30, List.forall_mem_cons.mpr ⟨lw_p31, fun _ h => absurd h List.not_mem_nil⟩⟩⟩⟩⟩⟩⟩⟩⟩⟩⟩⟩⟩⟩⟩⟩
theorem lw_p32 : lw_okq (⟨"PrintedByFrostModel", "sharp", "(I)I"⟩, 31) := ⟨⟨by decide +kernel, by decide +kernel⟩, List.mem_of_getElem? (i := 971) (by decide +kernel), List.mem_of_getElem? (i := 1124) (by decide +kernel), List.mem_of_getElem? (i := 1125) (by decide +kernel)⟩
theorem lw_p33 : lw_okq (⟨"PrintedByFrostModel", "melts", "(II)I"⟩, 31) := ⟨⟨by decide +kernel, by decide +kernel⟩, List.mem_of_getElem? (i := 971) (by decide +kernel), List.mem_of_getElem? (i := 1129) (by decide +kernel), List.mem_of_getElem? (i := 1130) (by decide +kernel)⟩
theorem lw_p34 : lw_okq (⟨"PrintedByFrostModel", "isLetter", "(I)Z"⟩, 31) := ⟨⟨by decide +kernel, by decide +kernel⟩, List.mem_of_getElem? (i := 971) (by decide +kernel), List.mem_of_getElem? (i := 1142) (by decide +kernel), List.mem_of_getElem? (i := 1143) (by decide +kernel)⟩
theorem lw_p35 : lw_okq (⟨"PrintedByFrostModel", "no10", "(I)I"⟩, 31) := ⟨⟨by decide +kernel, by decide +kernel⟩, List.mem_of_getElem? (i := 971) (by decide +kernel), List.mem_of_getElem? (i := 1162) (by decide +kernel), List.mem_of_getElem? (i := 1163) (by decide +kernel)⟩
theorem lw_p36 : lw_okq (⟨"PrintedByFrostModel", "item", "()Z"⟩, 31) := ⟨⟨by decide +kernel, by decide +kernel⟩, List.mem_of_getElem? (i := 971) (by decide +kernel), List.mem_of_getElem? (i := 1178) (by decide +kernel), List.mem_of_getElem? (i := 1179) (by decide +kernel)⟩
theorem lw_p37 : lw_okq (⟨"PrintedByFrostModel", "sign", "()I"⟩, 31) := ⟨⟨by decide +kernel, by decide +kernel⟩, List.mem_of_getElem? (i := 971) (by decide +kernel), List.mem_of_getElem? (i := 1182) (by decide +kernel), List.mem_of_getElem? (i := 1183) (by decide +kernel)⟩
theorem lw_p38 : lw_okq (⟨"PrintedByFrostModel", "word", "(Ljava/lang/String;Z)Z"⟩, 31) := ⟨⟨by decide +kernel, by decide +kernel⟩, List.mem_of_getElem? (i := 971) (by decide +kernel), List.mem_of_getElem? (i := 1187) (by decide +kernel), List.mem_of_getElem? (i := 1188) (by decide +kernel)⟩
theorem lw_p39 : lw_okq (⟨"PrintedByFrostModel", "word", "(Ljava/lang/String;)Z"⟩, 31) := ⟨⟨by decide +kernel, by decide +kernel⟩, List.mem_of_getElem? (i := 971) (by decide +kernel), List.mem_of_getElem? (i := 1191) (by decide +kernel), List.mem_of_getElem? (i := 1192) (by decide +kernel)⟩
theorem lw_p40 : lw_okq (⟨"PrintedByFrostModel", "is", "(C)Z"⟩, 31) := ⟨⟨by decide +kernel, by decide +kernel⟩, List.mem_of_getElem? (i := 971) (by decide +kernel), List.mem_of_getElem? (i := 1197) (by decide +kernel), List.mem_of_getElem? (i := 1198) (by decide +kernel)⟩
theorem lw_p41 : lw_okq (⟨"PrintedByFrostModel", "number", "(II)Z"⟩, 31) := ⟨⟨by decide +kernel, by decide +kernel⟩, List.mem_of_getElem? (i := 971) (by decide +kernel), List.mem_of_getElem? (i := 1201) (by decide +kernel), List.mem_of_getElem? (i := 1202) (by decide +kernel)⟩
theorem lw_p42 : lw_okq (⟨"PrintedByFrostModel", "isLetterOrNone", "(I)Z"⟩, 31) := ⟨⟨by decide +kernel, by decide +kernel⟩, List.mem_of_getElem? (i := 971) (by decide +kernel), List.mem_of_getElem? (i := 1223) (by decide +kernel), List.mem_of_getElem? (i := 1224) (by decide +kernel)⟩
theorem lw_p43 : lw_okq (⟨"PrintedByFrostModel", "shapeAt", "(III)I"⟩, 31) := ⟨⟨by decide +kernel, by decide +kernel⟩, List.mem_of_getElem? (i := 971) (by decide +kernel), List.mem_of_getElem? (i := 1227) (by decide +kernel), List.mem_of_getElem? (i := 1228) (by decide +kernel)⟩
theorem lw_p44 : lw_okq (⟨"PrintedByFrostModel", "freeze", "(II)V"⟩, 31) := ⟨⟨by decide +kernel, by decide +kernel⟩, List.mem_of_getElem? (i := 971) (by decide +kernel), List.mem_of_getElem? (i := 1231) (by decide +kernel), List.mem_of_getElem? (i := 1232) (by decide +kernel)⟩
theorem lw_p45 : lw_okq (⟨"PrintedByFrostModel", "pattern", "(II)I"⟩, 31) := ⟨⟨by decide +kernel, by decide +kernel⟩, List.mem_of_getElem? (i := 971) (by decide +kernel), List.mem_of_getElem? (i := 1235) (by decide +kernel), List.mem_of_getElem? (i := 1236) (by decide +kernel)⟩
theorem lw_p46 : lw_okq (⟨"PrintedByFrostModel", "melting", "(II)V"⟩, 31) := ⟨⟨by decide +kernel, by decide +kernel⟩, List.mem_of_getElem? (i := 971) (by decide +kernel), List.mem_of_getElem? (i := 1240) (by decide +kernel), List.mem_of_getElem? (i := 1241) (by decide +kernel)⟩
theorem lw_p47 : lw_okq (⟨"PrintedByFrostModel", "shapeNow", "()I"⟩, 31) := ⟨⟨by decide +kernel, by decide +kernel⟩, List.mem_of_getElem? (i := 971) (by decide +kernel), List.mem_of_getElem? (i := 1244) (by decide +kernel), List.mem_of_getElem? (i := 1245) (by decide +kernel)⟩
def lw_privs_3 : List (MethodName × Nat) := [(⟨"PrintedByFrostModel", "sharp", "(I)I"⟩, 31), (⟨"PrintedByFrostModel", "melts", "(II)I"⟩, 31), (⟨"PrintedByFrostModel", "isLetter", "(I)Z"⟩, 31), (⟨"PrintedByFrostModel", "no10", "(I)I"⟩, 31), (⟨"PrintedByFrostModel", "item", "()Z"⟩, 31), (⟨"PrintedByFrostModel", "sign", "()I"⟩, 31), (⟨"PrintedByFrostModel", "word", "(Ljava/lang/String;Z)Z"⟩, 31), (⟨"PrintedByFrostModel", "word", "(Ljava/lang/String;)Z"⟩, 31), (⟨"PrintedByFrostModel", "is", "(C)Z"⟩, 31), (⟨"PrintedByFrostModel", "number", "(II)Z"⟩, 31), (⟨"PrintedByFrostModel", "isLetterOrNone", "(I)Z"⟩, 31), (⟨"PrintedByFrostModel", "shapeAt", "(III)I"⟩, 31), (⟨"PrintedByFrostModel", "freeze", "(II)V"⟩, 31), (⟨"PrintedByFrostModel", "pattern", "(II)I"⟩, 31), (⟨"PrintedByFrostModel", "melting", "(II)V"⟩, 31), (⟨"PrintedByFrostModel", "shapeNow", "()I"⟩, 31)]
theorem lw_r3 : ∀ q ∈ lw_privs_3, lw_okq q := List.forall_mem_cons.mpr ⟨lw_p32, List.forall_mem_cons.mpr ⟨lw_p33, List.forall_mem_cons.mpr ⟨lw_p34, List.forall_mem_cons.mpr ⟨lw_p35, List.forall_mem_cons.mpr ⟨lw_p36, List.forall_mem_cons.mpr ⟨lw_p37, List.forall_mem_cons.mpr ⟨lw_p38, List.forall_mem_cons.mpr ⟨lw_p39, List.forall_mem_cons.mpr ⟨lw_p40, List.forall_mem_cons.mpr ⟨lw_p41, List.forall_mem_cons.mpr ⟨lw_p42, List.forall_mem_cons.mpr ⟨lw_p43, List.forall_mem_cons.mpr ⟨lw_p44, List.forall_mem_cons.mpr ⟨lw_p45, List.forall_mem_cons.mpr ⟨lw_p46, List.forall_mem_cons.mpr ⟨lw_p47, fun _ h => absurd h List.not_mem_nil⟩⟩⟩⟩⟩⟩⟩⟩⟩⟩⟩⟩⟩⟩⟩⟩
theorem lw_p48 : lw_okq (⟨"PrintedByFrostModel", "read", "(I)I"⟩, 31) := ⟨⟨by decide +kernel, by decide +kernel⟩, List.mem_of_getElem? (i := 971) (by decide +kernel), List.mem_of_getElem? (i := 1256) (by decide +kernel), List.mem_of_getElem? (i := 1257) (by decide +kernel)⟩
theorem lw_p49 : lw_okq (⟨"PrintedByFrostModel", "readAt", "(III)I"⟩, 31) := ⟨⟨by decide +kernel, by decide +kernel⟩, List.mem_of_getElem? (i := 971) (by decide +kernel), List.mem_of_getElem? (i := 1265) (by decide +kernel), List.mem_of_getElem? (i := 1266) (by decide +kernel)⟩
theorem lw_p50 : lw_okq (⟨"PrintedByFrostModel", "load", "(I)V"⟩, 31) := ⟨⟨by decide +kernel, by decide +kernel⟩, List.mem_of_getElem? (i := 971) (by decide +kernel), List.mem_of_getElem? (i := 1329) (by decide +kernel), List.mem_of_getElem? (i := 1330) (by decide +kernel)⟩
theorem lw_p51 : lw_okq (⟨"PrintedByFrostModel", "draw", "(I)I"⟩, 31) := ⟨⟨by decide +kernel, by decide +kernel⟩, List.mem_of_getElem? (i := 971) (by decide +kernel), List.mem_of_getElem? (i := 1356) (by decide +kernel), List.mem_of_getElem? (i := 1357) (by decide +kernel)⟩
theorem lw_p52 : lw_okq (⟨"PrintedByFrostModel", "freezes", "(II)I"⟩, 31) := ⟨⟨by decide +kernel, by decide +kernel⟩, List.mem_of_getElem? (i := 971) (by decide +kernel), List.mem_of_getElem? (i := 1370) (by decide +kernel), List.mem_of_getElem? (i := 1371) (by decide +kernel)⟩
theorem lw_p53 : lw_okq (⟨"PrintedByFrostModel", "ran", "(I)V"⟩, 31) := ⟨⟨by decide +kernel, by decide +kernel⟩, List.mem_of_getElem? (i := 971) (by decide +kernel), List.mem_of_getElem? (i := 1374) (by decide +kernel), List.mem_of_getElem? (i := 1375) (by decide +kernel)⟩
theorem lw_p54 : lw_okq (⟨"PrintedByFrostModel", "meltsAct", "(II)I"⟩, 31) := ⟨⟨by decide +kernel, by decide +kernel⟩, List.mem_of_getElem? (i := 971) (by decide +kernel), List.mem_of_getElem? (i := 1378) (by decide +kernel), List.mem_of_getElem? (i := 1379) (by decide +kernel)⟩
theorem lw_p55 : lw_okq (⟨"PrintedByFrostModel", "melts2", "(II)I"⟩, 31) := ⟨⟨by decide +kernel, by decide +kernel⟩, List.mem_of_getElem? (i := 971) (by decide +kernel), List.mem_of_getElem? (i := 1382) (by decide +kernel), List.mem_of_getElem? (i := 1383) (by decide +kernel)⟩
theorem lw_p56 : lw_okq (⟨"PrintedByFrostModel", "melts0", "(II)I"⟩, 31) := ⟨⟨by decide +kernel, by decide +kernel⟩, List.mem_of_getElem? (i := 971) (by decide +kernel), List.mem_of_getElem? (i := 1386) (by decide +kernel), List.mem_of_getElem? (i := 1387) (by decide +kernel)⟩
theorem lw_p57 : lw_okq (⟨"PrintedByFrostModel", "melts3", "(II)I"⟩, 31) := ⟨⟨by decide +kernel, by decide +kernel⟩, List.mem_of_getElem? (i := 971) (by decide +kernel), List.mem_of_getElem? (i := 1390) (by decide +kernel), List.mem_of_getElem? (i := 1391) (by decide +kernel)⟩
theorem lw_p58 : lw_okq (⟨"PrintedByFrostModel", "shows", "(II)I"⟩, 31) := ⟨⟨by decide +kernel, by decide +kernel⟩, List.mem_of_getElem? (i := 971) (by decide +kernel), List.mem_of_getElem? (i := 1394) (by decide +kernel), List.mem_of_getElem? (i := 1395) (by decide +kernel)⟩
theorem lw_p59 : lw_okq (⟨"PrintedByFrostModel", "shows0", "(II)I"⟩, 31) := ⟨⟨by decide +kernel, by decide +kernel⟩, List.mem_of_getElem? (i := 971) (by decide +kernel), List.mem_of_getElem? (i := 1398) (by decide +kernel), List.mem_of_getElem? (i := 1399) (by decide +kernel)⟩
def lw_privs_4 : List (MethodName × Nat) := [(⟨"PrintedByFrostModel", "read", "(I)I"⟩, 31), (⟨"PrintedByFrostModel", "readAt", "(III)I"⟩, 31), (⟨"PrintedByFrostModel", "load", "(I)V"⟩, 31), (⟨"PrintedByFrostModel", "draw", "(I)I"⟩, 31), (⟨"PrintedByFrostModel", "freezes", "(II)I"⟩, 31), (⟨"PrintedByFrostModel", "ran", "(I)V"⟩, 31), (⟨"PrintedByFrostModel", "meltsAct", "(II)I"⟩, 31), (⟨"PrintedByFrostModel", "melts2", "(II)I"⟩, 31), (⟨"PrintedByFrostModel", "melts0", "(II)I"⟩, 31), (⟨"PrintedByFrostModel", "melts3", "(II)I"⟩, 31), (⟨"PrintedByFrostModel", "shows", "(II)I"⟩, 31), (⟨"PrintedByFrostModel", "shows0", "(II)I"⟩, 31)]
theorem lw_r4 : ∀ q ∈ lw_privs_4, lw_okq q := List.forall_mem_cons.mpr ⟨lw_p48, List.forall_mem_cons.mpr ⟨lw_p49, List.forall_mem_cons.mpr ⟨lw_p50, List.forall_mem_cons.mpr ⟨lw_p51, List.forall_mem_cons.mpr ⟨lw_p52, List.forall_mem_cons.mpr ⟨lw_p53, List.forall_mem_cons.mpr ⟨lw_p54, List.forall_mem_cons.mpr ⟨lw_p55, List.forall_mem_cons.mpr ⟨lw_p56, List.forall_mem_cons.mpr ⟨lw_p57, List.forall_mem_cons.mpr ⟨lw_p58, List.forall_mem_cons.mpr ⟨lw_p59, fun _ h => absurd h List.not_mem_nil⟩⟩⟩⟩⟩⟩⟩⟩⟩⟩⟩⟩
def lw_privs : List (MethodName × Nat) := lw_privs_1 ++ (lw_privs_2 ++ (lw_privs_3 ++ (lw_privs_4)))
def lw_tbl : List Cond := k2_sels lw_privs ++ tables_1
theorem lw_privs_ok : ∀ q ∈ lw_privs, lw_okq q := by
  show ∀ q ∈ lw_privs_1 ++ (lw_privs_2 ++ (lw_privs_3 ++ (lw_privs_4))), lw_okq q
  exact List.forall_mem_append.mpr ⟨lw_r1, List.forall_mem_append.mpr ⟨lw_r2, List.forall_mem_append.mpr ⟨lw_r3, lw_r4⟩⟩⟩
/-! ===== BEGIN printed: names, fields, word lists, decode rows ===== -/
def RX0 : String := "PrintedByFrost$Acts"
def TX0 : u_T := fun k => match k with
  | 0 => ("PrintedByFrost$Acts", "bodies", "[I", true)
  | 1 => ("PrintedByFrost$Acts", "ran", "I", false)
  | 2 => ("PrintedByFrost$Acts", "kind", "I", false)
  | 3 => ("PrintedByFrost$Acts", "number", "I", false)
  | _ => ("PrintedByFrost$Acts", "a", "I", false)
def tyX0 : Nat → FieldType := fun k => match k with
  | 0 => .array .int
  | 1 => .int
  | 2 => .int
  | 3 => .int
  | _ => .int
abbrev wsX00 : List Cond := u_ws RX0 TX0 5
theorem nmX0 : ∀ a, a < 5 → ∀ b, b < 5 → a ≠ b → (TX0 a).2.1 ≠ (TX0 b).2.1 := by decide +kernel
theorem tyX0_ok : ∀ k, k < 5 → parseFieldDescriptor (TX0 k).2.2.1 = some (tyX0 k) := by decide +kernel
abbrev cX0_init : ByteArray := prog_2_method_1_code
def yX0_init : MethodName := ⟨RX0, "<init>", "()V"⟩
abbrev cX0_isAct : ByteArray := prog_2_method_2_code
def yX0_isAct : MethodName := ⟨RX0, "isAct", "(I)Z"⟩
abbrev cX0_forget : ByteArray := prog_2_method_3_code
def yX0_forget : MethodName := ⟨RX0, "forget", "()V"⟩
abbrev cX0_perform : ByteArray := prog_2_method_4_code
def yX0_perform : MethodName := ⟨RX0, "perform", "(LPrintedByFrost$Pane;III)I"⟩
abbrev cX0_bodyAt : ByteArray := prog_2_method_5_code
def yX0_bodyAt : MethodName := ⟨RX0, "bodyAt", "(I)I"⟩
abbrev cX0_note : ByteArray := prog_2_method_6_code
def yX0_note : MethodName := ⟨RX0, "note", "(I)V"⟩
abbrev cX0_bodyFor : ByteArray := prog_2_method_7_code
def yX0_bodyFor : MethodName := ⟨RX0, "bodyFor", "(II)I"⟩
abbrev cX0_ownBody : ByteArray := prog_2_method_8_code
def yX0_ownBody : MethodName := ⟨RX0, "ownBody", "(II)I"⟩
abbrev cX0_run : ByteArray := prog_2_method_9_code
def yX0_run : MethodName := ⟨RX0, "run", "(LPrintedByFrost$Acts;IIII)I"⟩
def RX1 : String := "PrintedByFrost$Pane"
def TX1 : u_T := fun k => match k with
  | 0 => ("PrintedByFrost$Pane", "kind", "I", false)
  | 1 => ("PrintedByFrost$Pane", "room", "I", false)
  | 2 => ("PrintedByFrost$Pane", "a", "I", false)
  | 3 => ("PrintedByFrost$Pane", "hung", "I", false)
  | 4 => ("PrintedByFrost$Pane", "scratched", "I", false)
  | _ => ("PrintedByFrost$Pane", "ice", "[I", true)
def tyX1 : Nat → FieldType := fun k => match k with
  | 0 => .int
  | 1 => .int
  | 2 => .int
  | 3 => .int
  | 4 => .int
  | _ => .array .int
abbrev wsX10 : List Cond := u_ws RX1 TX1 6
theorem nmX1 : ∀ a, a < 6 → ∀ b, b < 6 → a ≠ b → (TX1 a).2.1 ≠ (TX1 b).2.1 := by decide +kernel
theorem tyX1_ok : ∀ k, k < 6 → parseFieldDescriptor (TX1 k).2.2.1 = some (tyX1 k) := by decide +kernel
abbrev cX1_init : ByteArray := prog_3_method_1_code
def yX1_init : MethodName := ⟨RX1, "<init>", "()V"⟩
abbrev cX1_isKind : ByteArray := prog_3_method_2_code
def yX1_isKind : MethodName := ⟨RX1, "isKind", "(I)Z"⟩
abbrev cX1_kindAbove : ByteArray := prog_3_method_3_code
def yX1_kindAbove : MethodName := ⟨RX1, "kindAbove", "(I)I"⟩
abbrev cX1_makeNew : ByteArray := prog_3_method_4_code
def yX1_makeNew : MethodName := ⟨RX1, "makeNew", "(III)V"⟩
abbrev cX1_takeGlass : ByteArray := prog_3_method_5_code
def yX1_takeGlass : MethodName := ⟨RX1, "takeGlass", "(LPrintedByFrost$Pane;)V"⟩
abbrev cX1_takeAll : ByteArray := prog_3_method_6_code
def yX1_takeAll : MethodName := ⟨RX1, "takeAll", "(LPrintedByFrost$Pane;)V"⟩
abbrev cX1_isOf : ByteArray := prog_3_method_7_code
def yX1_isOf : MethodName := ⟨RX1, "isOf", "(I)Z"⟩
abbrev cX1_countedCold : ByteArray := prog_3_method_8_code
def yX1_countedCold : MethodName := ⟨RX1, "countedCold", "(I)I"⟩
abbrev cX1_sharpness : ByteArray := prog_3_method_9_code
def yX1_sharpness : MethodName := ⟨RX1, "sharpness", "(II)I"⟩
abbrev cX1_laceRow : ByteArray := prog_3_method_10_code
def yX1_laceRow : MethodName := ⟨RX1, "laceRow", "()I"⟩
abbrev cX1_patternWith : ByteArray := prog_3_method_11_code
def yX1_patternWith : MethodName := ⟨RX1, "patternWith", "(I)I"⟩
abbrev cX1_freezeWith : ByteArray := prog_3_method_12_code
def yX1_freezeWith : MethodName := ⟨RX1, "freezeWith", "(III)V"⟩
abbrev cX1_freshIce : ByteArray := prog_3_method_13_code
def yX1_freshIce : MethodName := ⟨RX1, "freshIce", "(IIII)I"⟩
abbrev cX1_melting : ByteArray := prog_3_method_14_code
def yX1_melting : MethodName := ⟨RX1, "melting", "(II)I"⟩
abbrev cX1_passHours : ByteArray := prog_3_method_15_code
def yX1_passHours : MethodName := ⟨RX1, "passHours", "(III)V"⟩
abbrev cX1_meltBy : ByteArray := prog_3_method_16_code
def yX1_meltBy : MethodName := ⟨RX1, "meltBy", "(I)V"⟩
abbrev cX1_hasCell : ByteArray := prog_3_method_17_code
def yX1_hasCell : MethodName := ⟨RX1, "hasCell", "(II)Z"⟩
abbrev cX1_cellsBeside : ByteArray := prog_3_method_18_code
def yX1_cellsBeside : MethodName := ⟨RX1, "cellsBeside", "(I)I"⟩
abbrev cX1_frosted : ByteArray := prog_3_method_19_code
def yX1_frosted : MethodName := ⟨RX1, "frosted", "()I"⟩
abbrev cX1_iceOn : ByteArray := prog_3_method_20_code
def yX1_iceOn : MethodName := ⟨RX1, "iceOn", "(I)I"⟩
abbrev cX1_isScratched : ByteArray := prog_3_method_21_code
def yX1_isScratched : MethodName := ⟨RX1, "isScratched", "(I)Z"⟩
abbrev cX1_breatheOn : ByteArray := prog_3_method_22_code
def yX1_breatheOn : MethodName := ⟨RX1, "breatheOn", "(I)I"⟩
abbrev cX1_scratchOff : ByteArray := prog_3_method_23_code
def yX1_scratchOff : MethodName := ⟨RX1, "scratchOff", "(I)I"⟩
def RX2 : String := "PrintedByFrost$Reader"
def TX2 : u_T := fun k => match k with
  | 0 => ("PrintedByFrost$Reader", "numbers", "[I", true)
  | 1 => ("PrintedByFrost$Reader", "at", "I", false)
  | _ => ("PrintedByFrost$Reader", "faultPlace", "I", false)
def tyX2 : Nat → FieldType := fun k => match k with
  | 0 => .array .int
  | 1 => .int
  | _ => .int
abbrev wsX20 : List Cond := u_ws RX2 TX2 3
theorem nmX2 : ∀ a, a < 3 → ∀ b, b < 3 → a ≠ b → (TX2 a).2.1 ≠ (TX2 b).2.1 := by decide +kernel
theorem tyX2_ok : ∀ k, k < 3 → parseFieldDescriptor (TX2 k).2.2.1 = some (tyX2 k) := by decide +kernel
abbrev cX2_init : ByteArray := prog_4_method_1_code
def yX2_init : MethodName := ⟨RX2, "<init>", "()V"⟩
abbrev cX2_itemsOf : ByteArray := prog_4_method_2_code
def yX2_itemsOf : MethodName := ⟨RX2, "itemsOf", "(LPrintedByFrost$Shelf;LPrintedByFrost$Street;)I"⟩
abbrev cX2_failAt : ByteArray := prog_4_method_3_code
def yX2_failAt : MethodName := ⟨RX2, "failAt", "(I)Z"⟩
abbrev cX2_signStands : ByteArray := prog_4_method_4_code
def yX2_signStands : MethodName := ⟨RX2, "signStands", "(LPrintedByFrost$Shelf;I)Z"⟩
abbrev cX2_itemStands : ByteArray := prog_4_method_5_code
def yX2_itemStands : MethodName := ⟨RX2, "itemStands", "(LPrintedByFrost$Shelf;LPrintedByFrost$Street;)Z"⟩
abbrev cX2_lettersStand : ByteArray := prog_4_method_6_code
def yX2_lettersStand : MethodName := ⟨RX2, "lettersStand", "(LPrintedByFrost$Shelf;Ljava/lang/String;)Z"⟩
abbrev cX2_numberStands : ByteArray := prog_4_method_7_code
def yX2_numberStands : MethodName := ⟨RX2, "numberStands", "(LPrintedByFrost$Shelf;II)Z"⟩
abbrev cX2_isDigitAt : ByteArray := prog_4_method_8_code
def yX2_isDigitAt : MethodName := ⟨RX2, "isDigitAt", "(LPrintedByFrost$Shelf;)Z"⟩
abbrev cX2_wordFrom : ByteArray := prog_4_method_9_code
def yX2_wordFrom : MethodName := ⟨RX2, "wordFrom", "(I)I"⟩
abbrev cX2_lettersOf : ByteArray := prog_4_method_10_code
def yX2_lettersOf : MethodName := ⟨RX2, "lettersOf", "(I)Ljava/lang/String;"⟩
abbrev cX2_numbersOf : ByteArray := prog_4_method_11_code
def yX2_numbersOf : MethodName := ⟨RX2, "numbersOf", "(I)I"⟩
abbrev cX2_hasRoomFor : ByteArray := prog_4_method_12_code
def yX2_hasRoomFor : MethodName := ⟨RX2, "hasRoomFor", "(ILPrintedByFrost$Street;)Z"⟩
abbrev cX2_mostOf : ByteArray := prog_4_method_13_code
def yX2_mostOf : MethodName := ⟨RX2, "mostOf", "(IILPrintedByFrost$Street;)I"⟩
abbrev cX2_tell : ByteArray := prog_4_method_14_code
def yX2_tell : MethodName := ⟨RX2, "tell", "(ILPrintedByFrost$Street;)V"⟩
def RX3 : String := "PrintedByFrost$Shelf"
def TX3 : u_T := fun k => match k with
  | 0 => ("PrintedByFrost$Shelf", "elements", "[J", true)
  | 1 => ("PrintedByFrost$Shelf", "sort", "I", false)
  | 2 => ("PrintedByFrost$Shelf", "size", "I", false)
  | 3 => ("PrintedByFrost$Shelf", "paneNumber", "I", false)
  | _ => ("PrintedByFrost$Shelf", "row", "Z", false)
def tyX3 : Nat → FieldType := fun k => match k with
  | 0 => .array .long
  | 1 => .int
  | 2 => .int
  | 3 => .int
  | _ => .boolean
abbrev wsX30 : List Cond := u_ws RX3 TX3 5
theorem nmX3 : ∀ a, a < 5 → ∀ b, b < 5 → a ≠ b → (TX3 a).2.1 ≠ (TX3 b).2.1 := by decide +kernel
theorem tyX3_ok : ∀ k, k < 5 → parseFieldDescriptor (TX3 k).2.2.1 = some (tyX3 k) := by decide +kernel
abbrev cX3_init : ByteArray := prog_5_method_1_code
def yX3_init : MethodName := ⟨RX3, "<init>", "()V"⟩
abbrev cX3_hasRow : ByteArray := prog_5_method_2_code
def yX3_hasRow : MethodName := ⟨RX3, "hasRow", "()Z"⟩
abbrev cX3_hasPane : ByteArray := prog_5_method_3_code
def yX3_hasPane : MethodName := ⟨RX3, "hasPane", "()Z"⟩
abbrev cX3_takeNothing : ByteArray := prog_5_method_4_code
def yX3_takeNothing : MethodName := ⟨RX3, "takeNothing", "()V"⟩
abbrev cX3_takePane : ByteArray := prog_5_method_5_code
def yX3_takePane : MethodName := ⟨RX3, "takePane", "(I)V"⟩
abbrev cX3_takeRow : ByteArray := prog_5_method_6_code
def yX3_takeRow : MethodName := ⟨RX3, "takeRow", "(II)V"⟩
abbrev cX3_told : ByteArray := prog_5_method_7_code
def yX3_told : MethodName := ⟨RX3, "told", "()I"⟩
abbrev cX3_elementAt : ByteArray := prog_5_method_8_code
def yX3_elementAt : MethodName := ⟨RX3, "elementAt", "(I)J"⟩
abbrev cX3_signAt : ByteArray := prog_5_method_9_code
def yX3_signAt : MethodName := ⟨RX3, "signAt", "(I)I"⟩
abbrev cX3_put : ByteArray := prog_5_method_10_code
def yX3_put : MethodName := ⟨RX3, "put", "(IJ)V"⟩
abbrev cX3_lowestBits : ByteArray := prog_5_method_11_code
def yX3_lowestBits : MethodName := ⟨RX3, "lowestBits", "(J)J"⟩
abbrev cX3_putAll : ByteArray := prog_5_method_12_code
def yX3_putAll : MethodName := ⟨RX3, "putAll", "(LPrintedByFrost$Shelf;III)V"⟩
def RX4 : String := "PrintedByFrost$Street"
def TX4 : u_T := fun k => match k with
  | 0 => ("PrintedByFrost$Street", "forms", "[I", true)
  | 1 => ("PrintedByFrost$Street", "panes", "[LPrintedByFrost$Pane;", true)
  | 2 => ("PrintedByFrost$Street", "letterCount", "I", false)
  | 3 => ("PrintedByFrost$Street", "paneCount", "I", false)
  | 4 => ("PrintedByFrost$Street", "cold", "I", false)
  | 5 => ("PrintedByFrost$Street", "wet", "I", false)
  | 6 => ("PrintedByFrost$Street", "out", "I", false)
  | 7 => ("PrintedByFrost$Street", "hour", "I", false)
  | 8 => ("PrintedByFrost$Street", "editions", "I", false)
  | _ => ("PrintedByFrost$Street", "drawn", "I", false)
def tyX4 : Nat → FieldType := fun k => match k with
  | 0 => .array .int
  | 1 => .array (.object "PrintedByFrost$Pane")
  | 2 => .int
  | 3 => .int
  | 4 => .int
  | 5 => .int
  | 6 => .int
  | 7 => .int
  | 8 => .int
  | _ => .int
abbrev wsX40 : List Cond := u_ws RX4 TX4 10
theorem nmX4 : ∀ a, a < 10 → ∀ b, b < 10 → a ≠ b → (TX4 a).2.1 ≠ (TX4 b).2.1 := by decide +kernel
theorem tyX4_ok : ∀ k, k < 10 → parseFieldDescriptor (TX4 k).2.2.1 = some (tyX4 k) := by decide +kernel
abbrev cX4_init : ByteArray := prog_6_method_1_code
def yX4_init : MethodName := ⟨RX4, "<init>", "()V"⟩
abbrev cX4_takeAll : ByteArray := prog_6_method_2_code
def yX4_takeAll : MethodName := ⟨RX4, "takeAll", "(LPrintedByFrost$Street;)V"⟩
abbrev cX4_isLetter : ByteArray := prog_6_method_3_code
def yX4_isLetter : MethodName := ⟨RX4, "isLetter", "(I)Z"⟩
abbrev cX4_isLetterOrNone : ByteArray := prog_6_method_4_code
def yX4_isLetterOrNone : MethodName := ⟨RX4, "isLetterOrNone", "(I)Z"⟩
abbrev cX4_hasLetterRoom : ByteArray := prog_6_method_5_code
def yX4_hasLetterRoom : MethodName := ⟨RX4, "hasLetterRoom", "()Z"⟩
abbrev cX4_addLetter : ByteArray := prog_6_method_6_code
def yX4_addLetter : MethodName := ⟨RX4, "addLetter", "(I)I"⟩
abbrev cX4_cellsOf : ByteArray := prog_6_method_7_code
def yX4_cellsOf : MethodName := ⟨RX4, "cellsOf", "(I)I"⟩
abbrev cX4_paneAt : ByteArray := prog_6_method_8_code
def yX4_paneAt : MethodName := ⟨RX4, "paneAt", "(I)LPrintedByFrost$Pane;"⟩
abbrev cX4_hasPaneRoom : ByteArray := prog_6_method_9_code
def yX4_hasPaneRoom : MethodName := ⟨RX4, "hasPaneRoom", "()Z"⟩
abbrev cX4_addPane : ByteArray := prog_6_method_10_code
def yX4_addPane : MethodName := ⟨RX4, "addPane", "(III)I"⟩
abbrev cX4_mostOf : ByteArray := prog_6_method_11_code
def yX4_mostOf : MethodName := ⟨RX4, "mostOf", "(I)I"⟩
abbrev cX4_mayBecome : ByteArray := prog_6_method_12_code
def yX4_mayBecome : MethodName := ⟨RX4, "mayBecome", "(II)Z"⟩
abbrev cX4_changeWeather : ByteArray := prog_6_method_13_code
def yX4_changeWeather : MethodName := ⟨RX4, "changeWeather", "(II)I"⟩
abbrev cX4_readingOf : ByteArray := prog_6_method_14_code
def yX4_readingOf : MethodName := ⟨RX4, "readingOf", "(I)I"⟩
abbrev cX4_cellsUnlike : ByteArray := prog_6_method_15_code
def yX4_cellsUnlike : MethodName := ⟨RX4, "cellsUnlike", "(II)I"⟩
abbrev cX4_nearestPair : ByteArray := prog_6_method_16_code
def yX4_nearestPair : MethodName := ⟨RX4, "nearestPair", "()I"⟩
abbrev cX4_bestChange : ByteArray := prog_6_method_17_code
def yX4_bestChange : MethodName := ⟨RX4, "bestChange", "(I)I"⟩
abbrev cX4_fewestUnlike : ByteArray := prog_6_method_18_code
def yX4_fewestUnlike : MethodName := ⟨RX4, "fewestUnlike", "(II)I"⟩
abbrev cX4_passNight : ByteArray := prog_6_method_19_code
def yX4_passNight : MethodName := ⟨RX4, "passNight", "()I"⟩
abbrev cX4_isReadRight : ByteArray := prog_6_method_20_code
def yX4_isReadRight : MethodName := ⟨RX4, "isReadRight", "(LPrintedByFrost$Pane;)Z"⟩
abbrev cX4_passHours : ByteArray := prog_6_method_21_code
def yX4_passHours : MethodName := ⟨RX4, "passHours", "(I)I"⟩
abbrev cX4_passWinter : ByteArray := prog_6_method_22_code
def yX4_passWinter : MethodName := ⟨RX4, "passWinter", "(I)I"⟩
abbrev cX4_drawBelow : ByteArray := prog_6_method_23_code
def yX4_drawBelow : MethodName := ⟨RX4, "drawBelow", "(I)I"⟩
def RX5 : String := "PrintedByFrost$Thought"
def TX5 : u_T := fun k => match k with
  | 0 => ("PrintedByFrost$Thought", "street", "LPrintedByFrost$Street;", true)
  | 1 => ("PrintedByFrost$Thought", "glass", "LPrintedByFrost$Pane;", true)
  | 2 => ("PrintedByFrost$Thought", "readings", "[I", true)
  | 3 => ("PrintedByFrost$Thought", "rightLetters", "[I", true)
  | 4 => ("PrintedByFrost$Thought", "worths", "[I", true)
  | 5 => ("PrintedByFrost$Thought", "chosenPanes", "I", false)
  | _ => ("PrintedByFrost$Thought", "chosenRight", "I", false)
def tyX5 : Nat → FieldType := fun k => match k with
  | 0 => .object "PrintedByFrost$Street"
  | 1 => .object "PrintedByFrost$Pane"
  | 2 => .array .int
  | 3 => .array .int
  | 4 => .array .int
  | 5 => .int
  | _ => .int
abbrev wsX50 : List Cond := u_ws RX5 TX5 7
theorem nmX5 : ∀ a, a < 7 → ∀ b, b < 7 → a ≠ b → (TX5 a).2.1 ≠ (TX5 b).2.1 := by decide +kernel
theorem tyX5_ok : ∀ k, k < 7 → parseFieldDescriptor (TX5 k).2.2.1 = some (tyX5 k) := by decide +kernel
abbrev cX5_init : ByteArray := prog_7_method_1_code
def yX5_init : MethodName := ⟨RX5, "<init>", "(LPrintedByFrost$Street;)V"⟩
abbrev cX5_iceAt : ByteArray := prog_7_method_2_code
def yX5_iceAt : MethodName := ⟨RX5, "iceAt", "(LPrintedByFrost$Pane;III)I"⟩
abbrev cX5_shapeAt : ByteArray := prog_7_method_3_code
def yX5_shapeAt : MethodName := ⟨RX5, "shapeAt", "(LPrintedByFrost$Pane;II)I"⟩
abbrev cX5_shapeOnGlass : ByteArray := prog_7_method_4_code
def yX5_shapeOnGlass : MethodName := ⟨RX5, "shapeOnGlass", "(III)I"⟩
abbrev cX5_readAllHours : ByteArray := prog_7_method_5_code
def yX5_readAllHours : MethodName := ⟨RX5, "readAllHours", "(LPrintedByFrost$Pane;I)V"⟩
abbrev cX5_lastHour : ByteArray := prog_7_method_6_code
def yX5_lastHour : MethodName := ⟨RX5, "lastHour", "(LPrintedByFrost$Pane;I)I"⟩
abbrev cX5_firstHourAs : ByteArray := prog_7_method_7_code
def yX5_firstHourAs : MethodName := ⟨RX5, "firstHourAs", "(LPrintedByFrost$Pane;II)I"⟩
abbrev cX5_othersReadFor : ByteArray := prog_7_method_8_code
def yX5_othersReadFor : MethodName := ⟨RX5, "othersReadFor", "(I)I"⟩
abbrev cX5_lettersAmongReadings : ByteArray := prog_7_method_9_code
def yX5_lettersAmongReadings : MethodName := ⟨RX5, "lettersAmongReadings", "()I"⟩
abbrev cX5_panesRight : ByteArray := prog_7_method_10_code
def yX5_panesRight : MethodName := ⟨RX5, "panesRight", "(I)I"⟩
abbrev cX5_lettersThatShow : ByteArray := prog_7_method_11_code
def yX5_lettersThatShow : MethodName := ⟨RX5, "lettersThatShow", "(LPrintedByFrost$Pane;II)I"⟩
abbrev cX5_warmestRoom : ByteArray := prog_7_method_12_code
def yX5_warmestRoom : MethodName := ⟨RX5, "warmestRoom", "(LPrintedByFrost$Pane;II)I"⟩
abbrev cX5_leastCold : ByteArray := prog_7_method_13_code
def yX5_leastCold : MethodName := ⟨RX5, "leastCold", "(LPrintedByFrost$Pane;II)I"⟩
abbrev cX5_curtainsRead : ByteArray := prog_7_method_14_code
def yX5_curtainsRead : MethodName := ⟨RX5, "curtainsRead", "()I"⟩
abbrev cX5_firstPaperLead : ByteArray := prog_7_method_15_code
def yX5_firstPaperLead : MethodName := ⟨RX5, "firstPaperLead", "()I"⟩
abbrev cX5_takeDearest : ByteArray := prog_7_method_16_code
def yX5_takeDearest : MethodName := ⟨RX5, "takeDearest", "()I"⟩
abbrev cX5_worthOf : ByteArray := prog_7_method_17_code
def yX5_worthOf : MethodName := ⟨RX5, "worthOf", "(LPrintedByFrost$Pane;)I"⟩
abbrev cX5_noteRightLetters : ByteArray := prog_7_method_18_code
def yX5_noteRightLetters : MethodName := ⟨RX5, "noteRightLetters", "(LPrintedByFrost$Shelf;II)V"⟩
abbrev cX5_lettersRightOnGlass : ByteArray := prog_7_method_19_code
def yX5_lettersRightOnGlass : MethodName := ⟨RX5, "lettersRightOnGlass", "(LPrintedByFrost$Shelf;II)I"⟩
abbrev cX5_choosePanesFor : ByteArray := prog_7_method_20_code
def yX5_choosePanesFor : MethodName := ⟨RX5, "choosePanesFor", "(LPrintedByFrost$Shelf;I)V"⟩
abbrev cX5_isChosen : ByteArray := prog_7_method_21_code
def yX5_isChosen : MethodName := ⟨RX5, "isChosen", "(II)Z"⟩
abbrev cX5_rightBy : ByteArray := prog_7_method_22_code
def yX5_rightBy : MethodName := ⟨RX5, "rightBy", "(ILPrintedByFrost$Shelf;)I"⟩
abbrev cX5_chosenPane : ByteArray := prog_7_method_23_code
def yX5_chosenPane : MethodName := ⟨RX5, "chosenPane", "(I)I"⟩
def RX6 : String := "PrintedByFrost"
def TX6 : u_T := fun k => match k with
  | 0 => ("PrintedByFrost", "street", "LPrintedByFrost$Street;", true)
  | 1 => ("PrintedByFrost", "imaged", "LPrintedByFrost$Street;", true)
  | 2 => ("PrintedByFrost", "draft", "LPrintedByFrost$Street;", true)
  | 3 => ("PrintedByFrost", "thought", "LPrintedByFrost$Thought;", true)
  | 4 => ("PrintedByFrost", "shelves", "[LPrintedByFrost$Shelf;", true)
  | 5 => ("PrintedByFrost", "reader", "LPrintedByFrost$Reader;", true)
  | 6 => ("PrintedByFrost", "acts", "LPrintedByFrost$Acts;", true)
  | 7 => ("PrintedByFrost", "refusals", "[I", true)
  | _ => ("PrintedByFrost", "hasImage", "Z", false)
def tyX6 : Nat → FieldType := fun k => match k with
  | 0 => .object "PrintedByFrost$Street"
  | 1 => .object "PrintedByFrost$Street"
  | 2 => .object "PrintedByFrost$Street"
  | 3 => .object "PrintedByFrost$Thought"
  | 4 => .array (.object "PrintedByFrost$Shelf")
  | 5 => .object "PrintedByFrost$Reader"
  | 6 => .object "PrintedByFrost$Acts"
  | 7 => .array .int
  | _ => .boolean
abbrev wsX60 : List Cond := u_ws RX6 TX6 9
theorem nmX6 : ∀ a, a < 9 → ∀ b, b < 9 → a ≠ b → (TX6 a).2.1 ≠ (TX6 b).2.1 := by decide +kernel
theorem tyX6_ok : ∀ k, k < 9 → parseFieldDescriptor (TX6 k).2.2.1 = some (tyX6 k) := by decide +kernel
abbrev cX6_init : ByteArray := prog_1_method_1_code
def yX6_init : MethodName := ⟨RX6, "<init>", "()V"⟩
abbrev cX6_row : ByteArray := prog_1_method_2_code
def yX6_row : MethodName := ⟨RX6, "row", "(III)I"⟩
abbrev cX6_set : ByteArray := prog_1_method_3_code
def yX6_set : MethodName := ⟨RX6, "set", "(IIJ)I"⟩
abbrev cX6_copy : ByteArray := prog_1_method_4_code
def yX6_copy : MethodName := ⟨RX6, "copy", "(IIIII)I"⟩
abbrev cX6_element : ByteArray := prog_1_method_5_code
def yX6_element : MethodName := ⟨RX6, "element", "(II)J"⟩
abbrev cX6_show : ByteArray := prog_1_method_6_code
def yX6_show : MethodName := ⟨RX6, "show", "(II)I"⟩
abbrev cX6_holds : ByteArray := prog_1_method_7_code
def yX6_holds : MethodName := ⟨RX6, "holds", "(I)I"⟩
abbrev cX6_says : ByteArray := prog_1_method_8_code
def yX6_says : MethodName := ⟨RX6, "says", "(II)I"⟩
abbrev cX6_saidAs : ByteArray := prog_1_method_9_code
def yX6_saidAs : MethodName := ⟨RX6, "saidAs", "(LPrintedByFrost$Pane;I)I"⟩
abbrev cX6_shelfAt : ByteArray := prog_1_method_10_code
def yX6_shelfAt : MethodName := ⟨RX6, "shelfAt", "(I)LPrintedByFrost$Shelf;"⟩
abbrev cX6_lackOfRow : ByteArray := prog_1_method_11_code
def yX6_lackOfRow : MethodName := ⟨RX6, "lackOfRow", "(LPrintedByFrost$Shelf;)I"⟩
abbrev cX6_refuse : ByteArray := prog_1_method_12_code
def yX6_refuse : MethodName := ⟨RX6, "refuse", "(I)I"⟩
abbrev cX6_refuseNobody : ByteArray := prog_1_method_13_code
def yX6_refuseNobody : MethodName := ⟨RX6, "refuseNobody", "()I"⟩
abbrev cX6_refuseWrong : ByteArray := prog_1_method_14_code
def yX6_refuseWrong : MethodName := ⟨RX6, "refuseWrong", "()I"⟩
abbrev cX6_isHour : ByteArray := prog_1_method_15_code
def yX6_isHour : MethodName := ⟨RX6, "isHour", "(I)Z"⟩
abbrev cX6_isCell : ByteArray := prog_1_method_16_code
def yX6_isCell : MethodName := ⟨RX6, "isCell", "(I)Z"⟩
abbrev cX6_isShape : ByteArray := prog_1_method_17_code
def yX6_isShape : MethodName := ⟨RX6, "isShape", "(I)Z"⟩
abbrev cX6_form : ByteArray := prog_1_method_18_code
def yX6_form : MethodName := ⟨RX6, "form", "(I)I"⟩
abbrev cX6_formOf : ByteArray := prog_1_method_19_code
def yX6_formOf : MethodName := ⟨RX6, "formOf", "(I)I"⟩
abbrev cX6_pane : ByteArray := prog_1_method_20_code
def yX6_pane : MethodName := ⟨RX6, "pane", "(III)I"⟩
abbrev cX6_paneOf : ByteArray := prog_1_method_21_code
def yX6_paneOf : MethodName := ⟨RX6, "paneOf", "(II)I"⟩
abbrev cX6_hang : ByteArray := prog_1_method_22_code
def yX6_hang : MethodName := ⟨RX6, "hang", "(II)I"⟩
abbrev cX6_hangs : ByteArray := prog_1_method_23_code
def yX6_hangs : MethodName := ⟨RX6, "hangs", "(I)I"⟩
abbrev cX6_ask : ByteArray := prog_1_method_24_code
def yX6_ask : MethodName := ⟨RX6, "ask", "(II)I"⟩
abbrev cX6_room : ByteArray := prog_1_method_25_code
def yX6_room : MethodName := ⟨RX6, "room", "(II)I"⟩
abbrev cX6_press : ByteArray := prog_1_method_26_code
def yX6_press : MethodName := ⟨RX6, "press", "(I)I"⟩
abbrev cX6_fault : ByteArray := prog_1_method_27_code
def yX6_fault : MethodName := ⟨RX6, "fault", "()I"⟩
abbrev cX6_melt : ByteArray := prog_1_method_28_code
def yX6_melt : MethodName := ⟨RX6, "melt", "(II)I"⟩
abbrev cX6_ice : ByteArray := prog_1_method_29_code
def yX6_ice : MethodName := ⟨RX6, "ice", "(IIII)I"⟩
abbrev cX6_shape : ByteArray := prog_1_method_30_code
def yX6_shape : MethodName := ⟨RX6, "shape", "(III)I"⟩
abbrev cX6_reads : ByteArray := prog_1_method_31_code
def yX6_reads : MethodName := ⟨RX6, "reads", "(I)I"⟩
abbrev cX6_readsAs : ByteArray := prog_1_method_32_code
def yX6_readsAs : MethodName := ⟨RX6, "readsAs", "(III)I"⟩
abbrev cX6_lasts : ByteArray := prog_1_method_33_code
def yX6_lasts : MethodName := ⟨RX6, "lasts", "(II)I"⟩
abbrev cX6_page : ByteArray := prog_1_method_34_code
def yX6_page : MethodName := ⟨RX6, "page", "(I)I"⟩
abbrev cX6_prints : ByteArray := prog_1_method_35_code
def yX6_prints : MethodName := ⟨RX6, "prints", "(IIII)I"⟩
abbrev cX6_areLetters : ByteArray := prog_1_method_36_code
def yX6_areLetters : MethodName := ⟨RX6, "areLetters", "(LPrintedByFrost$Shelf;I)Z"⟩
abbrev cX6_becomes : ByteArray := prog_1_method_37_code
def yX6_becomes : MethodName := ⟨RX6, "becomes", "(I)I"⟩
abbrev cX6_turns : ByteArray := prog_1_method_38_code
def yX6_turns : MethodName := ⟨RX6, "turns", "(III)I"⟩
abbrev cX6_could : ByteArray := prog_1_method_39_code
def yX6_could : MethodName := ⟨RX6, "could", "(III)I"⟩
abbrev cX6_unlike : ByteArray := prog_1_method_40_code
def yX6_unlike : MethodName := ⟨RX6, "unlike", "(II)I"⟩
abbrev cX6_closest : ByteArray := prog_1_method_41_code
def yX6_closest : MethodName := ⟨RX6, "closest", "()I"⟩
abbrev cX6_mend : ByteArray := prog_1_method_42_code
def yX6_mend : MethodName := ⟨RX6, "mend", "(I)I"⟩
abbrev cX6_stove : ByteArray := prog_1_method_43_code
def yX6_stove : MethodName := ⟨RX6, "stove", "(III)I"⟩
abbrev cX6_chill : ByteArray := prog_1_method_44_code
def yX6_chill : MethodName := ⟨RX6, "chill", "(III)I"⟩
abbrev cX6_mistaken : ByteArray := prog_1_method_45_code
def yX6_mistaken : MethodName := ⟨RX6, "mistaken", "()I"⟩
abbrev cX6_let : ByteArray := prog_1_method_46_code
def yX6_let : MethodName := ⟨RX6, "let", "()I"⟩
abbrev cX6_night : ByteArray := prog_1_method_47_code
def yX6_night : MethodName := ⟨RX6, "night", "()I"⟩
abbrev cX6_hours : ByteArray := prog_1_method_48_code
def yX6_hours : MethodName := ⟨RX6, "hours", "(I)I"⟩
abbrev cX6_truth : ByteArray := prog_1_method_49_code
def yX6_truth : MethodName := ⟨RX6, "truth", "(II)I"⟩
abbrev cX6_readOf : ByteArray := prog_1_method_50_code
def yX6_readOf : MethodName := ⟨RX6, "readOf", "(I)I"⟩
abbrev cX6_breath : ByteArray := prog_1_method_51_code
def yX6_breath : MethodName := ⟨RX6, "breath", "(II)I"⟩
abbrev cX6_scratch : ByteArray := prog_1_method_52_code
def yX6_scratch : MethodName := ⟨RX6, "scratch", "(II)I"⟩
abbrev cX6_winter : ByteArray := prog_1_method_53_code
def yX6_winter : MethodName := ⟨RX6, "winter", "(I)I"⟩
abbrev cX6_seed : ByteArray := prog_1_method_54_code
def yX6_seed : MethodName := ⟨RX6, "seed", "(I)I"⟩
abbrev cX6_act : ByteArray := prog_1_method_55_code
def yX6_act : MethodName := ⟨RX6, "act", "(III)I"⟩
abbrev cX6_trace : ByteArray := prog_1_method_56_code
def yX6_trace : MethodName := ⟨RX6, "trace", "(I)I"⟩
abbrev cX6_image : ByteArray := prog_1_method_57_code
def yX6_image : MethodName := ⟨RX6, "image", "()I"⟩
abbrev cX6_restore : ByteArray := prog_1_method_58_code
def yX6_restore : MethodName := ⟨RX6, "restore", "()I"⟩
abbrev cX6_status : ByteArray := prog_1_method_59_code
def yX6_status : MethodName := ⟨RX6, "status", "(I)I"⟩
abbrev cX6_refusalsOf : ByteArray := prog_1_method_60_code
def yX6_refusalsOf : MethodName := ⟨RX6, "refusalsOf", "(I)I"⟩
def RX7 : String := "PrintedByFrostModel"
def TX7 : u_T := fun k => match k with
  | 0 => ("PrintedByFrostModel", "holding", "[I", true)
  | 1 => ("PrintedByFrostModel", "rowLength", "[I", true)
  | 2 => ("PrintedByFrostModel", "rowOf", "[J", true)
  | 3 => ("PrintedByFrostModel", "letters", "I", false)
  | 4 => ("PrintedByFrostModel", "form", "[I", true)
  | 5 => ("PrintedByFrostModel", "panes", "I", false)
  | 6 => ("PrintedByFrostModel", "kind", "[I", true)
  | 7 => ("PrintedByFrostModel", "room", "[I", true)
  | 8 => ("PrintedByFrostModel", "own", "[I", true)
  | 9 => ("PrintedByFrostModel", "hung", "[I", true)
  | 10 => ("PrintedByFrostModel", "scratched", "[I", true)
  | 11 => ("PrintedByFrostModel", "truth", "[I", true)
  | 12 => ("PrintedByFrostModel", "cold", "I", false)
  | 13 => ("PrintedByFrostModel", "wet", "I", false)
  | 14 => ("PrintedByFrostModel", "out", "I", false)
  | 15 => ("PrintedByFrostModel", "hour", "I", false)
  | 16 => ("PrintedByFrostModel", "editions", "I", false)
  | 17 => ("PrintedByFrostModel", "seed", "I", false)
  | 18 => ("PrintedByFrostModel", "fault", "I", false)
  | 19 => ("PrintedByFrostModel", "refusals", "[I", true)
  | 20 => ("PrintedByFrostModel", "traced", "I", false)
  | 21 => ("PrintedByFrostModel", "traces", "[I", true)
  | 22 => ("PrintedByFrostModel", "imaged", "Z", false)
  | 23 => ("PrintedByFrostModel", "old", "[I", true)
  | 24 => ("PrintedByFrostModel", "ice", "[I", true)
  | 25 => ("PrintedByFrostModel", "was", "[I", true)
  | 26 => ("PrintedByFrostModel", "reading", "I", false)
  | 27 => ("PrintedByFrostModel", "at", "I", false)
  | 28 => ("PrintedByFrostModel", "numbers", "[I", true)
  | 29 => ("PrintedByFrostModel", "choice", "[I", true)
  | _ => ("PrintedByFrostModel", "best", "[I", true)
def tyX7 : Nat → FieldType := fun k => match k with
  | 0 => .array .int
  | 1 => .array .int
  | 2 => .array .long
  | 3 => .int
  | 4 => .array .int
  | 5 => .int
  | 6 => .array .int
  | 7 => .array .int
  | 8 => .array .int
  | 9 => .array .int
  | 10 => .array .int
  | 11 => .array .int
  | 12 => .int
  | 13 => .int
  | 14 => .int
  | 15 => .int
  | 16 => .int
  | 17 => .int
  | 18 => .int
  | 19 => .array .int
  | 20 => .int
  | 21 => .array .int
  | 22 => .boolean
  | 23 => .array .int
  | 24 => .array .int
  | 25 => .array .int
  | 26 => .int
  | 27 => .int
  | 28 => .array .int
  | 29 => .array .int
  | _ => .array .int
abbrev wsX70 : List Cond := u_ws RX7 TX7 31
theorem nmX7 : ∀ a, a < 31 → ∀ b, b < 31 → a ≠ b → (TX7 a).2.1 ≠ (TX7 b).2.1 := by decide +kernel
theorem tyX7_ok : ∀ k, k < 31 → parseFieldDescriptor (TX7 k).2.2.1 = some (tyX7 k) := by decide +kernel
abbrev cX7_init : ByteArray := prog_9_method_1_code
def yX7_init : MethodName := ⟨RX7, "<init>", "()V"⟩
abbrev cX7_no : ByteArray := prog_9_method_2_code
def yX7_no : MethodName := ⟨RX7, "no", "(I)I"⟩
abbrev cX7_no10 : ByteArray := prog_9_method_3_code
def yX7_no10 : MethodName := ⟨RX7, "no10", "(I)I"⟩
abbrev cX7_within : ByteArray := prog_9_method_4_code
def yX7_within : MethodName := ⟨RX7, "within", "(III)Z"⟩
abbrev cX7_isPane : ByteArray := prog_9_method_5_code
def yX7_isPane : MethodName := ⟨RX7, "isPane", "(I)Z"⟩
abbrev cX7_isLetter : ByteArray := prog_9_method_6_code
def yX7_isLetter : MethodName := ⟨RX7, "isLetter", "(I)Z"⟩
abbrev cX7_isRow : ByteArray := prog_9_method_7_code
def yX7_isRow : MethodName := ⟨RX7, "isRow", "(I)Z"⟩
abbrev cX7_row : ByteArray := prog_9_method_8_code
def yX7_row : MethodName := ⟨RX7, "row", "(III)I"⟩
abbrev cX7_noRow : ByteArray := prog_9_method_9_code
def yX7_noRow : MethodName := ⟨RX7, "noRow", "(I)I"⟩
abbrev cX7_set : ByteArray := prog_9_method_10_code
def yX7_set : MethodName := ⟨RX7, "set", "(IIJ)I"⟩
abbrev cX7_copy : ByteArray := prog_9_method_11_code
def yX7_copy : MethodName := ⟨RX7, "copy", "(IIIII)I"⟩
abbrev cX7_element : ByteArray := prog_9_method_12_code
def yX7_element : MethodName := ⟨RX7, "element", "(II)J"⟩
abbrev cX7_show : ByteArray := prog_9_method_13_code
def yX7_show : MethodName := ⟨RX7, "show", "(II)I"⟩
abbrev cX7_holds : ByteArray := prog_9_method_14_code
def yX7_holds : MethodName := ⟨RX7, "holds", "(I)I"⟩
abbrev cX7_above : ByteArray := prog_9_method_15_code
def yX7_above : MethodName := ⟨RX7, "above", "(I)I"⟩
abbrev cX7_isUnder : ByteArray := prog_9_method_16_code
def yX7_isUnder : MethodName := ⟨RX7, "isUnder", "(II)Z"⟩
abbrev cX7_says : ByteArray := prog_9_method_17_code
def yX7_says : MethodName := ⟨RX7, "says", "(II)I"⟩
abbrev cX7_form : ByteArray := prog_9_method_18_code
def yX7_form : MethodName := ⟨RX7, "form", "(I)I"⟩
abbrev cX7_formOf : ByteArray := prog_9_method_19_code
def yX7_formOf : MethodName := ⟨RX7, "formOf", "(I)I"⟩
abbrev cX7_pane : ByteArray := prog_9_method_20_code
def yX7_pane : MethodName := ⟨RX7, "pane", "(III)I"⟩
abbrev cX7_paneOf : ByteArray := prog_9_method_21_code
def yX7_paneOf : MethodName := ⟨RX7, "paneOf", "(II)I"⟩
abbrev cX7_hang : ByteArray := prog_9_method_22_code
def yX7_hang : MethodName := ⟨RX7, "hang", "(II)I"⟩
abbrev cX7_hangs : ByteArray := prog_9_method_23_code
def yX7_hangs : MethodName := ⟨RX7, "hangs", "(I)I"⟩
abbrev cX7_ask : ByteArray := prog_9_method_24_code
def yX7_ask : MethodName := ⟨RX7, "ask", "(II)I"⟩
abbrev cX7_room : ByteArray := prog_9_method_25_code
def yX7_room : MethodName := ⟨RX7, "room", "(II)I"⟩
abbrev cX7_sign : ByteArray := prog_9_method_26_code
def yX7_sign : MethodName := ⟨RX7, "sign", "()I"⟩
abbrev cX7_is : ByteArray := prog_9_method_27_code
def yX7_is : MethodName := ⟨RX7, "is", "(C)Z"⟩
abbrev cX7_word : ByteArray := prog_9_method_28_code
def yX7_word : MethodName := ⟨RX7, "word", "(Ljava/lang/String;)Z"⟩
abbrev cX7_number : ByteArray := prog_9_method_29_code
def yX7_number : MethodName := ⟨RX7, "number", "(II)Z"⟩
abbrev cX7_word_ : ByteArray := prog_9_method_30_code
def yX7_word_ : MethodName := ⟨RX7, "word", "(Ljava/lang/String;Z)Z"⟩
abbrev cX7_item : ByteArray := prog_9_method_31_code
def yX7_item : MethodName := ⟨RX7, "item", "()Z"⟩
abbrev cX7_press : ByteArray := prog_9_method_32_code
def yX7_press : MethodName := ⟨RX7, "press", "(I)I"⟩
abbrev cX7_fault : ByteArray := prog_9_method_33_code
def yX7_fault : MethodName := ⟨RX7, "fault", "()I"⟩
abbrev cX7_sharp : ByteArray := prog_9_method_34_code
def yX7_sharp : MethodName := ⟨RX7, "sharp", "(I)I"⟩
abbrev cX7_pattern : ByteArray := prog_9_method_35_code
def yX7_pattern : MethodName := ⟨RX7, "pattern", "(II)I"⟩
abbrev cX7_freeze : ByteArray := prog_9_method_36_code
def yX7_freeze : MethodName := ⟨RX7, "freeze", "(II)V"⟩
abbrev cX7_melts : ByteArray := prog_9_method_37_code
def yX7_melts : MethodName := ⟨RX7, "melts", "(II)I"⟩
abbrev cX7_melting : ByteArray := prog_9_method_38_code
def yX7_melting : MethodName := ⟨RX7, "melting", "(II)V"⟩
abbrev cX7_shapeNow : ByteArray := prog_9_method_39_code
def yX7_shapeNow : MethodName := ⟨RX7, "shapeNow", "()I"⟩
abbrev cX7_shapeAt : ByteArray := prog_9_method_40_code
def yX7_shapeAt : MethodName := ⟨RX7, "shapeAt", "(III)I"⟩
abbrev cX7_read : ByteArray := prog_9_method_41_code
def yX7_read : MethodName := ⟨RX7, "read", "(I)I"⟩
abbrev cX7_readAt : ByteArray := prog_9_method_42_code
def yX7_readAt : MethodName := ⟨RX7, "readAt", "(III)I"⟩
abbrev cX7_melt : ByteArray := prog_9_method_43_code
def yX7_melt : MethodName := ⟨RX7, "melt", "(II)I"⟩
abbrev cX7_isLetterOrNone : ByteArray := prog_9_method_44_code
def yX7_isLetterOrNone : MethodName := ⟨RX7, "isLetterOrNone", "(I)Z"⟩
abbrev cX7_ice : ByteArray := prog_9_method_45_code
def yX7_ice : MethodName := ⟨RX7, "ice", "(IIII)I"⟩
abbrev cX7_shape : ByteArray := prog_9_method_46_code
def yX7_shape : MethodName := ⟨RX7, "shape", "(III)I"⟩
abbrev cX7_reads : ByteArray := prog_9_method_47_code
def yX7_reads : MethodName := ⟨RX7, "reads", "(I)I"⟩
abbrev cX7_readsAs : ByteArray := prog_9_method_48_code
def yX7_readsAs : MethodName := ⟨RX7, "readsAs", "(III)I"⟩
abbrev cX7_lasts : ByteArray := prog_9_method_49_code
def yX7_lasts : MethodName := ⟨RX7, "lasts", "(II)I"⟩
abbrev cX7_page : ByteArray := prog_9_method_50_code
def yX7_page : MethodName := ⟨RX7, "page", "(I)I"⟩
abbrev cX7_prints : ByteArray := prog_9_method_51_code
def yX7_prints : MethodName := ⟨RX7, "prints", "(IIII)I"⟩
abbrev cX7_becomes : ByteArray := prog_9_method_52_code
def yX7_becomes : MethodName := ⟨RX7, "becomes", "(I)I"⟩
abbrev cX7_turns : ByteArray := prog_9_method_53_code
def yX7_turns : MethodName := ⟨RX7, "turns", "(III)I"⟩
abbrev cX7_could : ByteArray := prog_9_method_54_code
def yX7_could : MethodName := ⟨RX7, "could", "(III)I"⟩
abbrev cX7_unlike : ByteArray := prog_9_method_55_code
def yX7_unlike : MethodName := ⟨RX7, "unlike", "(II)I"⟩
abbrev cX7_closest : ByteArray := prog_9_method_56_code
def yX7_closest : MethodName := ⟨RX7, "closest", "()I"⟩
abbrev cX7_mend : ByteArray := prog_9_method_57_code
def yX7_mend : MethodName := ⟨RX7, "mend", "(I)I"⟩
abbrev cX7_stove : ByteArray := prog_9_method_58_code
def yX7_stove : MethodName := ⟨RX7, "stove", "(III)I"⟩
abbrev cX7_chill : ByteArray := prog_9_method_59_code
def yX7_chill : MethodName := ⟨RX7, "chill", "(III)I"⟩
abbrev cX7_mistaken : ByteArray := prog_9_method_60_code
def yX7_mistaken : MethodName := ⟨RX7, "mistaken", "()I"⟩
abbrev cX7_let : ByteArray := prog_9_method_61_code
def yX7_let : MethodName := ⟨RX7, "let", "()I"⟩
abbrev cX7_night : ByteArray := prog_9_method_62_code
def yX7_night : MethodName := ⟨RX7, "night", "()I"⟩
abbrev cX7_load : ByteArray := prog_9_method_63_code
def yX7_load : MethodName := ⟨RX7, "load", "(I)V"⟩
abbrev cX7_hours : ByteArray := prog_9_method_64_code
def yX7_hours : MethodName := ⟨RX7, "hours", "(I)I"⟩
abbrev cX7_truth : ByteArray := prog_9_method_65_code
def yX7_truth : MethodName := ⟨RX7, "truth", "(II)I"⟩
abbrev cX7_readOf : ByteArray := prog_9_method_66_code
def yX7_readOf : MethodName := ⟨RX7, "readOf", "(I)I"⟩
abbrev cX7_breath : ByteArray := prog_9_method_67_code
def yX7_breath : MethodName := ⟨RX7, "breath", "(II)I"⟩
abbrev cX7_scratch : ByteArray := prog_9_method_68_code
def yX7_scratch : MethodName := ⟨RX7, "scratch", "(II)I"⟩
abbrev cX7_draw : ByteArray := prog_9_method_69_code
def yX7_draw : MethodName := ⟨RX7, "draw", "(I)I"⟩
abbrev cX7_winter : ByteArray := prog_9_method_70_code
def yX7_winter : MethodName := ⟨RX7, "winter", "(I)I"⟩
abbrev cX7_seed : ByteArray := prog_9_method_71_code
def yX7_seed : MethodName := ⟨RX7, "seed", "(I)I"⟩
abbrev cX7_ran : ByteArray := prog_9_method_72_code
def yX7_ran : MethodName := ⟨RX7, "ran", "(I)V"⟩
abbrev cX7_freezes : ByteArray := prog_9_method_73_code
def yX7_freezes : MethodName := ⟨RX7, "freezes", "(II)I"⟩
abbrev cX7_melts0 : ByteArray := prog_9_method_74_code
def yX7_melts0 : MethodName := ⟨RX7, "melts0", "(II)I"⟩
abbrev cX7_melts2 : ByteArray := prog_9_method_75_code
def yX7_melts2 : MethodName := ⟨RX7, "melts2", "(II)I"⟩
abbrev cX7_melts3 : ByteArray := prog_9_method_76_code
def yX7_melts3 : MethodName := ⟨RX7, "melts3", "(II)I"⟩
abbrev cX7_meltsAct : ByteArray := prog_9_method_77_code
def yX7_meltsAct : MethodName := ⟨RX7, "meltsAct", "(II)I"⟩
abbrev cX7_shows0 : ByteArray := prog_9_method_78_code
def yX7_shows0 : MethodName := ⟨RX7, "shows0", "(II)I"⟩
abbrev cX7_shows : ByteArray := prog_9_method_79_code
def yX7_shows : MethodName := ⟨RX7, "shows", "(II)I"⟩
abbrev cX7_act : ByteArray := prog_9_method_80_code
def yX7_act : MethodName := ⟨RX7, "act", "(III)I"⟩
abbrev cX7_trace : ByteArray := prog_9_method_81_code
def yX7_trace : MethodName := ⟨RX7, "trace", "(I)I"⟩
abbrev cX7_image : ByteArray := prog_9_method_82_code
def yX7_image : MethodName := ⟨RX7, "image", "()I"⟩
abbrev cX7_restore : ByteArray := prog_9_method_83_code
def yX7_restore : MethodName := ⟨RX7, "restore", "()I"⟩
abbrev cX7_status : ByteArray := prog_9_method_84_code
def yX7_status : MethodName := ⟨RX7, "status", "(I)I"⟩
def RJ6 : String := "java/lang/Integer"
def TJ6 : u_T := fun k => match k with
  | _ => ("", "", "", false)
def tyJ6 : Nat → FieldType := fun k => match k with
  | _ => .int
abbrev wsJ60 : List Cond := u_ws RJ6 TJ6 0
theorem nmJ6 : ∀ a, a < 0 → ∀ b, b < 0 → a ≠ b → (TJ6 a).2.1 ≠ (TJ6 b).2.1 := by decide +kernel
theorem tyJ6_ok : ∀ k, k < 0 → parseFieldDescriptor (TJ6 k).2.2.1 = some (tyJ6 k) := by decide +kernel
abbrev cJ6_bitCount_0f7a4 : ByteArray := prog_10_method_49_code
def yJ6_bitCount_0f7a4 : MethodName := ⟨RJ6, "bitCount", "(I)I"⟩
def RJ9 : String := "java/lang/Math"
def TJ9 : u_T := fun k => match k with
  | _ => ("", "", "", false)
def tyJ9 : Nat → FieldType := fun k => match k with
  | _ => .int
abbrev wsJ90 : List Cond := u_ws RJ9 TJ9 0
theorem nmJ9 : ∀ a, a < 0 → ∀ b, b < 0 → a ≠ b → (TJ9 a).2.1 ≠ (TJ9 b).2.1 := by decide +kernel
theorem tyJ9_ok : ∀ k, k < 0 → parseFieldDescriptor (TJ9 k).2.2.1 = some (tyJ9 k) := by decide +kernel
abbrev cJ9_abs_0f7a4 : ByteArray := prog_11_method_59_code
def yJ9_abs_0f7a4 : MethodName := ⟨RJ9, "abs", "(I)I"⟩
abbrev cJ9_max_7cf53 : ByteArray := prog_11_method_65_code
def yJ9_max_7cf53 : MethodName := ⟨RJ9, "max", "(II)I"⟩
abbrev cJ9_min_7cf53 : ByteArray := prog_11_method_69_code
def yJ9_min_7cf53 : MethodName := ⟨RJ9, "min", "(II)I"⟩
def RJ0 : String := "java/lang/String"
def TJ0 : u_T := fun k => match k with
  | _ => ("", "", "", false)
def tyJ0 : Nat → FieldType := fun k => match k with
  | _ => .int
abbrev wsJ00 : List Cond := u_ws RJ0 TJ0 0
theorem nmJ0 : ∀ a, a < 0 → ∀ b, b < 0 → a ≠ b → (TJ0 a).2.1 ≠ (TJ0 b).2.1 := by decide +kernel
theorem tyJ0_ok : ∀ k, k < 0 → parseFieldDescriptor (TJ0 k).2.2.1 = some (tyJ0 k) := by decide +kernel
abbrev cJ0_length_8abf5 : ByteArray := prog_12_method_54_code
def yJ0_length_8abf5 : MethodName := ⟨RJ0, "length", "()I"⟩
abbrev cJ0_charAt_5068e : ByteArray := prog_12_method_56_code
def yJ0_charAt_5068e : MethodName := ⟨RJ0, "charAt", "(I)C"⟩
abbrev cJ0_coder_7d493 : ByteArray := prog_12_method_152_code
def yJ0_coder_7d493 : MethodName := ⟨RJ0, "coder", "()B"⟩
abbrev cJ0_isLatin1_aae02 : ByteArray := prog_12_method_154_code
def yJ0_isLatin1_aae02 : MethodName := ⟨RJ0, "isLatin1", "()Z"⟩
abbrev cJ0_checkIndex_df160 : ByteArray := prog_12_method_155_code
def yJ0_checkIndex_df160 : MethodName := ⟨RJ0, "checkIndex", "(II)V"⟩
def RJ1 : String := "java/lang/StringLatin1"
def TJ1 : u_T := fun k => match k with
  | _ => ("", "", "", false)
def tyJ1 : Nat → FieldType := fun k => match k with
  | _ => .int
abbrev wsJ10 : List Cond := u_ws RJ1 TJ1 0
theorem nmJ1 : ∀ a, a < 0 → ∀ b, b < 0 → a ≠ b → (TJ1 a).2.1 ≠ (TJ1 b).2.1 := by decide +kernel
theorem tyJ1_ok : ∀ k, k < 0 → parseFieldDescriptor (TJ1 k).2.2.1 = some (tyJ1 k) := by decide +kernel
abbrev cJ1_charAt_3b067 : ByteArray := prog_13_method_2_code
def yJ1_charAt_3b067 : MethodName := ⟨RJ1, "charAt", "([BI)C"⟩
def RJ2 : String := "java/lang/StringUTF16"
def TJ2 : u_T := fun k => match k with
  | _ => ("", "", "", false)
def tyJ2 : Nat → FieldType := fun k => match k with
  | _ => .int
abbrev wsJ20 : List Cond := u_ws RJ2 TJ2 0
theorem nmJ2 : ∀ a, a < 0 → ∀ b, b < 0 → a ≠ b → (TJ2 a).2.1 ≠ (TJ2 b).2.1 := by decide +kernel
theorem tyJ2_ok : ∀ k, k < 0 → parseFieldDescriptor (TJ2 k).2.2.1 = some (tyJ2 k) := by decide +kernel
abbrev cJ2_getChar_3b067 : ByteArray := prog_14_method_5_code
def yJ2_getChar_3b067 : MethodName := ⟨RJ2, "getChar", "([BI)C"⟩
abbrev cJ2_length_9d52b : ByteArray := prog_14_method_6_code
def yJ2_length_9d52b : MethodName := ⟨RJ2, "length", "([B)I"⟩
abbrev cJ2_charAt_3b067 : ByteArray := prog_14_method_83_code
def yJ2_charAt_3b067 : MethodName := ⟨RJ2, "charAt", "([BI)C"⟩
abbrev cJ2_checkIndex_2214a : ByteArray := prog_14_method_91_code
def yJ2_checkIndex_2214a : MethodName := ⟨RJ2, "checkIndex", "(I[B)V"⟩
def RJ3 : String := "jdk/internal/util/Preconditions"
def TJ3 : u_T := fun k => match k with
  | _ => ("", "", "", false)
def tyJ3 : Nat → FieldType := fun k => match k with
  | _ => .int
abbrev wsJ30 : List Cond := u_ws RJ3 TJ3 0
theorem nmJ3 : ∀ a, a < 0 → ∀ b, b < 0 → a ≠ b → (TJ3 a).2.1 ≠ (TJ3 b).2.1 := by decide +kernel
theorem tyJ3_ok : ∀ k, k < 0 → parseFieldDescriptor (TJ3 k).2.2.1 = some (tyJ3 k) := by decide +kernel
abbrev cJ3_checkIndex_8e157 : ByteArray := prog_15_method_11_code
def yJ3_checkIndex_8e157 : MethodName := ⟨RJ3, "checkIndex", "(IILjava/util/function/BiFunction;)I"⟩
def RL : String := "PrintedByFrostLaw"
abbrev cL_law : ByteArray := code
def yL_law : MethodName := ⟨RL, "law", "([I)Z"⟩
abbrev vwCl : List vw_C := [(RX0, TX0, 5), (RX1, TX1, 6), (RX2, TX2, 3), (RX3, TX3, 5), (RX4, TX4, 10), (RX5, TX5, 7), (RX6, TX6, 9), (RX7, TX7, 31)]
end
section
theorem dX0_init_0 : decode cX0_init 0 = .ok (.aload_n 0, 1) := by decide +kernel
theorem dX0_init_1 : decode cX0_init 1 = .ok (.invokespecial 3, 3) := by decide +kernel
theorem dX0_init_4 : decode cX0_init 4 = .ok (.aload_n 0, 1) := by decide +kernel
theorem dX0_init_5 : decode cX0_init 5 = .ok (.bipush 20, 2) := by decide +kernel
theorem dX0_init_7 : decode cX0_init 7 = .ok (.newarray .int, 2) := by decide +kernel
theorem dX0_init_9 : decode cX0_init 9 = .ok (.putfield 9, 3) := by decide +kernel
theorem dX0_init_12 : decode cX0_init 12 = .ok (.aload_n 0, 1) := by decide +kernel
theorem dX0_init_13 : decode cX0_init 13 = .ok (.iconst 0, 1) := by decide +kernel
theorem dX0_init_14 : decode cX0_init 14 = .ok (.putfield 15, 3) := by decide +kernel
theorem dX0_init_17 : decode cX0_init 17 = .ok (.aload_n 0, 1) := by decide +kernel
theorem dX0_init_18 : decode cX0_init 18 = .ok (.iconst 0, 1) := by decide +kernel
theorem dX0_init_19 : decode cX0_init 19 = .ok (.putfield 19, 3) := by decide +kernel
theorem dX0_init_22 : decode cX0_init 22 = .ok (.aload_n 0, 1) := by decide +kernel
theorem dX0_init_23 : decode cX0_init 23 = .ok (.iconst 0, 1) := by decide +kernel
theorem dX0_init_24 : decode cX0_init 24 = .ok (.putfield 22, 3) := by decide +kernel
theorem dX0_init_27 : decode cX0_init 27 = .ok (.aload_n 0, 1) := by decide +kernel
theorem dX0_init_28 : decode cX0_init 28 = .ok (.iconst 0, 1) := by decide +kernel
theorem dX0_init_29 : decode cX0_init 29 = .ok (.putfield 25, 3) := by decide +kernel
theorem dX0_init_32 : decode cX0_init 32 = .ok (.return_, 1) := by decide +kernel
theorem dX0_isAct_0 : decode cX0_isAct 0 = .ok (.iload_n 0, 1) := by decide +kernel
theorem dX0_isAct_1 : decode cX0_isAct 1 = .ok (.ifCond .lt 12, 3) := by decide +kernel
theorem dX0_isAct_4 : decode cX0_isAct 4 = .ok (.iload_n 0, 1) := by decide +kernel
theorem dX0_isAct_5 : decode cX0_isAct 5 = .ok (.iconst 2, 1) := by decide +kernel
theorem dX0_isAct_6 : decode cX0_isAct 6 = .ok (.if_icmp .gt 7, 3) := by decide +kernel
theorem dX0_isAct_9 : decode cX0_isAct 9 = .ok (.iconst 1, 1) := by decide +kernel
theorem dX0_isAct_10 : decode cX0_isAct 10 = .ok (.goto 4, 3) := by decide +kernel
theorem dX0_isAct_13 : decode cX0_isAct 13 = .ok (.iconst 0, 1) := by decide +kernel
theorem dX0_isAct_14 : decode cX0_isAct 14 = .ok (.ireturn, 1) := by decide +kernel
theorem dX0_forget_0 : decode cX0_forget 0 = .ok (.aload_n 0, 1) := by decide +kernel
theorem dX0_forget_1 : decode cX0_forget 1 = .ok (.iconst 0, 1) := by decide +kernel
theorem dX0_forget_2 : decode cX0_forget 2 = .ok (.putfield 15, 3) := by decide +kernel
theorem dX0_forget_5 : decode cX0_forget 5 = .ok (.return_, 1) := by decide +kernel
theorem dX0_perform_0 : decode cX0_perform 0 = .ok (.aload_n 0, 1) := by decide +kernel
theorem dX0_perform_1 : decode cX0_perform 1 = .ok (.aload_n 1, 1) := by decide +kernel
theorem dX0_perform_2 : decode cX0_perform 2 = .ok (.getfield 28, 3) := by decide +kernel
theorem dX0_perform_5 : decode cX0_perform 5 = .ok (.putfield 19, 3) := by decide +kernel
theorem dX0_perform_8 : decode cX0_perform 8 = .ok (.aload_n 0, 1) := by decide +kernel
theorem dX0_perform_9 : decode cX0_perform 9 = .ok (.iload_n 2, 1) := by decide +kernel
theorem dX0_perform_10 : decode cX0_perform 10 = .ok (.putfield 22, 3) := by decide +kernel
theorem dX0_perform_13 : decode cX0_perform 13 = .ok (.aload_n 0, 1) := by decide +kernel
theorem dX0_perform_14 : decode cX0_perform 14 = .ok (.aload_n 1, 1) := by decide +kernel
theorem dX0_perform_15 : decode cX0_perform 15 = .ok (.getfield 31, 3) := by decide +kernel
theorem dX0_perform_18 : decode cX0_perform 18 = .ok (.putfield 25, 3) := by decide +kernel
theorem dX0_perform_21 : decode cX0_perform 21 = .ok (.aload_n 0, 1) := by decide +kernel
theorem dX0_perform_22 : decode cX0_perform 22 = .ok (.iload_n 3, 1) := by decide +kernel
theorem dX0_perform_23 : decode cX0_perform 23 = .ok (.aload_n 0, 1) := by decide +kernel
theorem dX0_perform_24 : decode cX0_perform 24 = .ok (.getfield 19, 3) := by decide +kernel
theorem dX0_perform_27 : decode cX0_perform 27 = .ok (.iload 4, 2) := by decide +kernel
theorem dX0_perform_29 : decode cX0_perform 29 = .ok (.iconst 0, 1) := by decide +kernel
theorem dX0_perform_30 : decode cX0_perform 30 = .ok (.invokestatic 32, 3) := by decide +kernel
theorem dX0_perform_33 : decode cX0_perform 33 = .ok (.ireturn, 1) := by decide +kernel
theorem dX0_bodyAt_0 : decode cX0_bodyAt 0 = .ok (.iload_n 1, 1) := by decide +kernel
theorem dX0_bodyAt_1 : decode cX0_bodyAt 1 = .ok (.ifCond .lt 29, 3) := by decide +kernel
theorem dX0_bodyAt_4 : decode cX0_bodyAt 4 = .ok (.iload_n 1, 1) := by decide +kernel
theorem dX0_bodyAt_5 : decode cX0_bodyAt 5 = .ok (.aload_n 0, 1) := by decide +kernel
theorem dX0_bodyAt_6 : decode cX0_bodyAt 6 = .ok (.getfield 15, 3) := by decide +kernel
theorem dX0_bodyAt_9 : decode cX0_bodyAt 9 = .ok (.if_icmp .ge 21, 3) := by decide +kernel
theorem dX0_bodyAt_12 : decode cX0_bodyAt 12 = .ok (.iload_n 1, 1) := by decide +kernel
theorem dX0_bodyAt_13 : decode cX0_bodyAt 13 = .ok (.aload_n 0, 1) := by decide +kernel
theorem dX0_bodyAt_14 : decode cX0_bodyAt 14 = .ok (.getfield 9, 3) := by decide +kernel
theorem dX0_bodyAt_17 : decode cX0_bodyAt 17 = .ok (.arraylength, 1) := by decide +kernel
theorem dX0_bodyAt_18 : decode cX0_bodyAt 18 = .ok (.if_icmp .ge 12, 3) := by decide +kernel
theorem dX0_bodyAt_21 : decode cX0_bodyAt 21 = .ok (.aload_n 0, 1) := by decide +kernel
theorem dX0_bodyAt_22 : decode cX0_bodyAt 22 = .ok (.getfield 9, 3) := by decide +kernel
theorem dX0_bodyAt_25 : decode cX0_bodyAt 25 = .ok (.iload_n 1, 1) := by decide +kernel
theorem dX0_bodyAt_26 : decode cX0_bodyAt 26 = .ok (.iaload, 1) := by decide +kernel
theorem dX0_bodyAt_27 : decode cX0_bodyAt 27 = .ok (.goto 4, 3) := by decide +kernel
theorem dX0_bodyAt_30 : decode cX0_bodyAt 30 = .ok (.iconst (-1), 1) := by decide +kernel
theorem dX0_bodyAt_31 : decode cX0_bodyAt 31 = .ok (.ireturn, 1) := by decide +kernel
theorem dX0_note_0 : decode cX0_note 0 = .ok (.aload_n 0, 1) := by decide +kernel
theorem dX0_note_1 : decode cX0_note 1 = .ok (.getfield 15, 3) := by decide +kernel
theorem dX0_note_4 : decode cX0_note 4 = .ok (.ifCond .lt 25, 3) := by decide +kernel
theorem dX0_note_7 : decode cX0_note 7 = .ok (.aload_n 0, 1) := by decide +kernel
theorem dX0_note_8 : decode cX0_note 8 = .ok (.getfield 15, 3) := by decide +kernel
theorem dX0_note_11 : decode cX0_note 11 = .ok (.aload_n 0, 1) := by decide +kernel
theorem dX0_note_12 : decode cX0_note 12 = .ok (.getfield 9, 3) := by decide +kernel
theorem dX0_note_15 : decode cX0_note 15 = .ok (.arraylength, 1) := by decide +kernel
theorem dX0_note_16 : decode cX0_note 16 = .ok (.if_icmp .ge 13, 3) := by decide +kernel
theorem dX0_note_19 : decode cX0_note 19 = .ok (.aload_n 0, 1) := by decide +kernel
theorem dX0_note_20 : decode cX0_note 20 = .ok (.getfield 9, 3) := by decide +kernel
theorem dX0_note_23 : decode cX0_note 23 = .ok (.aload_n 0, 1) := by decide +kernel
theorem dX0_note_24 : decode cX0_note 24 = .ok (.getfield 15, 3) := by decide +kernel
theorem dX0_note_27 : decode cX0_note 27 = .ok (.iload_n 1, 1) := by decide +kernel
theorem dX0_note_28 : decode cX0_note 28 = .ok (.iastore, 1) := by decide +kernel
theorem dX0_note_29 : decode cX0_note 29 = .ok (.aload_n 0, 1) := by decide +kernel
theorem dX0_note_30 : decode cX0_note 30 = .ok (.dup, 1) := by decide +kernel
theorem dX0_note_31 : decode cX0_note 31 = .ok (.getfield 15, 3) := by decide +kernel
theorem dX0_note_34 : decode cX0_note 34 = .ok (.iconst 1, 1) := by decide +kernel
theorem dX0_note_35 : decode cX0_note 35 = .ok (.iadd, 1) := by decide +kernel
theorem dX0_note_36 : decode cX0_note 36 = .ok (.putfield 15, 3) := by decide +kernel
theorem dX0_note_39 : decode cX0_note 39 = .ok (.return_, 1) := by decide +kernel
theorem dX0_bodyFor_0 : decode cX0_bodyFor 0 = .ok (.iload_n 1, 1) := by decide +kernel
theorem dX0_bodyFor_1 : decode cX0_bodyFor 1 = .ok (.istore_n 2, 1) := by decide +kernel
theorem dX0_bodyFor_2 : decode cX0_bodyFor 2 = .ok (.iconst 0, 1) := by decide +kernel
theorem dX0_bodyFor_3 : decode cX0_bodyFor 3 = .ok (.istore_n 3, 1) := by decide +kernel
theorem dX0_bodyFor_4 : decode cX0_bodyFor 4 = .ok (.iload_n 3, 1) := by decide +kernel
theorem dX0_bodyFor_5 : decode cX0_bodyFor 5 = .ok (.getstatic 36, 3) := by decide +kernel
theorem dX0_bodyFor_8 : decode cX0_bodyFor 8 = .ok (.arraylength, 1) := by decide +kernel
theorem dX0_bodyFor_9 : decode cX0_bodyFor 9 = .ok (.if_icmp .ge 29, 3) := by decide +kernel
theorem dX0_bodyFor_12 : decode cX0_bodyFor 12 = .ok (.iload_n 0, 1) := by decide +kernel
theorem dX0_bodyFor_13 : decode cX0_bodyFor 13 = .ok (.iload_n 2, 1) := by decide +kernel
theorem dX0_bodyFor_14 : decode cX0_bodyFor 14 = .ok (.invokestatic 39, 3) := by decide +kernel
theorem dX0_bodyFor_17 : decode cX0_bodyFor 17 = .ok (.istore 4, 2) := by decide +kernel
theorem dX0_bodyFor_19 : decode cX0_bodyFor 19 = .ok (.iload 4, 2) := by decide +kernel
theorem dX0_bodyFor_21 : decode cX0_bodyFor 21 = .ok (.ifCond .eq 6, 3) := by decide +kernel
theorem dX0_bodyFor_24 : decode cX0_bodyFor 24 = .ok (.iload 4, 2) := by decide +kernel
theorem dX0_bodyFor_26 : decode cX0_bodyFor 26 = .ok (.ireturn, 1) := by decide +kernel
theorem dX0_bodyFor_27 : decode cX0_bodyFor 27 = .ok (.iload_n 2, 1) := by decide +kernel
theorem dX0_bodyFor_28 : decode cX0_bodyFor 28 = .ok (.invokestatic 43, 3) := by decide +kernel
theorem dX0_bodyFor_31 : decode cX0_bodyFor 31 = .ok (.istore_n 2, 1) := by decide +kernel
theorem dX0_bodyFor_32 : decode cX0_bodyFor 32 = .ok (.iinc 3 1, 3) := by decide +kernel
theorem dX0_bodyFor_35 : decode cX0_bodyFor 35 = .ok (.goto (-31), 3) := by decide +kernel
theorem dX0_bodyFor_38 : decode cX0_bodyFor 38 = .ok (.iconst 0, 1) := by decide +kernel
theorem dX0_bodyFor_39 : decode cX0_bodyFor 39 = .ok (.ireturn, 1) := by decide +kernel
theorem dX0_ownBody_0 : decode cX0_ownBody 0 = .ok (.iload_n 0, 1) := by decide +kernel
theorem dX0_ownBody_1 : decode cX0_ownBody 1 = .ok (.lookupswitch 71 #[(0, 27), (1, 49)], 27) := by decide +kernel
theorem dX0_ownBody_28 : decode cX0_ownBody 28 = .ok (.iload_n 1, 1) := by decide +kernel
theorem dX0_ownBody_29 : decode cX0_ownBody 29 = .ok (.ifCond .lt 19, 3) := by decide +kernel
theorem dX0_ownBody_32 : decode cX0_ownBody 32 = .ok (.iload_n 1, 1) := by decide +kernel
theorem dX0_ownBody_33 : decode cX0_ownBody 33 = .ok (.getstatic 36, 3) := by decide +kernel
theorem dX0_ownBody_36 : decode cX0_ownBody 36 = .ok (.arraylength, 1) := by decide +kernel
theorem dX0_ownBody_37 : decode cX0_ownBody 37 = .ok (.if_icmp .ge 11, 3) := by decide +kernel
theorem dX0_ownBody_40 : decode cX0_ownBody 40 = .ok (.getstatic 36, 3) := by decide +kernel
theorem dX0_ownBody_43 : decode cX0_ownBody 43 = .ok (.iload_n 1, 1) := by decide +kernel
theorem dX0_ownBody_44 : decode cX0_ownBody 44 = .ok (.iaload, 1) := by decide +kernel
theorem dX0_ownBody_45 : decode cX0_ownBody 45 = .ok (.goto 4, 3) := by decide +kernel
theorem dX0_ownBody_48 : decode cX0_ownBody 48 = .ok (.iconst 0, 1) := by decide +kernel
theorem dX0_ownBody_49 : decode cX0_ownBody 49 = .ok (.ireturn, 1) := by decide +kernel
theorem dX0_ownBody_50 : decode cX0_ownBody 50 = .ok (.iload_n 1, 1) := by decide +kernel
theorem dX0_ownBody_51 : decode cX0_ownBody 51 = .ok (.ifCond .lt 19, 3) := by decide +kernel
theorem dX0_ownBody_54 : decode cX0_ownBody 54 = .ok (.iload_n 1, 1) := by decide +kernel
theorem dX0_ownBody_55 : decode cX0_ownBody 55 = .ok (.getstatic 47, 3) := by decide +kernel
theorem dX0_ownBody_58 : decode cX0_ownBody 58 = .ok (.arraylength, 1) := by decide +kernel
theorem dX0_ownBody_59 : decode cX0_ownBody 59 = .ok (.if_icmp .ge 11, 3) := by decide +kernel
theorem dX0_ownBody_62 : decode cX0_ownBody 62 = .ok (.getstatic 47, 3) := by decide +kernel
theorem dX0_ownBody_65 : decode cX0_ownBody 65 = .ok (.iload_n 1, 1) := by decide +kernel
theorem dX0_ownBody_66 : decode cX0_ownBody 66 = .ok (.iaload, 1) := by decide +kernel
theorem dX0_ownBody_67 : decode cX0_ownBody 67 = .ok (.goto 4, 3) := by decide +kernel
theorem dX0_ownBody_70 : decode cX0_ownBody 70 = .ok (.iconst 0, 1) := by decide +kernel
theorem dX0_ownBody_71 : decode cX0_ownBody 71 = .ok (.ireturn, 1) := by decide +kernel
theorem dX0_ownBody_72 : decode cX0_ownBody 72 = .ok (.iload_n 1, 1) := by decide +kernel
theorem dX0_ownBody_73 : decode cX0_ownBody 73 = .ok (.ifCond .lt 19, 3) := by decide +kernel
theorem dX0_ownBody_76 : decode cX0_ownBody 76 = .ok (.iload_n 1, 1) := by decide +kernel
theorem dX0_ownBody_77 : decode cX0_ownBody 77 = .ok (.getstatic 50, 3) := by decide +kernel
theorem dX0_ownBody_80 : decode cX0_ownBody 80 = .ok (.arraylength, 1) := by decide +kernel
theorem dX0_ownBody_81 : decode cX0_ownBody 81 = .ok (.if_icmp .ge 11, 3) := by decide +kernel
theorem dX0_ownBody_84 : decode cX0_ownBody 84 = .ok (.getstatic 50, 3) := by decide +kernel
theorem dX0_ownBody_87 : decode cX0_ownBody 87 = .ok (.iload_n 1, 1) := by decide +kernel
theorem dX0_ownBody_88 : decode cX0_ownBody 88 = .ok (.iaload, 1) := by decide +kernel
theorem dX0_ownBody_89 : decode cX0_ownBody 89 = .ok (.goto 4, 3) := by decide +kernel
theorem dX0_ownBody_92 : decode cX0_ownBody 92 = .ok (.iconst 0, 1) := by decide +kernel
theorem dX0_ownBody_93 : decode cX0_ownBody 93 = .ok (.ireturn, 1) := by decide +kernel
theorem dX0_run_0 : decode cX0_run 0 = .ok (.iload 4, 2) := by decide +kernel
theorem dX0_run_2 : decode cX0_run 2 = .ok (.bipush 40, 2) := by decide +kernel
theorem dX0_run_4 : decode cX0_run 4 = .ok (.if_icmp .lt 5, 3) := by decide +kernel
theorem dX0_run_7 : decode cX0_run 7 = .ok (.iconst 0, 1) := by decide +kernel
theorem dX0_run_8 : decode cX0_run 8 = .ok (.ireturn, 1) := by decide +kernel
theorem dX0_run_9 : decode cX0_run 9 = .ok (.iload 4, 2) := by decide +kernel
theorem dX0_run_11 : decode cX0_run 11 = .ok (.iconst 1, 1) := by decide +kernel
theorem dX0_run_12 : decode cX0_run 12 = .ok (.iadd, 1) := by decide +kernel
theorem dX0_run_13 : decode cX0_run 13 = .ok (.istore 5, 2) := by decide +kernel
theorem dX0_run_15 : decode cX0_run 15 = .ok (.iload_n 1, 1) := by decide +kernel
theorem dX0_run_16 : decode cX0_run 16 = .ok (.iload_n 2, 1) := by decide +kernel
theorem dX0_run_17 : decode cX0_run 17 = .ok (.invokestatic 53, 3) := by decide +kernel
theorem dX0_run_20 : decode cX0_run 20 = .ok (.istore 6, 2) := by decide +kernel
theorem dX0_run_22 : decode cX0_run 22 = .ok (.aload_n 0, 1) := by decide +kernel
theorem dX0_run_23 : decode cX0_run 23 = .ok (.iload 6, 2) := by decide +kernel
theorem dX0_run_25 : decode cX0_run 25 = .ok (.invokevirtual 56, 3) := by decide +kernel
theorem dX0_run_28 : decode cX0_run 28 = .ok (.iload 6, 2) := by decide +kernel
theorem dX0_run_30 : decode cX0_run 30 = .ok (.lookupswitch 255 #[(10, 98), (11, 105), (12, 120), (20, 151), (30, 166), (40, 178), (50, 190), (51, 201), (60, 216), (70, 228), (71, 240)], 98) := by decide +kernel
theorem dX0_run_128 : decode cX0_run 128 = .ok (.iload_n 3, 1) := by decide +kernel
theorem dX0_run_129 : decode cX0_run 129 = .ok (.aload_n 0, 1) := by decide +kernel
theorem dX0_run_130 : decode cX0_run 130 = .ok (.getfield 22, 3) := by decide +kernel
theorem dX0_run_133 : decode cX0_run 133 = .ok (.iadd, 1) := by decide +kernel
theorem dX0_run_134 : decode cX0_run 134 = .ok (.ireturn, 1) := by decide +kernel
theorem dX0_run_135 : decode cX0_run 135 = .ok (.aload_n 0, 1) := by decide +kernel
theorem dX0_run_136 : decode cX0_run 136 = .ok (.iconst 0, 1) := by decide +kernel
theorem dX0_run_137 : decode cX0_run 137 = .ok (.aload_n 0, 1) := by decide +kernel
theorem dX0_run_138 : decode cX0_run 138 = .ok (.getfield 19, 3) := by decide +kernel
theorem dX0_run_141 : decode cX0_run 141 = .ok (.iload_n 3, 1) := by decide +kernel
theorem dX0_run_142 : decode cX0_run 142 = .ok (.iload 5, 2) := by decide +kernel
theorem dX0_run_144 : decode cX0_run 144 = .ok (.invokestatic 32, 3) := by decide +kernel
theorem dX0_run_147 : decode cX0_run 147 = .ok (.iconst 2, 1) := by decide +kernel
theorem dX0_run_148 : decode cX0_run 148 = .ok (.imul, 1) := by decide +kernel
theorem dX0_run_149 : decode cX0_run 149 = .ok (.ireturn, 1) := by decide +kernel
theorem dX0_run_150 : decode cX0_run 150 = .ok (.aload_n 0, 1) := by decide +kernel
theorem dX0_run_151 : decode cX0_run 151 = .ok (.iconst 1, 1) := by decide +kernel
theorem dX0_run_152 : decode cX0_run 152 = .ok (.aload_n 0, 1) := by decide +kernel
theorem dX0_run_153 : decode cX0_run 153 = .ok (.getfield 19, 3) := by decide +kernel
theorem dX0_run_156 : decode cX0_run 156 = .ok (.iload_n 3, 1) := by decide +kernel
theorem dX0_run_157 : decode cX0_run 157 = .ok (.iload 5, 2) := by decide +kernel
theorem dX0_run_159 : decode cX0_run 159 = .ok (.invokestatic 32, 3) := by decide +kernel
theorem dX0_run_162 : decode cX0_run 162 = .ok (.aload_n 0, 1) := by decide +kernel
theorem dX0_run_163 : decode cX0_run 163 = .ok (.iconst 0, 1) := by decide +kernel
theorem dX0_run_164 : decode cX0_run 164 = .ok (.aload_n 0, 1) := by decide +kernel
theorem dX0_run_165 : decode cX0_run 165 = .ok (.getfield 19, 3) := by decide +kernel
theorem dX0_run_168 : decode cX0_run 168 = .ok (.iload_n 3, 1) := by decide +kernel
theorem dX0_run_169 : decode cX0_run 169 = .ok (.aload_n 0, 1) := by decide +kernel
theorem dX0_run_170 : decode cX0_run 170 = .ok (.getfield 25, 3) := by decide +kernel
theorem dX0_run_173 : decode cX0_run 173 = .ok (.isub, 1) := by decide +kernel
theorem dX0_run_174 : decode cX0_run 174 = .ok (.iload 5, 2) := by decide +kernel
theorem dX0_run_176 : decode cX0_run 176 = .ok (.invokestatic 32, 3) := by decide +kernel
theorem dX0_run_179 : decode cX0_run 179 = .ok (.ixor, 1) := by decide +kernel
theorem dX0_run_180 : decode cX0_run 180 = .ok (.ireturn, 1) := by decide +kernel
theorem dX0_run_181 : decode cX0_run 181 = .ok (.aload_n 0, 1) := by decide +kernel
theorem dX0_run_182 : decode cX0_run 182 = .ok (.iconst 0, 1) := by decide +kernel
theorem dX0_run_183 : decode cX0_run 183 = .ok (.iconst 0, 1) := by decide +kernel
theorem dX0_run_184 : decode cX0_run 184 = .ok (.iload_n 3, 1) := by decide +kernel
theorem dX0_run_185 : decode cX0_run 185 = .ok (.iload 5, 2) := by decide +kernel
theorem dX0_run_187 : decode cX0_run 187 = .ok (.invokestatic 32, 3) := by decide +kernel
theorem dX0_run_190 : decode cX0_run 190 = .ok (.aload_n 0, 1) := by decide +kernel
theorem dX0_run_191 : decode cX0_run 191 = .ok (.getfield 25, 3) := by decide +kernel
theorem dX0_run_194 : decode cX0_run 194 = .ok (.iadd, 1) := by decide +kernel
theorem dX0_run_195 : decode cX0_run 195 = .ok (.ireturn, 1) := by decide +kernel
theorem dX0_run_196 : decode cX0_run 196 = .ok (.aload_n 0, 1) := by decide +kernel
theorem dX0_run_197 : decode cX0_run 197 = .ok (.iconst 1, 1) := by decide +kernel
theorem dX0_run_198 : decode cX0_run 198 = .ok (.iconst 0, 1) := by decide +kernel
theorem dX0_run_199 : decode cX0_run 199 = .ok (.iload_n 3, 1) := by decide +kernel
theorem dX0_run_200 : decode cX0_run 200 = .ok (.iload 5, 2) := by decide +kernel
theorem dX0_run_202 : decode cX0_run 202 = .ok (.invokestatic 32, 3) := by decide +kernel
theorem dX0_run_205 : decode cX0_run 205 = .ok (.iconst 3, 1) := by decide +kernel
theorem dX0_run_206 : decode cX0_run 206 = .ok (.imul, 1) := by decide +kernel
theorem dX0_run_207 : decode cX0_run 207 = .ok (.ireturn, 1) := by decide +kernel
theorem dX0_run_208 : decode cX0_run 208 = .ok (.aload_n 0, 1) := by decide +kernel
theorem dX0_run_209 : decode cX0_run 209 = .ok (.iconst 1, 1) := by decide +kernel
theorem dX0_run_210 : decode cX0_run 210 = .ok (.iconst 2, 1) := by decide +kernel
theorem dX0_run_211 : decode cX0_run 211 = .ok (.iload_n 3, 1) := by decide +kernel
theorem dX0_run_212 : decode cX0_run 212 = .ok (.iconst 1, 1) := by decide +kernel
theorem dX0_run_213 : decode cX0_run 213 = .ok (.iadd, 1) := by decide +kernel
theorem dX0_run_214 : decode cX0_run 214 = .ok (.iload 5, 2) := by decide +kernel
theorem dX0_run_216 : decode cX0_run 216 = .ok (.invokestatic 32, 3) := by decide +kernel
theorem dX0_run_219 : decode cX0_run 219 = .ok (.ireturn, 1) := by decide +kernel
theorem dX0_run_220 : decode cX0_run 220 = .ok (.aload_n 0, 1) := by decide +kernel
theorem dX0_run_221 : decode cX0_run 221 = .ok (.iconst 2, 1) := by decide +kernel
theorem dX0_run_222 : decode cX0_run 222 = .ok (.iconst 0, 1) := by decide +kernel
theorem dX0_run_223 : decode cX0_run 223 = .ok (.iload_n 3, 1) := by decide +kernel
theorem dX0_run_224 : decode cX0_run 224 = .ok (.iload 5, 2) := by decide +kernel
theorem dX0_run_226 : decode cX0_run 226 = .ok (.invokestatic 32, 3) := by decide +kernel
theorem dX0_run_229 : decode cX0_run 229 = .ok (.ineg, 1) := by decide +kernel
theorem dX0_run_230 : decode cX0_run 230 = .ok (.ireturn, 1) := by decide +kernel
theorem dX0_run_231 : decode cX0_run 231 = .ok (.aload_n 0, 1) := by decide +kernel
theorem dX0_run_232 : decode cX0_run 232 = .ok (.iconst 0, 1) := by decide +kernel
theorem dX0_run_233 : decode cX0_run 233 = .ok (.iconst 0, 1) := by decide +kernel
theorem dX0_run_234 : decode cX0_run 234 = .ok (.iload_n 3, 1) := by decide +kernel
theorem dX0_run_235 : decode cX0_run 235 = .ok (.iload 5, 2) := by decide +kernel
theorem dX0_run_237 : decode cX0_run 237 = .ok (.invokestatic 32, 3) := by decide +kernel
theorem dX0_run_240 : decode cX0_run 240 = .ok (.aload_n 0, 1) := by decide +kernel
theorem dX0_run_241 : decode cX0_run 241 = .ok (.getfield 22, 3) := by decide +kernel
theorem dX0_run_244 : decode cX0_run 244 = .ok (.isub, 1) := by decide +kernel
theorem dX0_run_245 : decode cX0_run 245 = .ok (.ireturn, 1) := by decide +kernel
theorem dX0_run_246 : decode cX0_run 246 = .ok (.aload_n 0, 1) := by decide +kernel
theorem dX0_run_247 : decode cX0_run 247 = .ok (.iconst 2, 1) := by decide +kernel
theorem dX0_run_248 : decode cX0_run 248 = .ok (.iconst 1, 1) := by decide +kernel
theorem dX0_run_249 : decode cX0_run 249 = .ok (.iload_n 3, 1) := by decide +kernel
theorem dX0_run_250 : decode cX0_run 250 = .ok (.iload 5, 2) := by decide +kernel
theorem dX0_run_252 : decode cX0_run 252 = .ok (.invokestatic 32, 3) := by decide +kernel
theorem dX0_run_255 : decode cX0_run 255 = .ok (.iconst 5, 1) := by decide +kernel
theorem dX0_run_256 : decode cX0_run 256 = .ok (.ixor, 1) := by decide +kernel
theorem dX0_run_257 : decode cX0_run 257 = .ok (.ireturn, 1) := by decide +kernel
theorem dX0_run_258 : decode cX0_run 258 = .ok (.aload_n 0, 1) := by decide +kernel
theorem dX0_run_259 : decode cX0_run 259 = .ok (.iconst 0, 1) := by decide +kernel
theorem dX0_run_260 : decode cX0_run 260 = .ok (.iconst 3, 1) := by decide +kernel
theorem dX0_run_261 : decode cX0_run 261 = .ok (.iload_n 3, 1) := by decide +kernel
theorem dX0_run_262 : decode cX0_run 262 = .ok (.iload 5, 2) := by decide +kernel
theorem dX0_run_264 : decode cX0_run 264 = .ok (.invokestatic 32, 3) := by decide +kernel
theorem dX0_run_267 : decode cX0_run 267 = .ok (.iconst 2, 1) := by decide +kernel
theorem dX0_run_268 : decode cX0_run 268 = .ok (.imul, 1) := by decide +kernel
theorem dX0_run_269 : decode cX0_run 269 = .ok (.ireturn, 1) := by decide +kernel
theorem dX0_run_270 : decode cX0_run 270 = .ok (.aload_n 0, 1) := by decide +kernel
theorem dX0_run_271 : decode cX0_run 271 = .ok (.iconst 1, 1) := by decide +kernel
theorem dX0_run_272 : decode cX0_run 272 = .ok (.iconst 3, 1) := by decide +kernel
theorem dX0_run_273 : decode cX0_run 273 = .ok (.iload_n 3, 1) := by decide +kernel
theorem dX0_run_274 : decode cX0_run 274 = .ok (.aload_n 0, 1) := by decide +kernel
theorem dX0_run_275 : decode cX0_run 275 = .ok (.getfield 25, 3) := by decide +kernel
theorem dX0_run_278 : decode cX0_run 278 = .ok (.isub, 1) := by decide +kernel
theorem dX0_run_279 : decode cX0_run 279 = .ok (.iload 5, 2) := by decide +kernel
theorem dX0_run_281 : decode cX0_run 281 = .ok (.invokestatic 32, 3) := by decide +kernel
theorem dX0_run_284 : decode cX0_run 284 = .ok (.ireturn, 1) := by decide +kernel
theorem dX0_run_285 : decode cX0_run 285 = .ok (.iconst 0, 1) := by decide +kernel
theorem dX0_run_286 : decode cX0_run 286 = .ok (.ireturn, 1) := by decide +kernel
theorem dX1_init_0 : decode cX1_init 0 = .ok (.aload_n 0, 1) := by decide +kernel
theorem dX1_init_1 : decode cX1_init 1 = .ok (.invokespecial 3, 3) := by decide +kernel
theorem dX1_init_4 : decode cX1_init 4 = .ok (.aload_n 0, 1) := by decide +kernel
theorem dX1_init_5 : decode cX1_init 5 = .ok (.iconst 0, 1) := by decide +kernel
theorem dX1_init_6 : decode cX1_init 6 = .ok (.putfield 9, 3) := by decide +kernel
theorem dX1_init_9 : decode cX1_init 9 = .ok (.aload_n 0, 1) := by decide +kernel
theorem dX1_init_10 : decode cX1_init 10 = .ok (.iconst 0, 1) := by decide +kernel
theorem dX1_init_11 : decode cX1_init 11 = .ok (.putfield 15, 3) := by decide +kernel
theorem dX1_init_14 : decode cX1_init 14 = .ok (.aload_n 0, 1) := by decide +kernel
theorem dX1_init_15 : decode cX1_init 15 = .ok (.iconst 0, 1) := by decide +kernel
theorem dX1_init_16 : decode cX1_init 16 = .ok (.putfield 18, 3) := by decide +kernel
theorem dX1_init_19 : decode cX1_init 19 = .ok (.aload_n 0, 1) := by decide +kernel
theorem dX1_init_20 : decode cX1_init 20 = .ok (.iconst (-1), 1) := by decide +kernel
theorem dX1_init_21 : decode cX1_init 21 = .ok (.putfield 21, 3) := by decide +kernel
theorem dX1_init_24 : decode cX1_init 24 = .ok (.aload_n 0, 1) := by decide +kernel
theorem dX1_init_25 : decode cX1_init 25 = .ok (.iconst 0, 1) := by decide +kernel
theorem dX1_init_26 : decode cX1_init 26 = .ok (.putfield 24, 3) := by decide +kernel
theorem dX1_init_29 : decode cX1_init 29 = .ok (.aload_n 0, 1) := by decide +kernel
theorem dX1_init_30 : decode cX1_init 30 = .ok (.bipush 16, 2) := by decide +kernel
theorem dX1_init_32 : decode cX1_init 32 = .ok (.newarray .int, 2) := by decide +kernel
theorem dX1_init_34 : decode cX1_init 34 = .ok (.putfield 27, 3) := by decide +kernel
theorem dX1_init_37 : decode cX1_init 37 = .ok (.return_, 1) := by decide +kernel
theorem dX1_isKind_0 : decode cX1_isKind 0 = .ok (.iload_n 0, 1) := by decide +kernel
theorem dX1_isKind_1 : decode cX1_isKind 1 = .ok (.ifCond .lt 15, 3) := by decide +kernel
theorem dX1_isKind_4 : decode cX1_isKind 4 = .ok (.iload_n 0, 1) := by decide +kernel
theorem dX1_isKind_5 : decode cX1_isKind 5 = .ok (.getstatic 31, 3) := by decide +kernel
theorem dX1_isKind_8 : decode cX1_isKind 8 = .ok (.arraylength, 1) := by decide +kernel
theorem dX1_isKind_9 : decode cX1_isKind 9 = .ok (.if_icmp .ge 7, 3) := by decide +kernel
theorem dX1_isKind_12 : decode cX1_isKind 12 = .ok (.iconst 1, 1) := by decide +kernel
theorem dX1_isKind_13 : decode cX1_isKind 13 = .ok (.goto 4, 3) := by decide +kernel
theorem dX1_isKind_16 : decode cX1_isKind 16 = .ok (.iconst 0, 1) := by decide +kernel
theorem dX1_isKind_17 : decode cX1_isKind 17 = .ok (.ireturn, 1) := by decide +kernel
theorem dX1_kindAbove_0 : decode cX1_kindAbove 0 = .ok (.iload_n 0, 1) := by decide +kernel
theorem dX1_kindAbove_1 : decode cX1_kindAbove 1 = .ok (.ifCond .lt 19, 3) := by decide +kernel
theorem dX1_kindAbove_4 : decode cX1_kindAbove 4 = .ok (.iload_n 0, 1) := by decide +kernel
theorem dX1_kindAbove_5 : decode cX1_kindAbove 5 = .ok (.getstatic 31, 3) := by decide +kernel
theorem dX1_kindAbove_8 : decode cX1_kindAbove 8 = .ok (.arraylength, 1) := by decide +kernel
theorem dX1_kindAbove_9 : decode cX1_kindAbove 9 = .ok (.if_icmp .ge 11, 3) := by decide +kernel
theorem dX1_kindAbove_12 : decode cX1_kindAbove 12 = .ok (.getstatic 31, 3) := by decide +kernel
theorem dX1_kindAbove_15 : decode cX1_kindAbove 15 = .ok (.iload_n 0, 1) := by decide +kernel
theorem dX1_kindAbove_16 : decode cX1_kindAbove 16 = .ok (.iaload, 1) := by decide +kernel
theorem dX1_kindAbove_17 : decode cX1_kindAbove 17 = .ok (.goto 4, 3) := by decide +kernel
theorem dX1_kindAbove_20 : decode cX1_kindAbove 20 = .ok (.iconst (-1), 1) := by decide +kernel
theorem dX1_kindAbove_21 : decode cX1_kindAbove 21 = .ok (.ireturn, 1) := by decide +kernel
theorem dX1_makeNew_0 : decode cX1_makeNew 0 = .ok (.aload_n 0, 1) := by decide +kernel
theorem dX1_makeNew_1 : decode cX1_makeNew 1 = .ok (.iload_n 1, 1) := by decide +kernel
theorem dX1_makeNew_2 : decode cX1_makeNew 2 = .ok (.putfield 9, 3) := by decide +kernel
theorem dX1_makeNew_5 : decode cX1_makeNew 5 = .ok (.aload_n 0, 1) := by decide +kernel
theorem dX1_makeNew_6 : decode cX1_makeNew 6 = .ok (.iload_n 2, 1) := by decide +kernel
theorem dX1_makeNew_7 : decode cX1_makeNew 7 = .ok (.putfield 15, 3) := by decide +kernel
theorem dX1_makeNew_10 : decode cX1_makeNew 10 = .ok (.aload_n 0, 1) := by decide +kernel
theorem dX1_makeNew_11 : decode cX1_makeNew 11 = .ok (.iload_n 3, 1) := by decide +kernel
theorem dX1_makeNew_12 : decode cX1_makeNew 12 = .ok (.putfield 18, 3) := by decide +kernel
theorem dX1_makeNew_15 : decode cX1_makeNew 15 = .ok (.aload_n 0, 1) := by decide +kernel
theorem dX1_makeNew_16 : decode cX1_makeNew 16 = .ok (.iconst (-1), 1) := by decide +kernel
theorem dX1_makeNew_17 : decode cX1_makeNew 17 = .ok (.putfield 21, 3) := by decide +kernel
theorem dX1_makeNew_20 : decode cX1_makeNew 20 = .ok (.aload_n 0, 1) := by decide +kernel
theorem dX1_makeNew_21 : decode cX1_makeNew 21 = .ok (.iconst 0, 1) := by decide +kernel
theorem dX1_makeNew_22 : decode cX1_makeNew 22 = .ok (.putfield 24, 3) := by decide +kernel
theorem dX1_makeNew_25 : decode cX1_makeNew 25 = .ok (.iconst 0, 1) := by decide +kernel
theorem dX1_makeNew_26 : decode cX1_makeNew 26 = .ok (.istore 4, 2) := by decide +kernel
theorem dX1_makeNew_28 : decode cX1_makeNew 28 = .ok (.iload 4, 2) := by decide +kernel
theorem dX1_makeNew_30 : decode cX1_makeNew 30 = .ok (.aload_n 0, 1) := by decide +kernel
theorem dX1_makeNew_31 : decode cX1_makeNew 31 = .ok (.getfield 27, 3) := by decide +kernel
theorem dX1_makeNew_34 : decode cX1_makeNew 34 = .ok (.arraylength, 1) := by decide +kernel
theorem dX1_makeNew_35 : decode cX1_makeNew 35 = .ok (.if_icmp .ge 17, 3) := by decide +kernel
theorem dX1_makeNew_38 : decode cX1_makeNew 38 = .ok (.aload_n 0, 1) := by decide +kernel
theorem dX1_makeNew_39 : decode cX1_makeNew 39 = .ok (.getfield 27, 3) := by decide +kernel
theorem dX1_makeNew_42 : decode cX1_makeNew 42 = .ok (.iload 4, 2) := by decide +kernel
theorem dX1_makeNew_44 : decode cX1_makeNew 44 = .ok (.iconst 0, 1) := by decide +kernel
theorem dX1_makeNew_45 : decode cX1_makeNew 45 = .ok (.iastore, 1) := by decide +kernel
theorem dX1_makeNew_46 : decode cX1_makeNew 46 = .ok (.iinc 4 1, 3) := by decide +kernel
theorem dX1_makeNew_49 : decode cX1_makeNew 49 = .ok (.goto (-21), 3) := by decide +kernel
theorem dX1_makeNew_52 : decode cX1_makeNew 52 = .ok (.return_, 1) := by decide +kernel
theorem dX1_takeGlass_0 : decode cX1_takeGlass 0 = .ok (.aload_n 0, 1) := by decide +kernel
theorem dX1_takeGlass_1 : decode cX1_takeGlass 1 = .ok (.aload_n 1, 1) := by decide +kernel
theorem dX1_takeGlass_2 : decode cX1_takeGlass 2 = .ok (.getfield 9, 3) := by decide +kernel
theorem dX1_takeGlass_5 : decode cX1_takeGlass 5 = .ok (.putfield 9, 3) := by decide +kernel
theorem dX1_takeGlass_8 : decode cX1_takeGlass 8 = .ok (.aload_n 0, 1) := by decide +kernel
theorem dX1_takeGlass_9 : decode cX1_takeGlass 9 = .ok (.aload_n 1, 1) := by decide +kernel
theorem dX1_takeGlass_10 : decode cX1_takeGlass 10 = .ok (.getfield 15, 3) := by decide +kernel
theorem dX1_takeGlass_13 : decode cX1_takeGlass 13 = .ok (.putfield 15, 3) := by decide +kernel
theorem dX1_takeGlass_16 : decode cX1_takeGlass 16 = .ok (.aload_n 0, 1) := by decide +kernel
theorem dX1_takeGlass_17 : decode cX1_takeGlass 17 = .ok (.aload_n 1, 1) := by decide +kernel
theorem dX1_takeGlass_18 : decode cX1_takeGlass 18 = .ok (.getfield 18, 3) := by decide +kernel
theorem dX1_takeGlass_21 : decode cX1_takeGlass 21 = .ok (.putfield 18, 3) := by decide +kernel
theorem dX1_takeGlass_24 : decode cX1_takeGlass 24 = .ok (.aload_n 0, 1) := by decide +kernel
theorem dX1_takeGlass_25 : decode cX1_takeGlass 25 = .ok (.aload_n 1, 1) := by decide +kernel
theorem dX1_takeGlass_26 : decode cX1_takeGlass 26 = .ok (.getfield 21, 3) := by decide +kernel
theorem dX1_takeGlass_29 : decode cX1_takeGlass 29 = .ok (.putfield 21, 3) := by decide +kernel
theorem dX1_takeGlass_32 : decode cX1_takeGlass 32 = .ok (.aload_n 0, 1) := by decide +kernel
theorem dX1_takeGlass_33 : decode cX1_takeGlass 33 = .ok (.aload_n 1, 1) := by decide +kernel
theorem dX1_takeGlass_34 : decode cX1_takeGlass 34 = .ok (.getfield 24, 3) := by decide +kernel
theorem dX1_takeGlass_37 : decode cX1_takeGlass 37 = .ok (.putfield 24, 3) := by decide +kernel
theorem dX1_takeGlass_40 : decode cX1_takeGlass 40 = .ok (.return_, 1) := by decide +kernel
theorem dX1_takeAll_0 : decode cX1_takeAll 0 = .ok (.aload_n 0, 1) := by decide +kernel
theorem dX1_takeAll_1 : decode cX1_takeAll 1 = .ok (.aload_n 1, 1) := by decide +kernel
theorem dX1_takeAll_2 : decode cX1_takeAll 2 = .ok (.invokevirtual 34, 3) := by decide +kernel
theorem dX1_takeAll_5 : decode cX1_takeAll 5 = .ok (.iconst 0, 1) := by decide +kernel
theorem dX1_takeAll_6 : decode cX1_takeAll 6 = .ok (.istore_n 2, 1) := by decide +kernel
theorem dX1_takeAll_7 : decode cX1_takeAll 7 = .ok (.iload_n 2, 1) := by decide +kernel
theorem dX1_takeAll_8 : decode cX1_takeAll 8 = .ok (.aload_n 0, 1) := by decide +kernel
theorem dX1_takeAll_9 : decode cX1_takeAll 9 = .ok (.getfield 27, 3) := by decide +kernel
theorem dX1_takeAll_12 : decode cX1_takeAll 12 = .ok (.arraylength, 1) := by decide +kernel
theorem dX1_takeAll_13 : decode cX1_takeAll 13 = .ok (.if_icmp .ge 20, 3) := by decide +kernel
theorem dX1_takeAll_16 : decode cX1_takeAll 16 = .ok (.aload_n 0, 1) := by decide +kernel
theorem dX1_takeAll_17 : decode cX1_takeAll 17 = .ok (.getfield 27, 3) := by decide +kernel
theorem dX1_takeAll_20 : decode cX1_takeAll 20 = .ok (.iload_n 2, 1) := by decide +kernel
theorem dX1_takeAll_21 : decode cX1_takeAll 21 = .ok (.aload_n 1, 1) := by decide +kernel
theorem dX1_takeAll_22 : decode cX1_takeAll 22 = .ok (.iload_n 2, 1) := by decide +kernel
theorem dX1_takeAll_23 : decode cX1_takeAll 23 = .ok (.invokevirtual 38, 3) := by decide +kernel
theorem dX1_takeAll_26 : decode cX1_takeAll 26 = .ok (.iastore, 1) := by decide +kernel
theorem dX1_takeAll_27 : decode cX1_takeAll 27 = .ok (.iinc 2 1, 3) := by decide +kernel
theorem dX1_takeAll_30 : decode cX1_takeAll 30 = .ok (.goto (-23), 3) := by decide +kernel
theorem dX1_takeAll_33 : decode cX1_takeAll 33 = .ok (.return_, 1) := by decide +kernel
theorem dX1_isOf_0 : decode cX1_isOf 0 = .ok (.aload_n 0, 1) := by decide +kernel
theorem dX1_isOf_1 : decode cX1_isOf 1 = .ok (.getfield 9, 3) := by decide +kernel
theorem dX1_isOf_4 : decode cX1_isOf 4 = .ok (.istore_n 2, 1) := by decide +kernel
theorem dX1_isOf_5 : decode cX1_isOf 5 = .ok (.iconst 0, 1) := by decide +kernel
theorem dX1_isOf_6 : decode cX1_isOf 6 = .ok (.istore_n 3, 1) := by decide +kernel
theorem dX1_isOf_7 : decode cX1_isOf 7 = .ok (.iload_n 3, 1) := by decide +kernel
theorem dX1_isOf_8 : decode cX1_isOf 8 = .ok (.getstatic 31, 3) := by decide +kernel
theorem dX1_isOf_11 : decode cX1_isOf 11 = .ok (.arraylength, 1) := by decide +kernel
theorem dX1_isOf_12 : decode cX1_isOf 12 = .ok (.if_icmp .ge 36, 3) := by decide +kernel
theorem dX1_isOf_15 : decode cX1_isOf 15 = .ok (.iload_n 2, 1) := by decide +kernel
theorem dX1_isOf_16 : decode cX1_isOf 16 = .ok (.iload_n 1, 1) := by decide +kernel
theorem dX1_isOf_17 : decode cX1_isOf 17 = .ok (.if_icmp .eq 31, 3) := by decide +kernel
theorem dX1_isOf_20 : decode cX1_isOf 20 = .ok (.iload_n 2, 1) := by decide +kernel
theorem dX1_isOf_21 : decode cX1_isOf 21 = .ok (.ifCond .lt 19, 3) := by decide +kernel
theorem dX1_isOf_24 : decode cX1_isOf 24 = .ok (.iload_n 2, 1) := by decide +kernel
theorem dX1_isOf_25 : decode cX1_isOf 25 = .ok (.getstatic 31, 3) := by decide +kernel
theorem dX1_isOf_28 : decode cX1_isOf 28 = .ok (.arraylength, 1) := by decide +kernel
theorem dX1_isOf_29 : decode cX1_isOf 29 = .ok (.if_icmp .ge 11, 3) := by decide +kernel
theorem dX1_isOf_32 : decode cX1_isOf 32 = .ok (.getstatic 31, 3) := by decide +kernel
theorem dX1_isOf_35 : decode cX1_isOf 35 = .ok (.iload_n 2, 1) := by decide +kernel
theorem dX1_isOf_36 : decode cX1_isOf 36 = .ok (.iaload, 1) := by decide +kernel
theorem dX1_isOf_37 : decode cX1_isOf 37 = .ok (.goto 4, 3) := by decide +kernel
theorem dX1_isOf_40 : decode cX1_isOf 40 = .ok (.iconst (-1), 1) := by decide +kernel
theorem dX1_isOf_41 : decode cX1_isOf 41 = .ok (.istore_n 2, 1) := by decide +kernel
theorem dX1_isOf_42 : decode cX1_isOf 42 = .ok (.iinc 3 1, 3) := by decide +kernel
theorem dX1_isOf_45 : decode cX1_isOf 45 = .ok (.goto (-38), 3) := by decide +kernel
theorem dX1_isOf_48 : decode cX1_isOf 48 = .ok (.iload_n 2, 1) := by decide +kernel
theorem dX1_isOf_49 : decode cX1_isOf 49 = .ok (.iload_n 1, 1) := by decide +kernel
theorem dX1_isOf_50 : decode cX1_isOf 50 = .ok (.if_icmp .ne 7, 3) := by decide +kernel
theorem dX1_isOf_53 : decode cX1_isOf 53 = .ok (.iconst 1, 1) := by decide +kernel
theorem dX1_isOf_54 : decode cX1_isOf 54 = .ok (.goto 4, 3) := by decide +kernel
theorem dX1_isOf_57 : decode cX1_isOf 57 = .ok (.iconst 0, 1) := by decide +kernel
theorem dX1_isOf_58 : decode cX1_isOf 58 = .ok (.ireturn, 1) := by decide +kernel
theorem dX1_countedCold_0 : decode cX1_countedCold 0 = .ok (.aload_n 0, 1) := by decide +kernel
theorem dX1_countedCold_1 : decode cX1_countedCold 1 = .ok (.iconst 2, 1) := by decide +kernel
theorem dX1_countedCold_2 : decode cX1_countedCold 2 = .ok (.invokevirtual 42, 3) := by decide +kernel
theorem dX1_countedCold_5 : decode cX1_countedCold 5 = .ok (.ifCond .eq 16, 3) := by decide +kernel
theorem dX1_countedCold_8 : decode cX1_countedCold 8 = .ok (.iload_n 1, 1) := by decide +kernel
theorem dX1_countedCold_9 : decode cX1_countedCold 9 = .ok (.aload_n 0, 1) := by decide +kernel
theorem dX1_countedCold_10 : decode cX1_countedCold 10 = .ok (.getfield 18, 3) := by decide +kernel
theorem dX1_countedCold_13 : decode cX1_countedCold 13 = .ok (.isub, 1) := by decide +kernel
theorem dX1_countedCold_14 : decode cX1_countedCold 14 = .ok (.iconst 0, 1) := by decide +kernel
theorem dX1_countedCold_15 : decode cX1_countedCold 15 = .ok (.invokestatic 46, 3) := by decide +kernel
theorem dX1_countedCold_18 : decode cX1_countedCold 18 = .ok (.goto 4, 3) := by decide +kernel
theorem dX1_countedCold_21 : decode cX1_countedCold 21 = .ok (.iload_n 1, 1) := by decide +kernel
theorem dX1_countedCold_22 : decode cX1_countedCold 22 = .ok (.ireturn, 1) := by decide +kernel
theorem dX1_sharpness_0 : decode cX1_sharpness 0 = .ok (.aload_n 0, 1) := by decide +kernel
theorem dX1_sharpness_1 : decode cX1_sharpness 1 = .ok (.iload_n 1, 1) := by decide +kernel
theorem dX1_sharpness_2 : decode cX1_sharpness 2 = .ok (.invokevirtual 52, 3) := by decide +kernel
theorem dX1_sharpness_5 : decode cX1_sharpness 5 = .ok (.iload_n 2, 1) := by decide +kernel
theorem dX1_sharpness_6 : decode cX1_sharpness 6 = .ok (.imul, 1) := by decide +kernel
theorem dX1_sharpness_7 : decode cX1_sharpness 7 = .ok (.bipush 20, 2) := by decide +kernel
theorem dX1_sharpness_9 : decode cX1_sharpness 9 = .ok (.idiv, 1) := by decide +kernel
theorem dX1_sharpness_10 : decode cX1_sharpness 10 = .ok (.istore_n 3, 1) := by decide +kernel
theorem dX1_sharpness_11 : decode cX1_sharpness 11 = .ok (.aload_n 0, 1) := by decide +kernel
theorem dX1_sharpness_12 : decode cX1_sharpness 12 = .ok (.iconst 1, 1) := by decide +kernel
theorem dX1_sharpness_13 : decode cX1_sharpness 13 = .ok (.invokevirtual 42, 3) := by decide +kernel
theorem dX1_sharpness_16 : decode cX1_sharpness 16 = .ok (.ifCond .eq 17, 3) := by decide +kernel
theorem dX1_sharpness_19 : decode cX1_sharpness 19 = .ok (.iload_n 3, 1) := by decide +kernel
theorem dX1_sharpness_20 : decode cX1_sharpness 20 = .ok (.iconst 1, 1) := by decide +kernel
theorem dX1_sharpness_21 : decode cX1_sharpness 21 = .ok (.if_icmp .lt 12, 3) := by decide +kernel
theorem dX1_sharpness_24 : decode cX1_sharpness 24 = .ok (.iload_n 3, 1) := by decide +kernel
theorem dX1_sharpness_25 : decode cX1_sharpness 25 = .ok (.aload_n 0, 1) := by decide +kernel
theorem dX1_sharpness_26 : decode cX1_sharpness 26 = .ok (.getfield 18, 3) := by decide +kernel
theorem dX1_sharpness_29 : decode cX1_sharpness 29 = .ok (.iadd, 1) := by decide +kernel
theorem dX1_sharpness_30 : decode cX1_sharpness 30 = .ok (.goto 4, 3) := by decide +kernel
theorem dX1_sharpness_33 : decode cX1_sharpness 33 = .ok (.iload_n 3, 1) := by decide +kernel
theorem dX1_sharpness_34 : decode cX1_sharpness 34 = .ok (.ireturn, 1) := by decide +kernel
theorem dX1_laceRow_0 : decode cX1_laceRow 0 = .ok (.aload_n 0, 1) := by decide +kernel
theorem dX1_laceRow_1 : decode cX1_laceRow 1 = .ok (.getfield 18, 3) := by decide +kernel
theorem dX1_laceRow_4 : decode cX1_laceRow 4 = .ok (.iconst 4, 1) := by decide +kernel
theorem dX1_laceRow_5 : decode cX1_laceRow 5 = .ok (.irem, 1) := by decide +kernel
theorem dX1_laceRow_6 : decode cX1_laceRow 6 = .ok (.ireturn, 1) := by decide +kernel
theorem dX1_patternWith_0 : decode cX1_patternWith 0 = .ok (.aload_n 0, 1) := by decide +kernel
theorem dX1_patternWith_1 : decode cX1_patternWith 1 = .ok (.getfield 9, 3) := by decide +kernel
theorem dX1_patternWith_4 : decode cX1_patternWith 4 = .ok (.iconst 5, 1) := by decide +kernel
theorem dX1_patternWith_5 : decode cX1_patternWith 5 = .ok (.if_icmp .ne 15, 3) := by decide +kernel
theorem dX1_patternWith_8 : decode cX1_patternWith 8 = .ok (.iload_n 1, 1) := by decide +kernel
theorem dX1_patternWith_9 : decode cX1_patternWith 9 = .ok (.bipush 15, 2) := by decide +kernel
theorem dX1_patternWith_11 : decode cX1_patternWith 11 = .ok (.iconst 4, 1) := by decide +kernel
theorem dX1_patternWith_12 : decode cX1_patternWith 12 = .ok (.aload_n 0, 1) := by decide +kernel
theorem dX1_patternWith_13 : decode cX1_patternWith 13 = .ok (.invokevirtual 55, 3) := by decide +kernel
theorem dX1_patternWith_16 : decode cX1_patternWith 16 = .ok (.imul, 1) := by decide +kernel
theorem dX1_patternWith_17 : decode cX1_patternWith 17 = .ok (.ishl, 1) := by decide +kernel
theorem dX1_patternWith_18 : decode cX1_patternWith 18 = .ok (.ior, 1) := by decide +kernel
theorem dX1_patternWith_19 : decode cX1_patternWith 19 = .ok (.ireturn, 1) := by decide +kernel
theorem dX1_patternWith_20 : decode cX1_patternWith 20 = .ok (.aload_n 0, 1) := by decide +kernel
theorem dX1_patternWith_21 : decode cX1_patternWith 21 = .ok (.getfield 9, 3) := by decide +kernel
theorem dX1_patternWith_24 : decode cX1_patternWith 24 = .ok (.bipush 6, 2) := by decide +kernel
theorem dX1_patternWith_26 : decode cX1_patternWith 26 = .ok (.if_icmp .ne 11, 3) := by decide +kernel
theorem dX1_patternWith_29 : decode cX1_patternWith 29 = .ok (.iload_n 1, 1) := by decide +kernel
theorem dX1_patternWith_30 : decode cX1_patternWith 30 = .ok (.sipush 4095, 3) := by decide +kernel
theorem dX1_patternWith_33 : decode cX1_patternWith 33 = .ok (.iand, 1) := by decide +kernel
theorem dX1_patternWith_34 : decode cX1_patternWith 34 = .ok (.goto 4, 3) := by decide +kernel
theorem dX1_patternWith_37 : decode cX1_patternWith 37 = .ok (.iload_n 1, 1) := by decide +kernel
theorem dX1_patternWith_38 : decode cX1_patternWith 38 = .ok (.ireturn, 1) := by decide +kernel
theorem dX1_freezeWith_0 : decode cX1_freezeWith 0 = .ok (.aload_n 0, 1) := by decide +kernel
theorem dX1_freezeWith_1 : decode cX1_freezeWith 1 = .ok (.iload_n 1, 1) := by decide +kernel
theorem dX1_freezeWith_2 : decode cX1_freezeWith 2 = .ok (.invokevirtual 59, 3) := by decide +kernel
theorem dX1_freezeWith_5 : decode cX1_freezeWith 5 = .ok (.istore 4, 2) := by decide +kernel
theorem dX1_freezeWith_7 : decode cX1_freezeWith 7 = .ok (.iload_n 2, 1) := by decide +kernel
theorem dX1_freezeWith_8 : decode cX1_freezeWith 8 = .ok (.bipush 20, 2) := by decide +kernel
theorem dX1_freezeWith_10 : decode cX1_freezeWith 10 = .ok (.invokestatic 62, 3) := by decide +kernel
theorem dX1_freezeWith_13 : decode cX1_freezeWith 13 = .ok (.istore 5, 2) := by decide +kernel
theorem dX1_freezeWith_15 : decode cX1_freezeWith 15 = .ok (.iconst 0, 1) := by decide +kernel
theorem dX1_freezeWith_16 : decode cX1_freezeWith 16 = .ok (.istore 6, 2) := by decide +kernel
theorem dX1_freezeWith_18 : decode cX1_freezeWith 18 = .ok (.iload 6, 2) := by decide +kernel
theorem dX1_freezeWith_20 : decode cX1_freezeWith 20 = .ok (.aload_n 0, 1) := by decide +kernel
theorem dX1_freezeWith_21 : decode cX1_freezeWith 21 = .ok (.getfield 27, 3) := by decide +kernel
theorem dX1_freezeWith_24 : decode cX1_freezeWith 24 = .ok (.arraylength, 1) := by decide +kernel
theorem dX1_freezeWith_25 : decode cX1_freezeWith 25 = .ok (.if_icmp .ge 27, 3) := by decide +kernel
theorem dX1_freezeWith_28 : decode cX1_freezeWith 28 = .ok (.aload_n 0, 1) := by decide +kernel
theorem dX1_freezeWith_29 : decode cX1_freezeWith 29 = .ok (.getfield 27, 3) := by decide +kernel
theorem dX1_freezeWith_32 : decode cX1_freezeWith 32 = .ok (.iload 6, 2) := by decide +kernel
theorem dX1_freezeWith_34 : decode cX1_freezeWith 34 = .ok (.aload_n 0, 1) := by decide +kernel
theorem dX1_freezeWith_35 : decode cX1_freezeWith 35 = .ok (.iload 6, 2) := by decide +kernel
theorem dX1_freezeWith_37 : decode cX1_freezeWith 37 = .ok (.iload 4, 2) := by decide +kernel
theorem dX1_freezeWith_39 : decode cX1_freezeWith 39 = .ok (.iload 5, 2) := by decide +kernel
theorem dX1_freezeWith_41 : decode cX1_freezeWith 41 = .ok (.iload_n 3, 1) := by decide +kernel
theorem dX1_freezeWith_42 : decode cX1_freezeWith 42 = .ok (.invokevirtual 65, 3) := by decide +kernel
theorem dX1_freezeWith_45 : decode cX1_freezeWith 45 = .ok (.iastore, 1) := by decide +kernel
theorem dX1_freezeWith_46 : decode cX1_freezeWith 46 = .ok (.iinc 6 1, 3) := by decide +kernel
theorem dX1_freezeWith_49 : decode cX1_freezeWith 49 = .ok (.goto (-31), 3) := by decide +kernel
theorem dX1_freezeWith_52 : decode cX1_freezeWith 52 = .ok (.return_, 1) := by decide +kernel
theorem dX1_freshIce_0 : decode cX1_freshIce 0 = .ok (.aload_n 0, 1) := by decide +kernel
theorem dX1_freshIce_1 : decode cX1_freshIce 1 = .ok (.getfield 24, 3) := by decide +kernel
theorem dX1_freshIce_4 : decode cX1_freshIce 4 = .ok (.iload_n 1, 1) := by decide +kernel
theorem dX1_freshIce_5 : decode cX1_freshIce 5 = .ok (.invokestatic 69, 3) := by decide +kernel
theorem dX1_freshIce_8 : decode cX1_freshIce 8 = .ok (.ifCond .eq 5, 3) := by decide +kernel
theorem dX1_freshIce_11 : decode cX1_freshIce 11 = .ok (.iconst 0, 1) := by decide +kernel
theorem dX1_freshIce_12 : decode cX1_freshIce 12 = .ok (.ireturn, 1) := by decide +kernel
theorem dX1_freshIce_13 : decode cX1_freshIce 13 = .ok (.iload_n 2, 1) := by decide +kernel
theorem dX1_freshIce_14 : decode cX1_freshIce 14 = .ok (.iload_n 1, 1) := by decide +kernel
theorem dX1_freshIce_15 : decode cX1_freshIce 15 = .ok (.invokestatic 69, 3) := by decide +kernel
theorem dX1_freshIce_18 : decode cX1_freshIce 18 = .ok (.ifCond .eq 5, 3) := by decide +kernel
theorem dX1_freshIce_21 : decode cX1_freshIce 21 = .ok (.iload_n 3, 1) := by decide +kernel
theorem dX1_freshIce_22 : decode cX1_freshIce 22 = .ok (.ireturn, 1) := by decide +kernel
theorem dX1_freshIce_23 : decode cX1_freshIce 23 = .ok (.aload_n 0, 1) := by decide +kernel
theorem dX1_freshIce_24 : decode cX1_freshIce 24 = .ok (.getfield 9, 3) := by decide +kernel
theorem dX1_freshIce_27 : decode cX1_freshIce 27 = .ok (.bipush 6, 2) := by decide +kernel
theorem dX1_freshIce_29 : decode cX1_freshIce 29 = .ok (.if_icmp .ne 13, 3) := by decide +kernel
theorem dX1_freshIce_32 : decode cX1_freshIce 32 = .ok (.iload_n 1, 1) := by decide +kernel
theorem dX1_freshIce_33 : decode cX1_freshIce 33 = .ok (.bipush 12, 2) := by decide +kernel
theorem dX1_freshIce_35 : decode cX1_freshIce 35 = .ok (.if_icmp .lt 7, 3) := by decide +kernel
theorem dX1_freshIce_38 : decode cX1_freshIce 38 = .ok (.iconst 1, 1) := by decide +kernel
theorem dX1_freshIce_39 : decode cX1_freshIce 39 = .ok (.goto 4, 3) := by decide +kernel
theorem dX1_freshIce_42 : decode cX1_freshIce 42 = .ok (.iconst 0, 1) := by decide +kernel
theorem dX1_freshIce_43 : decode cX1_freshIce 43 = .ok (.istore 5, 2) := by decide +kernel
theorem dX1_freshIce_45 : decode cX1_freshIce 45 = .ok (.iload_n 2, 1) := by decide +kernel
theorem dX1_freshIce_46 : decode cX1_freshIce 46 = .ok (.iload_n 1, 1) := by decide +kernel
theorem dX1_freshIce_47 : decode cX1_freshIce 47 = .ok (.invokestatic 73, 3) := by decide +kernel
theorem dX1_freshIce_50 : decode cX1_freshIce 50 = .ok (.iand, 1) := by decide +kernel
theorem dX1_freshIce_51 : decode cX1_freshIce 51 = .ok (.invokestatic 76, 3) := by decide +kernel
theorem dX1_freshIce_54 : decode cX1_freshIce 54 = .ok (.istore 6, 2) := by decide +kernel
theorem dX1_freshIce_56 : decode cX1_freshIce 56 = .ok (.iload 4, 2) := by decide +kernel
theorem dX1_freshIce_58 : decode cX1_freshIce 58 = .ok (.bipush 6, 2) := by decide +kernel
theorem dX1_freshIce_60 : decode cX1_freshIce 60 = .ok (.if_icmp .lt 13, 3) := by decide +kernel
theorem dX1_freshIce_63 : decode cX1_freshIce 63 = .ok (.iload 6, 2) := by decide +kernel
theorem dX1_freshIce_65 : decode cX1_freshIce 65 = .ok (.iconst 3, 1) := by decide +kernel
theorem dX1_freshIce_66 : decode cX1_freshIce 66 = .ok (.if_icmp .lt 7, 3) := by decide +kernel
theorem dX1_freshIce_69 : decode cX1_freshIce 69 = .ok (.iconst 1, 1) := by decide +kernel
theorem dX1_freshIce_70 : decode cX1_freshIce 70 = .ok (.goto 4, 3) := by decide +kernel
theorem dX1_freshIce_73 : decode cX1_freshIce 73 = .ok (.iconst 0, 1) := by decide +kernel
theorem dX1_freshIce_74 : decode cX1_freshIce 74 = .ok (.istore 7, 2) := by decide +kernel
theorem dX1_freshIce_76 : decode cX1_freshIce 76 = .ok (.iload 7, 2) := by decide +kernel
theorem dX1_freshIce_78 : decode cX1_freshIce 78 = .ok (.ifCond .eq 14, 3) := by decide +kernel
theorem dX1_freshIce_81 : decode cX1_freshIce 81 = .ok (.iload 5, 2) := by decide +kernel
theorem dX1_freshIce_83 : decode cX1_freshIce 83 = .ok (.ifCond .ne 9, 3) := by decide +kernel
theorem dX1_freshIce_86 : decode cX1_freshIce 86 = .ok (.iload_n 3, 1) := by decide +kernel
theorem dX1_freshIce_87 : decode cX1_freshIce 87 = .ok (.iconst 2, 1) := by decide +kernel
theorem dX1_freshIce_88 : decode cX1_freshIce 88 = .ok (.idiv, 1) := by decide +kernel
theorem dX1_freshIce_89 : decode cX1_freshIce 89 = .ok (.goto 4, 3) := by decide +kernel
theorem dX1_freshIce_92 : decode cX1_freshIce 92 = .ok (.iconst 0, 1) := by decide +kernel
theorem dX1_freshIce_93 : decode cX1_freshIce 93 = .ok (.ireturn, 1) := by decide +kernel
theorem dX1_melting_0 : decode cX1_melting 0 = .ok (.aload_n 0, 1) := by decide +kernel
theorem dX1_melting_1 : decode cX1_melting 1 = .ok (.iconst 3, 1) := by decide +kernel
theorem dX1_melting_2 : decode cX1_melting 2 = .ok (.invokevirtual 42, 3) := by decide +kernel
theorem dX1_melting_5 : decode cX1_melting 5 = .ok (.ifCond .eq 12, 3) := by decide +kernel
theorem dX1_melting_8 : decode cX1_melting 8 = .ok (.iload_n 2, 1) := by decide +kernel
theorem dX1_melting_9 : decode cX1_melting 9 = .ok (.aload_n 0, 1) := by decide +kernel
theorem dX1_melting_10 : decode cX1_melting 10 = .ok (.getfield 15, 3) := by decide +kernel
theorem dX1_melting_13 : decode cX1_melting 13 = .ok (.iadd, 1) := by decide +kernel
theorem dX1_melting_14 : decode cX1_melting 14 = .ok (.goto 11, 3) := by decide +kernel
theorem dX1_melting_17 : decode cX1_melting 17 = .ok (.iload_n 2, 1) := by decide +kernel
theorem dX1_melting_18 : decode cX1_melting 18 = .ok (.aload_n 0, 1) := by decide +kernel
theorem dX1_melting_19 : decode cX1_melting 19 = .ok (.getfield 15, 3) := by decide +kernel
theorem dX1_melting_22 : decode cX1_melting 22 = .ok (.iconst 3, 1) := by decide +kernel
theorem dX1_melting_23 : decode cX1_melting 23 = .ok (.idiv, 1) := by decide +kernel
theorem dX1_melting_24 : decode cX1_melting 24 = .ok (.iadd, 1) := by decide +kernel
theorem dX1_melting_25 : decode cX1_melting 25 = .ok (.istore_n 3, 1) := by decide +kernel
theorem dX1_melting_26 : decode cX1_melting 26 = .ok (.aload_n 0, 1) := by decide +kernel
theorem dX1_melting_27 : decode cX1_melting 27 = .ok (.getfield 9, 3) := by decide +kernel
theorem dX1_melting_30 : decode cX1_melting 30 = .ok (.iconst 4, 1) := by decide +kernel
theorem dX1_melting_31 : decode cX1_melting 31 = .ok (.if_icmp .ne 17, 3) := by decide +kernel
theorem dX1_melting_34 : decode cX1_melting 34 = .ok (.iload_n 1, 1) := by decide +kernel
theorem dX1_melting_35 : decode cX1_melting 35 = .ok (.aload_n 0, 1) := by decide +kernel
theorem dX1_melting_36 : decode cX1_melting 36 = .ok (.getfield 18, 3) := by decide +kernel
theorem dX1_melting_39 : decode cX1_melting 39 = .ok (.if_icmp .lt 9, 3) := by decide +kernel
theorem dX1_melting_42 : decode cX1_melting 42 = .ok (.iload_n 3, 1) := by decide +kernel
theorem dX1_melting_43 : decode cX1_melting 43 = .ok (.iconst 3, 1) := by decide +kernel
theorem dX1_melting_44 : decode cX1_melting 44 = .ok (.iadd, 1) := by decide +kernel
theorem dX1_melting_45 : decode cX1_melting 45 = .ok (.goto 4, 3) := by decide +kernel
theorem dX1_melting_48 : decode cX1_melting 48 = .ok (.iload_n 3, 1) := by decide +kernel
theorem dX1_melting_49 : decode cX1_melting 49 = .ok (.ireturn, 1) := by decide +kernel
theorem dX1_passHours_0 : decode cX1_passHours 0 = .ok (.iload_n 1, 1) := by decide +kernel
theorem dX1_passHours_1 : decode cX1_passHours 1 = .ok (.istore 4, 2) := by decide +kernel
theorem dX1_passHours_3 : decode cX1_passHours 3 = .ok (.iload 4, 2) := by decide +kernel
theorem dX1_passHours_5 : decode cX1_passHours 5 = .ok (.iload_n 2, 1) := by decide +kernel
theorem dX1_passHours_6 : decode cX1_passHours 6 = .ok (.if_icmp .ge 27, 3) := by decide +kernel
theorem dX1_passHours_9 : decode cX1_passHours 9 = .ok (.iload 4, 2) := by decide +kernel
theorem dX1_passHours_11 : decode cX1_passHours 11 = .ok (.bipush 24, 2) := by decide +kernel
theorem dX1_passHours_13 : decode cX1_passHours 13 = .ok (.if_icmp .ge 20, 3) := by decide +kernel
theorem dX1_passHours_16 : decode cX1_passHours 16 = .ok (.aload_n 0, 1) := by decide +kernel
theorem dX1_passHours_17 : decode cX1_passHours 17 = .ok (.aload_n 0, 1) := by decide +kernel
theorem dX1_passHours_18 : decode cX1_passHours 18 = .ok (.iload 4, 2) := by decide +kernel
theorem dX1_passHours_20 : decode cX1_passHours 20 = .ok (.iload_n 3, 1) := by decide +kernel
theorem dX1_passHours_21 : decode cX1_passHours 21 = .ok (.invokevirtual 81, 3) := by decide +kernel
theorem dX1_passHours_24 : decode cX1_passHours 24 = .ok (.invokevirtual 84, 3) := by decide +kernel
theorem dX1_passHours_27 : decode cX1_passHours 27 = .ok (.iinc 4 1, 3) := by decide +kernel
theorem dX1_passHours_30 : decode cX1_passHours 30 = .ok (.goto (-27), 3) := by decide +kernel
theorem dX1_passHours_33 : decode cX1_passHours 33 = .ok (.return_, 1) := by decide +kernel
theorem dX1_meltBy_0 : decode cX1_meltBy 0 = .ok (.aload_n 0, 1) := by decide +kernel
theorem dX1_meltBy_1 : decode cX1_meltBy 1 = .ok (.invokevirtual 88, 3) := by decide +kernel
theorem dX1_meltBy_4 : decode cX1_meltBy 4 = .ok (.istore_n 2, 1) := by decide +kernel
theorem dX1_meltBy_5 : decode cX1_meltBy 5 = .ok (.iload_n 1, 1) := by decide +kernel
theorem dX1_meltBy_6 : decode cX1_meltBy 6 = .ok (.ifCond .le 7, 3) := by decide +kernel
theorem dX1_meltBy_9 : decode cX1_meltBy 9 = .ok (.iload_n 2, 1) := by decide +kernel
theorem dX1_meltBy_10 : decode cX1_meltBy 10 = .ok (.ifCond .ne 4, 3) := by decide +kernel
theorem dX1_meltBy_13 : decode cX1_meltBy 13 = .ok (.return_, 1) := by decide +kernel
theorem dX1_meltBy_14 : decode cX1_meltBy 14 = .ok (.iload_n 2, 1) := by decide +kernel
theorem dX1_meltBy_15 : decode cX1_meltBy 15 = .ok (.iconst 1, 1) := by decide +kernel
theorem dX1_meltBy_16 : decode cX1_meltBy 16 = .ok (.ishl, 1) := by decide +kernel
theorem dX1_meltBy_17 : decode cX1_meltBy 17 = .ok (.iload_n 2, 1) := by decide +kernel
theorem dX1_meltBy_18 : decode cX1_meltBy 18 = .ok (.iconst 1, 1) := by decide +kernel
theorem dX1_meltBy_19 : decode cX1_meltBy 19 = .ok (.ishr, 1) := by decide +kernel
theorem dX1_meltBy_20 : decode cX1_meltBy 20 = .ok (.iand, 1) := by decide +kernel
theorem dX1_meltBy_21 : decode cX1_meltBy 21 = .ok (.sipush 26214, 3) := by decide +kernel
theorem dX1_meltBy_24 : decode cX1_meltBy 24 = .ok (.iand, 1) := by decide +kernel
theorem dX1_meltBy_25 : decode cX1_meltBy 25 = .ok (.istore_n 3, 1) := by decide +kernel
theorem dX1_meltBy_26 : decode cX1_meltBy 26 = .ok (.iconst 0, 1) := by decide +kernel
theorem dX1_meltBy_27 : decode cX1_meltBy 27 = .ok (.istore 4, 2) := by decide +kernel
theorem dX1_meltBy_29 : decode cX1_meltBy 29 = .ok (.iload 4, 2) := by decide +kernel
theorem dX1_meltBy_31 : decode cX1_meltBy 31 = .ok (.aload_n 0, 1) := by decide +kernel
theorem dX1_meltBy_32 : decode cX1_meltBy 32 = .ok (.getfield 27, 3) := by decide +kernel
theorem dX1_meltBy_35 : decode cX1_meltBy 35 = .ok (.arraylength, 1) := by decide +kernel
theorem dX1_meltBy_36 : decode cX1_meltBy 36 = .ok (.if_icmp .ge 48, 3) := by decide +kernel
theorem dX1_meltBy_39 : decode cX1_meltBy 39 = .ok (.iload_n 3, 1) := by decide +kernel
theorem dX1_meltBy_40 : decode cX1_meltBy 40 = .ok (.iload 4, 2) := by decide +kernel
theorem dX1_meltBy_42 : decode cX1_meltBy 42 = .ok (.invokestatic 69, 3) := by decide +kernel
theorem dX1_meltBy_45 : decode cX1_meltBy 45 = .ok (.ifCond .eq 7, 3) := by decide +kernel
theorem dX1_meltBy_48 : decode cX1_meltBy 48 = .ok (.iload_n 1, 1) := by decide +kernel
theorem dX1_meltBy_49 : decode cX1_meltBy 49 = .ok (.goto 6, 3) := by decide +kernel
theorem dX1_meltBy_52 : decode cX1_meltBy 52 = .ok (.iload_n 1, 1) := by decide +kernel
theorem dX1_meltBy_53 : decode cX1_meltBy 53 = .ok (.iconst 1, 1) := by decide +kernel
theorem dX1_meltBy_54 : decode cX1_meltBy 54 = .ok (.iadd, 1) := by decide +kernel
theorem dX1_meltBy_55 : decode cX1_meltBy 55 = .ok (.istore 5, 2) := by decide +kernel
theorem dX1_meltBy_57 : decode cX1_meltBy 57 = .ok (.aload_n 0, 1) := by decide +kernel
theorem dX1_meltBy_58 : decode cX1_meltBy 58 = .ok (.getfield 27, 3) := by decide +kernel
theorem dX1_meltBy_61 : decode cX1_meltBy 61 = .ok (.iload 4, 2) := by decide +kernel
theorem dX1_meltBy_63 : decode cX1_meltBy 63 = .ok (.aload_n 0, 1) := by decide +kernel
theorem dX1_meltBy_64 : decode cX1_meltBy 64 = .ok (.getfield 27, 3) := by decide +kernel
theorem dX1_meltBy_67 : decode cX1_meltBy 67 = .ok (.iload 4, 2) := by decide +kernel
theorem dX1_meltBy_69 : decode cX1_meltBy 69 = .ok (.iaload, 1) := by decide +kernel
theorem dX1_meltBy_70 : decode cX1_meltBy 70 = .ok (.iload 5, 2) := by decide +kernel
theorem dX1_meltBy_72 : decode cX1_meltBy 72 = .ok (.isub, 1) := by decide +kernel
theorem dX1_meltBy_73 : decode cX1_meltBy 73 = .ok (.iconst 0, 1) := by decide +kernel
theorem dX1_meltBy_74 : decode cX1_meltBy 74 = .ok (.invokestatic 46, 3) := by decide +kernel
theorem dX1_meltBy_77 : decode cX1_meltBy 77 = .ok (.iastore, 1) := by decide +kernel
theorem dX1_meltBy_78 : decode cX1_meltBy 78 = .ok (.iinc 4 1, 3) := by decide +kernel
theorem dX1_meltBy_81 : decode cX1_meltBy 81 = .ok (.goto (-52), 3) := by decide +kernel
theorem dX1_meltBy_84 : decode cX1_meltBy 84 = .ok (.return_, 1) := by decide +kernel
theorem dX1_hasCell_0 : decode cX1_hasCell 0 = .ok (.iload_n 0, 1) := by decide +kernel
theorem dX1_hasCell_1 : decode cX1_hasCell 1 = .ok (.iload_n 1, 1) := by decide +kernel
theorem dX1_hasCell_2 : decode cX1_hasCell 2 = .ok (.ishr, 1) := by decide +kernel
theorem dX1_hasCell_3 : decode cX1_hasCell 3 = .ok (.iconst 1, 1) := by decide +kernel
theorem dX1_hasCell_4 : decode cX1_hasCell 4 = .ok (.iand, 1) := by decide +kernel
theorem dX1_hasCell_5 : decode cX1_hasCell 5 = .ok (.iconst 1, 1) := by decide +kernel
theorem dX1_hasCell_6 : decode cX1_hasCell 6 = .ok (.if_icmp .ne 7, 3) := by decide +kernel
theorem dX1_hasCell_9 : decode cX1_hasCell 9 = .ok (.iconst 1, 1) := by decide +kernel
theorem dX1_hasCell_10 : decode cX1_hasCell 10 = .ok (.goto 4, 3) := by decide +kernel
theorem dX1_hasCell_13 : decode cX1_hasCell 13 = .ok (.iconst 0, 1) := by decide +kernel
theorem dX1_hasCell_14 : decode cX1_hasCell 14 = .ok (.ireturn, 1) := by decide +kernel
theorem dX1_cellsBeside_0 : decode cX1_cellsBeside 0 = .ok (.iconst 1, 1) := by decide +kernel
theorem dX1_cellsBeside_1 : decode cX1_cellsBeside 1 = .ok (.iload_n 0, 1) := by decide +kernel
theorem dX1_cellsBeside_2 : decode cX1_cellsBeside 2 = .ok (.ishl, 1) := by decide +kernel
theorem dX1_cellsBeside_3 : decode cX1_cellsBeside 3 = .ok (.istore_n 1, 1) := by decide +kernel
theorem dX1_cellsBeside_4 : decode cX1_cellsBeside 4 = .ok (.iload_n 0, 1) := by decide +kernel
theorem dX1_cellsBeside_5 : decode cX1_cellsBeside 5 = .ok (.iconst 4, 1) := by decide +kernel
theorem dX1_cellsBeside_6 : decode cX1_cellsBeside 6 = .ok (.irem, 1) := by decide +kernel
theorem dX1_cellsBeside_7 : decode cX1_cellsBeside 7 = .ok (.istore_n 2, 1) := by decide +kernel
theorem dX1_cellsBeside_8 : decode cX1_cellsBeside 8 = .ok (.iload_n 2, 1) := by decide +kernel
theorem dX1_cellsBeside_9 : decode cX1_cellsBeside 9 = .ok (.ifCond .le 9, 3) := by decide +kernel
theorem dX1_cellsBeside_12 : decode cX1_cellsBeside 12 = .ok (.iload_n 1, 1) := by decide +kernel
theorem dX1_cellsBeside_13 : decode cX1_cellsBeside 13 = .ok (.iconst 1, 1) := by decide +kernel
theorem dX1_cellsBeside_14 : decode cX1_cellsBeside 14 = .ok (.ishr, 1) := by decide +kernel
theorem dX1_cellsBeside_15 : decode cX1_cellsBeside 15 = .ok (.goto 4, 3) := by decide +kernel
theorem dX1_cellsBeside_18 : decode cX1_cellsBeside 18 = .ok (.iconst 0, 1) := by decide +kernel
theorem dX1_cellsBeside_19 : decode cX1_cellsBeside 19 = .ok (.istore_n 3, 1) := by decide +kernel
theorem dX1_cellsBeside_20 : decode cX1_cellsBeside 20 = .ok (.iload_n 2, 1) := by decide +kernel
theorem dX1_cellsBeside_21 : decode cX1_cellsBeside 21 = .ok (.iconst 3, 1) := by decide +kernel
theorem dX1_cellsBeside_22 : decode cX1_cellsBeside 22 = .ok (.if_icmp .ge 9, 3) := by decide +kernel
theorem dX1_cellsBeside_25 : decode cX1_cellsBeside 25 = .ok (.iload_n 1, 1) := by decide +kernel
theorem dX1_cellsBeside_26 : decode cX1_cellsBeside 26 = .ok (.iconst 1, 1) := by decide +kernel
theorem dX1_cellsBeside_27 : decode cX1_cellsBeside 27 = .ok (.ishl, 1) := by decide +kernel
theorem dX1_cellsBeside_28 : decode cX1_cellsBeside 28 = .ok (.goto 4, 3) := by decide +kernel
theorem dX1_cellsBeside_31 : decode cX1_cellsBeside 31 = .ok (.iconst 0, 1) := by decide +kernel
theorem dX1_cellsBeside_32 : decode cX1_cellsBeside 32 = .ok (.istore 4, 2) := by decide +kernel
theorem dX1_cellsBeside_34 : decode cX1_cellsBeside 34 = .ok (.iload_n 1, 1) := by decide +kernel
theorem dX1_cellsBeside_35 : decode cX1_cellsBeside 35 = .ok (.iconst 4, 1) := by decide +kernel
theorem dX1_cellsBeside_36 : decode cX1_cellsBeside 36 = .ok (.ishr, 1) := by decide +kernel
theorem dX1_cellsBeside_37 : decode cX1_cellsBeside 37 = .ok (.iload_n 1, 1) := by decide +kernel
theorem dX1_cellsBeside_38 : decode cX1_cellsBeside 38 = .ok (.iconst 4, 1) := by decide +kernel
theorem dX1_cellsBeside_39 : decode cX1_cellsBeside 39 = .ok (.ishl, 1) := by decide +kernel
theorem dX1_cellsBeside_40 : decode cX1_cellsBeside 40 = .ok (.ior, 1) := by decide +kernel
theorem dX1_cellsBeside_41 : decode cX1_cellsBeside 41 = .ok (.iload_n 3, 1) := by decide +kernel
theorem dX1_cellsBeside_42 : decode cX1_cellsBeside 42 = .ok (.ior, 1) := by decide +kernel
theorem dX1_cellsBeside_43 : decode cX1_cellsBeside 43 = .ok (.iload 4, 2) := by decide +kernel
theorem dX1_cellsBeside_45 : decode cX1_cellsBeside 45 = .ok (.ior, 1) := by decide +kernel
theorem dX1_cellsBeside_46 : decode cX1_cellsBeside 46 = .ok (.ldc 91, 2) := by decide +kernel
theorem dX1_cellsBeside_48 : decode cX1_cellsBeside 48 = .ok (.iand, 1) := by decide +kernel
theorem dX1_cellsBeside_49 : decode cX1_cellsBeside 49 = .ok (.ireturn, 1) := by decide +kernel
theorem dX1_frosted_0 : decode cX1_frosted 0 = .ok (.iconst 0, 1) := by decide +kernel
theorem dX1_frosted_1 : decode cX1_frosted 1 = .ok (.istore_n 1, 1) := by decide +kernel
theorem dX1_frosted_2 : decode cX1_frosted 2 = .ok (.iconst 0, 1) := by decide +kernel
theorem dX1_frosted_3 : decode cX1_frosted 3 = .ok (.istore_n 2, 1) := by decide +kernel
theorem dX1_frosted_4 : decode cX1_frosted 4 = .ok (.iload_n 2, 1) := by decide +kernel
theorem dX1_frosted_5 : decode cX1_frosted 5 = .ok (.aload_n 0, 1) := by decide +kernel
theorem dX1_frosted_6 : decode cX1_frosted 6 = .ok (.getfield 27, 3) := by decide +kernel
theorem dX1_frosted_9 : decode cX1_frosted 9 = .ok (.arraylength, 1) := by decide +kernel
theorem dX1_frosted_10 : decode cX1_frosted 10 = .ok (.if_icmp .ge 24, 3) := by decide +kernel
theorem dX1_frosted_13 : decode cX1_frosted 13 = .ok (.aload_n 0, 1) := by decide +kernel
theorem dX1_frosted_14 : decode cX1_frosted 14 = .ok (.getfield 27, 3) := by decide +kernel
theorem dX1_frosted_17 : decode cX1_frosted 17 = .ok (.iload_n 2, 1) := by decide +kernel
theorem dX1_frosted_18 : decode cX1_frosted 18 = .ok (.iaload, 1) := by decide +kernel
theorem dX1_frosted_19 : decode cX1_frosted 19 = .ok (.ifCond .le 9, 3) := by decide +kernel
theorem dX1_frosted_22 : decode cX1_frosted 22 = .ok (.iload_n 1, 1) := by decide +kernel
theorem dX1_frosted_23 : decode cX1_frosted 23 = .ok (.iconst 1, 1) := by decide +kernel
theorem dX1_frosted_24 : decode cX1_frosted 24 = .ok (.iload_n 2, 1) := by decide +kernel
theorem dX1_frosted_25 : decode cX1_frosted 25 = .ok (.ishl, 1) := by decide +kernel
theorem dX1_frosted_26 : decode cX1_frosted 26 = .ok (.ior, 1) := by decide +kernel
theorem dX1_frosted_27 : decode cX1_frosted 27 = .ok (.istore_n 1, 1) := by decide +kernel
theorem dX1_frosted_28 : decode cX1_frosted 28 = .ok (.iinc 2 1, 3) := by decide +kernel
theorem dX1_frosted_31 : decode cX1_frosted 31 = .ok (.goto (-27), 3) := by decide +kernel
theorem dX1_frosted_34 : decode cX1_frosted 34 = .ok (.iload_n 1, 1) := by decide +kernel
theorem dX1_frosted_35 : decode cX1_frosted 35 = .ok (.ireturn, 1) := by decide +kernel
theorem dX1_iceOn_0 : decode cX1_iceOn 0 = .ok (.iload_n 1, 1) := by decide +kernel
theorem dX1_iceOn_1 : decode cX1_iceOn 1 = .ok (.ifCond .lt 21, 3) := by decide +kernel
theorem dX1_iceOn_4 : decode cX1_iceOn 4 = .ok (.iload_n 1, 1) := by decide +kernel
theorem dX1_iceOn_5 : decode cX1_iceOn 5 = .ok (.aload_n 0, 1) := by decide +kernel
theorem dX1_iceOn_6 : decode cX1_iceOn 6 = .ok (.getfield 27, 3) := by decide +kernel
theorem dX1_iceOn_9 : decode cX1_iceOn 9 = .ok (.arraylength, 1) := by decide +kernel
theorem dX1_iceOn_10 : decode cX1_iceOn 10 = .ok (.if_icmp .ge 12, 3) := by decide +kernel
theorem dX1_iceOn_13 : decode cX1_iceOn 13 = .ok (.aload_n 0, 1) := by decide +kernel
theorem dX1_iceOn_14 : decode cX1_iceOn 14 = .ok (.getfield 27, 3) := by decide +kernel
theorem dX1_iceOn_17 : decode cX1_iceOn 17 = .ok (.iload_n 1, 1) := by decide +kernel
theorem dX1_iceOn_18 : decode cX1_iceOn 18 = .ok (.iaload, 1) := by decide +kernel
theorem dX1_iceOn_19 : decode cX1_iceOn 19 = .ok (.goto 4, 3) := by decide +kernel
theorem dX1_iceOn_22 : decode cX1_iceOn 22 = .ok (.iconst 0, 1) := by decide +kernel
theorem dX1_iceOn_23 : decode cX1_iceOn 23 = .ok (.ireturn, 1) := by decide +kernel
theorem dX1_isScratched_0 : decode cX1_isScratched 0 = .ok (.aload_n 0, 1) := by decide +kernel
theorem dX1_isScratched_1 : decode cX1_isScratched 1 = .ok (.getfield 24, 3) := by decide +kernel
theorem dX1_isScratched_4 : decode cX1_isScratched 4 = .ok (.iload_n 1, 1) := by decide +kernel
theorem dX1_isScratched_5 : decode cX1_isScratched 5 = .ok (.invokestatic 69, 3) := by decide +kernel
theorem dX1_isScratched_8 : decode cX1_isScratched 8 = .ok (.ireturn, 1) := by decide +kernel
theorem dX1_breatheOn_0 : decode cX1_breatheOn 0 = .ok (.iload_n 1, 1) := by decide +kernel
theorem dX1_breatheOn_1 : decode cX1_breatheOn 1 = .ok (.invokestatic 73, 3) := by decide +kernel
theorem dX1_breatheOn_4 : decode cX1_breatheOn 4 = .ok (.iconst 1, 1) := by decide +kernel
theorem dX1_breatheOn_5 : decode cX1_breatheOn 5 = .ok (.iload_n 1, 1) := by decide +kernel
theorem dX1_breatheOn_6 : decode cX1_breatheOn 6 = .ok (.ishl, 1) := by decide +kernel
theorem dX1_breatheOn_7 : decode cX1_breatheOn 7 = .ok (.ior, 1) := by decide +kernel
theorem dX1_breatheOn_8 : decode cX1_breatheOn 8 = .ok (.istore_n 2, 1) := by decide +kernel
theorem dX1_breatheOn_9 : decode cX1_breatheOn 9 = .ok (.aload_n 0, 1) := by decide +kernel
theorem dX1_breatheOn_10 : decode cX1_breatheOn 10 = .ok (.invokevirtual 88, 3) := by decide +kernel
theorem dX1_breatheOn_13 : decode cX1_breatheOn 13 = .ok (.iload_n 2, 1) := by decide +kernel
theorem dX1_breatheOn_14 : decode cX1_breatheOn 14 = .ok (.iand, 1) := by decide +kernel
theorem dX1_breatheOn_15 : decode cX1_breatheOn 15 = .ok (.invokestatic 76, 3) := by decide +kernel
theorem dX1_breatheOn_18 : decode cX1_breatheOn 18 = .ok (.istore_n 3, 1) := by decide +kernel
theorem dX1_breatheOn_19 : decode cX1_breatheOn 19 = .ok (.iconst 0, 1) := by decide +kernel
theorem dX1_breatheOn_20 : decode cX1_breatheOn 20 = .ok (.istore 4, 2) := by decide +kernel
theorem dX1_breatheOn_22 : decode cX1_breatheOn 22 = .ok (.iload 4, 2) := by decide +kernel
theorem dX1_breatheOn_24 : decode cX1_breatheOn 24 = .ok (.aload_n 0, 1) := by decide +kernel
theorem dX1_breatheOn_25 : decode cX1_breatheOn 25 = .ok (.getfield 27, 3) := by decide +kernel
theorem dX1_breatheOn_28 : decode cX1_breatheOn 28 = .ok (.arraylength, 1) := by decide +kernel
theorem dX1_breatheOn_29 : decode cX1_breatheOn 29 = .ok (.if_icmp .ge 26, 3) := by decide +kernel
theorem dX1_breatheOn_32 : decode cX1_breatheOn 32 = .ok (.iload_n 2, 1) := by decide +kernel
theorem dX1_breatheOn_33 : decode cX1_breatheOn 33 = .ok (.iload 4, 2) := by decide +kernel
theorem dX1_breatheOn_35 : decode cX1_breatheOn 35 = .ok (.invokestatic 69, 3) := by decide +kernel
theorem dX1_breatheOn_38 : decode cX1_breatheOn 38 = .ok (.ifCond .eq 11, 3) := by decide +kernel
theorem dX1_breatheOn_41 : decode cX1_breatheOn 41 = .ok (.aload_n 0, 1) := by decide +kernel
theorem dX1_breatheOn_42 : decode cX1_breatheOn 42 = .ok (.getfield 27, 3) := by decide +kernel
theorem dX1_breatheOn_45 : decode cX1_breatheOn 45 = .ok (.iload 4, 2) := by decide +kernel
theorem dX1_breatheOn_47 : decode cX1_breatheOn 47 = .ok (.iconst 0, 1) := by decide +kernel
theorem dX1_breatheOn_48 : decode cX1_breatheOn 48 = .ok (.iastore, 1) := by decide +kernel
theorem dX1_breatheOn_49 : decode cX1_breatheOn 49 = .ok (.iinc 4 1, 3) := by decide +kernel
theorem dX1_breatheOn_52 : decode cX1_breatheOn 52 = .ok (.goto (-30), 3) := by decide +kernel
theorem dX1_breatheOn_55 : decode cX1_breatheOn 55 = .ok (.iload_n 3, 1) := by decide +kernel
theorem dX1_breatheOn_56 : decode cX1_breatheOn 56 = .ok (.ireturn, 1) := by decide +kernel
theorem dX1_scratchOff_0 : decode cX1_scratchOff 0 = .ok (.aload_n 0, 1) := by decide +kernel
theorem dX1_scratchOff_1 : decode cX1_scratchOff 1 = .ok (.iload_n 1, 1) := by decide +kernel
theorem dX1_scratchOff_2 : decode cX1_scratchOff 2 = .ok (.invokevirtual 38, 3) := by decide +kernel
theorem dX1_scratchOff_5 : decode cX1_scratchOff 5 = .ok (.istore_n 2, 1) := by decide +kernel
theorem dX1_scratchOff_6 : decode cX1_scratchOff 6 = .ok (.aload_n 0, 1) := by decide +kernel
theorem dX1_scratchOff_7 : decode cX1_scratchOff 7 = .ok (.dup, 1) := by decide +kernel
theorem dX1_scratchOff_8 : decode cX1_scratchOff 8 = .ok (.getfield 24, 3) := by decide +kernel
theorem dX1_scratchOff_11 : decode cX1_scratchOff 11 = .ok (.iconst 1, 1) := by decide +kernel
theorem dX1_scratchOff_12 : decode cX1_scratchOff 12 = .ok (.iload_n 1, 1) := by decide +kernel
theorem dX1_scratchOff_13 : decode cX1_scratchOff 13 = .ok (.ishl, 1) := by decide +kernel
theorem dX1_scratchOff_14 : decode cX1_scratchOff 14 = .ok (.ior, 1) := by decide +kernel
theorem dX1_scratchOff_15 : decode cX1_scratchOff 15 = .ok (.putfield 24, 3) := by decide +kernel
theorem dX1_scratchOff_18 : decode cX1_scratchOff 18 = .ok (.iload_n 1, 1) := by decide +kernel
theorem dX1_scratchOff_19 : decode cX1_scratchOff 19 = .ok (.ifCond .lt 19, 3) := by decide +kernel
theorem dX1_scratchOff_22 : decode cX1_scratchOff 22 = .ok (.iload_n 1, 1) := by decide +kernel
theorem dX1_scratchOff_23 : decode cX1_scratchOff 23 = .ok (.aload_n 0, 1) := by decide +kernel
theorem dX1_scratchOff_24 : decode cX1_scratchOff 24 = .ok (.getfield 27, 3) := by decide +kernel
theorem dX1_scratchOff_27 : decode cX1_scratchOff 27 = .ok (.arraylength, 1) := by decide +kernel
theorem dX1_scratchOff_28 : decode cX1_scratchOff 28 = .ok (.if_icmp .ge 10, 3) := by decide +kernel
theorem dX1_scratchOff_31 : decode cX1_scratchOff 31 = .ok (.aload_n 0, 1) := by decide +kernel
theorem dX1_scratchOff_32 : decode cX1_scratchOff 32 = .ok (.getfield 27, 3) := by decide +kernel
theorem dX1_scratchOff_35 : decode cX1_scratchOff 35 = .ok (.iload_n 1, 1) := by decide +kernel
theorem dX1_scratchOff_36 : decode cX1_scratchOff 36 = .ok (.iconst 0, 1) := by decide +kernel
theorem dX1_scratchOff_37 : decode cX1_scratchOff 37 = .ok (.iastore, 1) := by decide +kernel
theorem dX1_scratchOff_38 : decode cX1_scratchOff 38 = .ok (.iload_n 2, 1) := by decide +kernel
theorem dX1_scratchOff_39 : decode cX1_scratchOff 39 = .ok (.ireturn, 1) := by decide +kernel
theorem dX2_init_0 : decode cX2_init 0 = .ok (.aload_n 0, 1) := by decide +kernel
theorem dX2_init_1 : decode cX2_init 1 = .ok (.invokespecial 3, 3) := by decide +kernel
theorem dX2_init_4 : decode cX2_init 4 = .ok (.aload_n 0, 1) := by decide +kernel
theorem dX2_init_5 : decode cX2_init 5 = .ok (.iconst 3, 1) := by decide +kernel
theorem dX2_init_6 : decode cX2_init 6 = .ok (.newarray .int, 2) := by decide +kernel
theorem dX2_init_8 : decode cX2_init 8 = .ok (.putfield 9, 3) := by decide +kernel
theorem dX2_init_11 : decode cX2_init 11 = .ok (.aload_n 0, 1) := by decide +kernel
theorem dX2_init_12 : decode cX2_init 12 = .ok (.iconst 0, 1) := by decide +kernel
theorem dX2_init_13 : decode cX2_init 13 = .ok (.putfield 15, 3) := by decide +kernel
theorem dX2_init_16 : decode cX2_init 16 = .ok (.aload_n 0, 1) := by decide +kernel
theorem dX2_init_17 : decode cX2_init 17 = .ok (.iconst (-1), 1) := by decide +kernel
theorem dX2_init_18 : decode cX2_init 18 = .ok (.putfield 19, 3) := by decide +kernel
theorem dX2_init_21 : decode cX2_init 21 = .ok (.return_, 1) := by decide +kernel
theorem dX2_itemsOf_0 : decode cX2_itemsOf 0 = .ok (.aload_n 0, 1) := by decide +kernel
theorem dX2_itemsOf_1 : decode cX2_itemsOf 1 = .ok (.iconst 0, 1) := by decide +kernel
theorem dX2_itemsOf_2 : decode cX2_itemsOf 2 = .ok (.putfield 15, 3) := by decide +kernel
theorem dX2_itemsOf_5 : decode cX2_itemsOf 5 = .ok (.aload_n 0, 1) := by decide +kernel
theorem dX2_itemsOf_6 : decode cX2_itemsOf 6 = .ok (.iconst (-1), 1) := by decide +kernel
theorem dX2_itemsOf_7 : decode cX2_itemsOf 7 = .ok (.putfield 19, 3) := by decide +kernel
theorem dX2_itemsOf_10 : decode cX2_itemsOf 10 = .ok (.iconst 1, 1) := by decide +kernel
theorem dX2_itemsOf_11 : decode cX2_itemsOf 11 = .ok (.istore_n 3, 1) := by decide +kernel
theorem dX2_itemsOf_12 : decode cX2_itemsOf 12 = .ok (.iload_n 3, 1) := by decide +kernel
theorem dX2_itemsOf_13 : decode cX2_itemsOf 13 = .ok (.sipush 160, 3) := by decide +kernel
theorem dX2_itemsOf_16 : decode cX2_itemsOf 16 = .ok (.if_icmp .gt 45, 3) := by decide +kernel
theorem dX2_itemsOf_19 : decode cX2_itemsOf 19 = .ok (.aload_n 0, 1) := by decide +kernel
theorem dX2_itemsOf_20 : decode cX2_itemsOf 20 = .ok (.aload_n 1, 1) := by decide +kernel
theorem dX2_itemsOf_21 : decode cX2_itemsOf 21 = .ok (.aload_n 2, 1) := by decide +kernel
theorem dX2_itemsOf_22 : decode cX2_itemsOf 22 = .ok (.invokevirtual 24, 3) := by decide +kernel
theorem dX2_itemsOf_25 : decode cX2_itemsOf 25 = .ok (.ifCond .ne 5, 3) := by decide +kernel
theorem dX2_itemsOf_28 : decode cX2_itemsOf 28 = .ok (.iconst (-1), 1) := by decide +kernel
theorem dX2_itemsOf_29 : decode cX2_itemsOf 29 = .ok (.ireturn, 1) := by decide +kernel
theorem dX2_itemsOf_30 : decode cX2_itemsOf 30 = .ok (.aload_n 0, 1) := by decide +kernel
theorem dX2_itemsOf_31 : decode cX2_itemsOf 31 = .ok (.getfield 15, 3) := by decide +kernel
theorem dX2_itemsOf_34 : decode cX2_itemsOf 34 = .ok (.aload_n 1, 1) := by decide +kernel
theorem dX2_itemsOf_35 : decode cX2_itemsOf 35 = .ok (.getfield 28, 3) := by decide +kernel
theorem dX2_itemsOf_38 : decode cX2_itemsOf 38 = .ok (.if_icmp .lt 5, 3) := by decide +kernel
theorem dX2_itemsOf_41 : decode cX2_itemsOf 41 = .ok (.iload_n 3, 1) := by decide +kernel
theorem dX2_itemsOf_42 : decode cX2_itemsOf 42 = .ok (.ireturn, 1) := by decide +kernel
theorem dX2_itemsOf_43 : decode cX2_itemsOf 43 = .ok (.aload_n 0, 1) := by decide +kernel
theorem dX2_itemsOf_44 : decode cX2_itemsOf 44 = .ok (.aload_n 1, 1) := by decide +kernel
theorem dX2_itemsOf_45 : decode cX2_itemsOf 45 = .ok (.bipush 59, 2) := by decide +kernel
theorem dX2_itemsOf_47 : decode cX2_itemsOf 47 = .ok (.invokevirtual 31, 3) := by decide +kernel
theorem dX2_itemsOf_50 : decode cX2_itemsOf 50 = .ok (.ifCond .ne 5, 3) := by decide +kernel
theorem dX2_itemsOf_53 : decode cX2_itemsOf 53 = .ok (.iconst (-1), 1) := by decide +kernel
theorem dX2_itemsOf_54 : decode cX2_itemsOf 54 = .ok (.ireturn, 1) := by decide +kernel
theorem dX2_itemsOf_55 : decode cX2_itemsOf 55 = .ok (.iinc 3 1, 3) := by decide +kernel
theorem dX2_itemsOf_58 : decode cX2_itemsOf 58 = .ok (.goto (-46), 3) := by decide +kernel
theorem dX2_itemsOf_61 : decode cX2_itemsOf 61 = .ok (.aload_n 0, 1) := by decide +kernel
theorem dX2_itemsOf_62 : decode cX2_itemsOf 62 = .ok (.aload_n 0, 1) := by decide +kernel
theorem dX2_itemsOf_63 : decode cX2_itemsOf 63 = .ok (.getfield 15, 3) := by decide +kernel
theorem dX2_itemsOf_66 : decode cX2_itemsOf 66 = .ok (.invokevirtual 35, 3) := by decide +kernel
theorem dX2_itemsOf_69 : decode cX2_itemsOf 69 = .ok (.pop, 1) := by decide +kernel
theorem dX2_itemsOf_70 : decode cX2_itemsOf 70 = .ok (.iconst (-1), 1) := by decide +kernel
theorem dX2_itemsOf_71 : decode cX2_itemsOf 71 = .ok (.ireturn, 1) := by decide +kernel
theorem dX2_failAt_0 : decode cX2_failAt 0 = .ok (.aload_n 0, 1) := by decide +kernel
theorem dX2_failAt_1 : decode cX2_failAt 1 = .ok (.iload_n 1, 1) := by decide +kernel
theorem dX2_failAt_2 : decode cX2_failAt 2 = .ok (.putfield 19, 3) := by decide +kernel
theorem dX2_failAt_5 : decode cX2_failAt 5 = .ok (.iconst 0, 1) := by decide +kernel
theorem dX2_failAt_6 : decode cX2_failAt 6 = .ok (.ireturn, 1) := by decide +kernel
theorem dX2_signStands_0 : decode cX2_signStands 0 = .ok (.aload_n 0, 1) := by decide +kernel
theorem dX2_signStands_1 : decode cX2_signStands 1 = .ok (.getfield 15, 3) := by decide +kernel
theorem dX2_signStands_4 : decode cX2_signStands 4 = .ok (.aload_n 1, 1) := by decide +kernel
theorem dX2_signStands_5 : decode cX2_signStands 5 = .ok (.getfield 28, 3) := by decide +kernel
theorem dX2_signStands_8 : decode cX2_signStands 8 = .ok (.if_icmp .ge 15, 3) := by decide +kernel
theorem dX2_signStands_11 : decode cX2_signStands 11 = .ok (.aload_n 1, 1) := by decide +kernel
theorem dX2_signStands_12 : decode cX2_signStands 12 = .ok (.aload_n 0, 1) := by decide +kernel
theorem dX2_signStands_13 : decode cX2_signStands 13 = .ok (.getfield 15, 3) := by decide +kernel
theorem dX2_signStands_16 : decode cX2_signStands 16 = .ok (.invokevirtual 39, 3) := by decide +kernel
theorem dX2_signStands_19 : decode cX2_signStands 19 = .ok (.iload_n 2, 1) := by decide +kernel
theorem dX2_signStands_20 : decode cX2_signStands 20 = .ok (.if_icmp .eq 12, 3) := by decide +kernel
theorem dX2_signStands_23 : decode cX2_signStands 23 = .ok (.aload_n 0, 1) := by decide +kernel
theorem dX2_signStands_24 : decode cX2_signStands 24 = .ok (.aload_n 0, 1) := by decide +kernel
theorem dX2_signStands_25 : decode cX2_signStands 25 = .ok (.getfield 15, 3) := by decide +kernel
theorem dX2_signStands_28 : decode cX2_signStands 28 = .ok (.invokevirtual 35, 3) := by decide +kernel
theorem dX2_signStands_31 : decode cX2_signStands 31 = .ok (.ireturn, 1) := by decide +kernel
theorem dX2_signStands_32 : decode cX2_signStands 32 = .ok (.aload_n 0, 1) := by decide +kernel
theorem dX2_signStands_33 : decode cX2_signStands 33 = .ok (.dup, 1) := by decide +kernel
theorem dX2_signStands_34 : decode cX2_signStands 34 = .ok (.getfield 15, 3) := by decide +kernel
theorem dX2_signStands_37 : decode cX2_signStands 37 = .ok (.iconst 1, 1) := by decide +kernel
theorem dX2_signStands_38 : decode cX2_signStands 38 = .ok (.iadd, 1) := by decide +kernel
theorem dX2_signStands_39 : decode cX2_signStands 39 = .ok (.putfield 15, 3) := by decide +kernel
theorem dX2_signStands_42 : decode cX2_signStands 42 = .ok (.iconst 1, 1) := by decide +kernel
theorem dX2_signStands_43 : decode cX2_signStands 43 = .ok (.ireturn, 1) := by decide +kernel
theorem dX2_itemStands_0 : decode cX2_itemStands 0 = .ok (.aload_n 0, 1) := by decide +kernel
theorem dX2_itemStands_1 : decode cX2_itemStands 1 = .ok (.getfield 15, 3) := by decide +kernel
theorem dX2_itemStands_4 : decode cX2_itemStands 4 = .ok (.istore_n 3, 1) := by decide +kernel
theorem dX2_itemStands_5 : decode cX2_itemStands 5 = .ok (.aload_n 0, 1) := by decide +kernel
theorem dX2_itemStands_6 : decode cX2_itemStands 6 = .ok (.getfield 15, 3) := by decide +kernel
theorem dX2_itemStands_9 : decode cX2_itemStands 9 = .ok (.aload_n 1, 1) := by decide +kernel
theorem dX2_itemStands_10 : decode cX2_itemStands 10 = .ok (.getfield 28, 3) := by decide +kernel
theorem dX2_itemStands_13 : decode cX2_itemStands 13 = .ok (.if_icmp .ge 17, 3) := by decide +kernel
theorem dX2_itemStands_16 : decode cX2_itemStands 16 = .ok (.aload_n 1, 1) := by decide +kernel
theorem dX2_itemStands_17 : decode cX2_itemStands 17 = .ok (.aload_n 0, 1) := by decide +kernel
theorem dX2_itemStands_18 : decode cX2_itemStands 18 = .ok (.getfield 15, 3) := by decide +kernel
theorem dX2_itemStands_21 : decode cX2_itemStands 21 = .ok (.invokevirtual 39, 3) := by decide +kernel
theorem dX2_itemStands_24 : decode cX2_itemStands 24 = .ok (.invokestatic 43, 3) := by decide +kernel
theorem dX2_itemStands_27 : decode cX2_itemStands 27 = .ok (.goto 4, 3) := by decide +kernel
theorem dX2_itemStands_30 : decode cX2_itemStands 30 = .ok (.iconst (-1), 1) := by decide +kernel
theorem dX2_itemStands_31 : decode cX2_itemStands 31 = .ok (.istore 4, 2) := by decide +kernel
theorem dX2_itemStands_33 : decode cX2_itemStands 33 = .ok (.iload 4, 2) := by decide +kernel
theorem dX2_itemStands_35 : decode cX2_itemStands 35 = .ok (.iconst (-1), 1) := by decide +kernel
theorem dX2_itemStands_36 : decode cX2_itemStands 36 = .ok (.if_icmp .ne 12, 3) := by decide +kernel
theorem dX2_itemStands_39 : decode cX2_itemStands 39 = .ok (.aload_n 0, 1) := by decide +kernel
theorem dX2_itemStands_40 : decode cX2_itemStands 40 = .ok (.aload_n 0, 1) := by decide +kernel
theorem dX2_itemStands_41 : decode cX2_itemStands 41 = .ok (.getfield 15, 3) := by decide +kernel
theorem dX2_itemStands_44 : decode cX2_itemStands 44 = .ok (.invokevirtual 35, 3) := by decide +kernel
theorem dX2_itemStands_47 : decode cX2_itemStands 47 = .ok (.ireturn, 1) := by decide +kernel
theorem dX2_itemStands_48 : decode cX2_itemStands 48 = .ok (.aload_n 0, 1) := by decide +kernel
theorem dX2_itemStands_49 : decode cX2_itemStands 49 = .ok (.aload_n 1, 1) := by decide +kernel
theorem dX2_itemStands_50 : decode cX2_itemStands 50 = .ok (.iload 4, 2) := by decide +kernel
theorem dX2_itemStands_52 : decode cX2_itemStands 52 = .ok (.invokestatic 46, 3) := by decide +kernel
theorem dX2_itemStands_55 : decode cX2_itemStands 55 = .ok (.invokevirtual 50, 3) := by decide +kernel
theorem dX2_itemStands_58 : decode cX2_itemStands 58 = .ok (.ifCond .ne 5, 3) := by decide +kernel
theorem dX2_itemStands_61 : decode cX2_itemStands 61 = .ok (.iconst 0, 1) := by decide +kernel
theorem dX2_itemStands_62 : decode cX2_itemStands 62 = .ok (.ireturn, 1) := by decide +kernel
theorem dX2_itemStands_63 : decode cX2_itemStands 63 = .ok (.iload 4, 2) := by decide +kernel
theorem dX2_itemStands_65 : decode cX2_itemStands 65 = .ok (.aload_n 2, 1) := by decide +kernel
theorem dX2_itemStands_66 : decode cX2_itemStands 66 = .ok (.invokestatic 54, 3) := by decide +kernel
theorem dX2_itemStands_69 : decode cX2_itemStands 69 = .ok (.ifCond .ne 9, 3) := by decide +kernel
theorem dX2_itemStands_72 : decode cX2_itemStands 72 = .ok (.aload_n 0, 1) := by decide +kernel
theorem dX2_itemStands_73 : decode cX2_itemStands 73 = .ok (.iload_n 3, 1) := by decide +kernel
theorem dX2_itemStands_74 : decode cX2_itemStands 74 = .ok (.invokevirtual 35, 3) := by decide +kernel
theorem dX2_itemStands_77 : decode cX2_itemStands 77 = .ok (.ireturn, 1) := by decide +kernel
theorem dX2_itemStands_78 : decode cX2_itemStands 78 = .ok (.iconst 0, 1) := by decide +kernel
theorem dX2_itemStands_79 : decode cX2_itemStands 79 = .ok (.istore 5, 2) := by decide +kernel
theorem dX2_itemStands_81 : decode cX2_itemStands 81 = .ok (.iload 5, 2) := by decide +kernel
theorem dX2_itemStands_83 : decode cX2_itemStands 83 = .ok (.iload 4, 2) := by decide +kernel
theorem dX2_itemStands_85 : decode cX2_itemStands 85 = .ok (.invokestatic 58, 3) := by decide +kernel
theorem dX2_itemStands_88 : decode cX2_itemStands 88 = .ok (.if_icmp .ge 49, 3) := by decide +kernel
theorem dX2_itemStands_91 : decode cX2_itemStands 91 = .ok (.iload 5, 2) := by decide +kernel
theorem dX2_itemStands_93 : decode cX2_itemStands 93 = .ok (.aload_n 0, 1) := by decide +kernel
theorem dX2_itemStands_94 : decode cX2_itemStands 94 = .ok (.getfield 9, 3) := by decide +kernel
theorem dX2_itemStands_97 : decode cX2_itemStands 97 = .ok (.arraylength, 1) := by decide +kernel
theorem dX2_itemStands_98 : decode cX2_itemStands 98 = .ok (.if_icmp .ge 39, 3) := by decide +kernel
theorem dX2_itemStands_101 : decode cX2_itemStands 101 = .ok (.aload_n 0, 1) := by decide +kernel
theorem dX2_itemStands_102 : decode cX2_itemStands 102 = .ok (.aload_n 1, 1) := by decide +kernel
theorem dX2_itemStands_103 : decode cX2_itemStands 103 = .ok (.bipush 32, 2) := by decide +kernel
theorem dX2_itemStands_105 : decode cX2_itemStands 105 = .ok (.invokevirtual 31, 3) := by decide +kernel
theorem dX2_itemStands_108 : decode cX2_itemStands 108 = .ok (.ifCond .eq 21, 3) := by decide +kernel
theorem dX2_itemStands_111 : decode cX2_itemStands 111 = .ok (.aload_n 0, 1) := by decide +kernel
theorem dX2_itemStands_112 : decode cX2_itemStands 112 = .ok (.aload_n 1, 1) := by decide +kernel
theorem dX2_itemStands_113 : decode cX2_itemStands 113 = .ok (.iload 4, 2) := by decide +kernel
theorem dX2_itemStands_115 : decode cX2_itemStands 115 = .ok (.iload 5, 2) := by decide +kernel
theorem dX2_itemStands_117 : decode cX2_itemStands 117 = .ok (.aload_n 2, 1) := by decide +kernel
theorem dX2_itemStands_118 : decode cX2_itemStands 118 = .ok (.invokestatic 61, 3) := by decide +kernel
theorem dX2_itemStands_121 : decode cX2_itemStands 121 = .ok (.iload 5, 2) := by decide +kernel
theorem dX2_itemStands_123 : decode cX2_itemStands 123 = .ok (.invokevirtual 65, 3) := by decide +kernel
theorem dX2_itemStands_126 : decode cX2_itemStands 126 = .ok (.ifCond .ne 5, 3) := by decide +kernel
theorem dX2_itemStands_129 : decode cX2_itemStands 129 = .ok (.iconst 0, 1) := by decide +kernel
theorem dX2_itemStands_130 : decode cX2_itemStands 130 = .ok (.ireturn, 1) := by decide +kernel
theorem dX2_itemStands_131 : decode cX2_itemStands 131 = .ok (.iinc 5 1, 3) := by decide +kernel
theorem dX2_itemStands_134 : decode cX2_itemStands 134 = .ok (.goto (-53), 3) := by decide +kernel
theorem dX2_itemStands_137 : decode cX2_itemStands 137 = .ok (.aload_n 0, 1) := by decide +kernel
theorem dX2_itemStands_138 : decode cX2_itemStands 138 = .ok (.iload 4, 2) := by decide +kernel
theorem dX2_itemStands_140 : decode cX2_itemStands 140 = .ok (.aload_n 2, 1) := by decide +kernel
theorem dX2_itemStands_141 : decode cX2_itemStands 141 = .ok (.invokevirtual 69, 3) := by decide +kernel
theorem dX2_itemStands_144 : decode cX2_itemStands 144 = .ok (.iconst 1, 1) := by decide +kernel
theorem dX2_itemStands_145 : decode cX2_itemStands 145 = .ok (.ireturn, 1) := by decide +kernel
theorem dX2_lettersStand_0 : decode cX2_lettersStand 0 = .ok (.iconst 0, 1) := by decide +kernel
theorem dX2_lettersStand_1 : decode cX2_lettersStand 1 = .ok (.istore_n 3, 1) := by decide +kernel
theorem dX2_lettersStand_2 : decode cX2_lettersStand 2 = .ok (.iload_n 3, 1) := by decide +kernel
theorem dX2_lettersStand_3 : decode cX2_lettersStand 3 = .ok (.aload_n 2, 1) := by decide +kernel
theorem dX2_lettersStand_4 : decode cX2_lettersStand 4 = .ok (.invokevirtual 73, 3) := by decide +kernel
theorem dX2_lettersStand_7 : decode cX2_lettersStand 7 = .ok (.if_icmp .ge 24, 3) := by decide +kernel
theorem dX2_lettersStand_10 : decode cX2_lettersStand 10 = .ok (.aload_n 0, 1) := by decide +kernel
theorem dX2_lettersStand_11 : decode cX2_lettersStand 11 = .ok (.aload_n 1, 1) := by decide +kernel
theorem dX2_lettersStand_12 : decode cX2_lettersStand 12 = .ok (.aload_n 2, 1) := by decide +kernel
theorem dX2_lettersStand_13 : decode cX2_lettersStand 13 = .ok (.iload_n 3, 1) := by decide +kernel
theorem dX2_lettersStand_14 : decode cX2_lettersStand 14 = .ok (.invokevirtual 79, 3) := by decide +kernel
theorem dX2_lettersStand_17 : decode cX2_lettersStand 17 = .ok (.invokevirtual 31, 3) := by decide +kernel
theorem dX2_lettersStand_20 : decode cX2_lettersStand 20 = .ok (.ifCond .ne 5, 3) := by decide +kernel
theorem dX2_lettersStand_23 : decode cX2_lettersStand 23 = .ok (.iconst 0, 1) := by decide +kernel
theorem dX2_lettersStand_24 : decode cX2_lettersStand 24 = .ok (.ireturn, 1) := by decide +kernel
theorem dX2_lettersStand_25 : decode cX2_lettersStand 25 = .ok (.iinc 3 1, 3) := by decide +kernel
theorem dX2_lettersStand_28 : decode cX2_lettersStand 28 = .ok (.goto (-26), 3) := by decide +kernel
theorem dX2_lettersStand_31 : decode cX2_lettersStand 31 = .ok (.iconst 1, 1) := by decide +kernel
theorem dX2_lettersStand_32 : decode cX2_lettersStand 32 = .ok (.ireturn, 1) := by decide +kernel
theorem dX2_numberStands_0 : decode cX2_numberStands 0 = .ok (.aload_n 0, 1) := by decide +kernel
theorem dX2_numberStands_1 : decode cX2_numberStands 1 = .ok (.getfield 15, 3) := by decide +kernel
theorem dX2_numberStands_4 : decode cX2_numberStands 4 = .ok (.istore 4, 2) := by decide +kernel
theorem dX2_numberStands_6 : decode cX2_numberStands 6 = .ok (.iconst 0, 1) := by decide +kernel
theorem dX2_numberStands_7 : decode cX2_numberStands 7 = .ok (.istore 5, 2) := by decide +kernel
theorem dX2_numberStands_9 : decode cX2_numberStands 9 = .ok (.iconst 0, 1) := by decide +kernel
theorem dX2_numberStands_10 : decode cX2_numberStands 10 = .ok (.istore 6, 2) := by decide +kernel
theorem dX2_numberStands_12 : decode cX2_numberStands 12 = .ok (.iload 6, 2) := by decide +kernel
theorem dX2_numberStands_14 : decode cX2_numberStands 14 = .ok (.iconst 5, 1) := by decide +kernel
theorem dX2_numberStands_15 : decode cX2_numberStands 15 = .ok (.if_icmp .ge 46, 3) := by decide +kernel
theorem dX2_numberStands_18 : decode cX2_numberStands 18 = .ok (.aload_n 0, 1) := by decide +kernel
theorem dX2_numberStands_19 : decode cX2_numberStands 19 = .ok (.aload_n 1, 1) := by decide +kernel
theorem dX2_numberStands_20 : decode cX2_numberStands 20 = .ok (.invokevirtual 83, 3) := by decide +kernel
theorem dX2_numberStands_23 : decode cX2_numberStands 23 = .ok (.ifCond .eq 38, 3) := by decide +kernel
theorem dX2_numberStands_26 : decode cX2_numberStands 26 = .ok (.iload 5, 2) := by decide +kernel
theorem dX2_numberStands_28 : decode cX2_numberStands 28 = .ok (.bipush 10, 2) := by decide +kernel
theorem dX2_numberStands_30 : decode cX2_numberStands 30 = .ok (.imul, 1) := by decide +kernel
theorem dX2_numberStands_31 : decode cX2_numberStands 31 = .ok (.aload_n 1, 1) := by decide +kernel
theorem dX2_numberStands_32 : decode cX2_numberStands 32 = .ok (.aload_n 0, 1) := by decide +kernel
theorem dX2_numberStands_33 : decode cX2_numberStands 33 = .ok (.getfield 15, 3) := by decide +kernel
theorem dX2_numberStands_36 : decode cX2_numberStands 36 = .ok (.invokevirtual 39, 3) := by decide +kernel
theorem dX2_numberStands_39 : decode cX2_numberStands 39 = .ok (.iadd, 1) := by decide +kernel
theorem dX2_numberStands_40 : decode cX2_numberStands 40 = .ok (.bipush 48, 2) := by decide +kernel
theorem dX2_numberStands_42 : decode cX2_numberStands 42 = .ok (.isub, 1) := by decide +kernel
theorem dX2_numberStands_43 : decode cX2_numberStands 43 = .ok (.istore 5, 2) := by decide +kernel
theorem dX2_numberStands_45 : decode cX2_numberStands 45 = .ok (.aload_n 0, 1) := by decide +kernel
theorem dX2_numberStands_46 : decode cX2_numberStands 46 = .ok (.dup, 1) := by decide +kernel
theorem dX2_numberStands_47 : decode cX2_numberStands 47 = .ok (.getfield 15, 3) := by decide +kernel
theorem dX2_numberStands_50 : decode cX2_numberStands 50 = .ok (.iconst 1, 1) := by decide +kernel
theorem dX2_numberStands_51 : decode cX2_numberStands 51 = .ok (.iadd, 1) := by decide +kernel
theorem dX2_numberStands_52 : decode cX2_numberStands 52 = .ok (.putfield 15, 3) := by decide +kernel
theorem dX2_numberStands_55 : decode cX2_numberStands 55 = .ok (.iinc 6 1, 3) := by decide +kernel
theorem dX2_numberStands_58 : decode cX2_numberStands 58 = .ok (.goto (-46), 3) := by decide +kernel
theorem dX2_numberStands_61 : decode cX2_numberStands 61 = .ok (.aload_n 0, 1) := by decide +kernel
theorem dX2_numberStands_62 : decode cX2_numberStands 62 = .ok (.getfield 15, 3) := by decide +kernel
theorem dX2_numberStands_65 : decode cX2_numberStands 65 = .ok (.iload 4, 2) := by decide +kernel
theorem dX2_numberStands_67 : decode cX2_numberStands 67 = .ok (.if_icmp .eq 9, 3) := by decide +kernel
theorem dX2_numberStands_70 : decode cX2_numberStands 70 = .ok (.iload 5, 2) := by decide +kernel
theorem dX2_numberStands_72 : decode cX2_numberStands 72 = .ok (.iload_n 2, 1) := by decide +kernel
theorem dX2_numberStands_73 : decode cX2_numberStands 73 = .ok (.if_icmp .le 10, 3) := by decide +kernel
theorem dX2_numberStands_76 : decode cX2_numberStands 76 = .ok (.aload_n 0, 1) := by decide +kernel
theorem dX2_numberStands_77 : decode cX2_numberStands 77 = .ok (.iload 4, 2) := by decide +kernel
theorem dX2_numberStands_79 : decode cX2_numberStands 79 = .ok (.invokevirtual 35, 3) := by decide +kernel
theorem dX2_numberStands_82 : decode cX2_numberStands 82 = .ok (.ireturn, 1) := by decide +kernel
theorem dX2_numberStands_83 : decode cX2_numberStands 83 = .ok (.iload_n 3, 1) := by decide +kernel
theorem dX2_numberStands_84 : decode cX2_numberStands 84 = .ok (.ifCond .lt 20, 3) := by decide +kernel
theorem dX2_numberStands_87 : decode cX2_numberStands 87 = .ok (.iload_n 3, 1) := by decide +kernel
theorem dX2_numberStands_88 : decode cX2_numberStands 88 = .ok (.aload_n 0, 1) := by decide +kernel
theorem dX2_numberStands_89 : decode cX2_numberStands 89 = .ok (.getfield 9, 3) := by decide +kernel
theorem dX2_numberStands_92 : decode cX2_numberStands 92 = .ok (.arraylength, 1) := by decide +kernel
theorem dX2_numberStands_93 : decode cX2_numberStands 93 = .ok (.if_icmp .ge 11, 3) := by decide +kernel
theorem dX2_numberStands_96 : decode cX2_numberStands 96 = .ok (.aload_n 0, 1) := by decide +kernel
theorem dX2_numberStands_97 : decode cX2_numberStands 97 = .ok (.getfield 9, 3) := by decide +kernel
theorem dX2_numberStands_100 : decode cX2_numberStands 100 = .ok (.iload_n 3, 1) := by decide +kernel
theorem dX2_numberStands_101 : decode cX2_numberStands 101 = .ok (.iload 5, 2) := by decide +kernel
theorem dX2_numberStands_103 : decode cX2_numberStands 103 = .ok (.iastore, 1) := by decide +kernel
theorem dX2_numberStands_104 : decode cX2_numberStands 104 = .ok (.iconst 1, 1) := by decide +kernel
theorem dX2_numberStands_105 : decode cX2_numberStands 105 = .ok (.ireturn, 1) := by decide +kernel
theorem dX2_isDigitAt_0 : decode cX2_isDigitAt 0 = .ok (.aload_n 0, 1) := by decide +kernel
theorem dX2_isDigitAt_1 : decode cX2_isDigitAt 1 = .ok (.getfield 15, 3) := by decide +kernel
theorem dX2_isDigitAt_4 : decode cX2_isDigitAt 4 = .ok (.aload_n 1, 1) := by decide +kernel
theorem dX2_isDigitAt_5 : decode cX2_isDigitAt 5 = .ok (.getfield 28, 3) := by decide +kernel
theorem dX2_isDigitAt_8 : decode cX2_isDigitAt 8 = .ok (.if_icmp .ge 33, 3) := by decide +kernel
theorem dX2_isDigitAt_11 : decode cX2_isDigitAt 11 = .ok (.aload_n 1, 1) := by decide +kernel
theorem dX2_isDigitAt_12 : decode cX2_isDigitAt 12 = .ok (.aload_n 0, 1) := by decide +kernel
theorem dX2_isDigitAt_13 : decode cX2_isDigitAt 13 = .ok (.getfield 15, 3) := by decide +kernel
theorem dX2_isDigitAt_16 : decode cX2_isDigitAt 16 = .ok (.invokevirtual 39, 3) := by decide +kernel
theorem dX2_isDigitAt_19 : decode cX2_isDigitAt 19 = .ok (.bipush 48, 2) := by decide +kernel
theorem dX2_isDigitAt_21 : decode cX2_isDigitAt 21 = .ok (.if_icmp .lt 20, 3) := by decide +kernel
theorem dX2_isDigitAt_24 : decode cX2_isDigitAt 24 = .ok (.aload_n 1, 1) := by decide +kernel
theorem dX2_isDigitAt_25 : decode cX2_isDigitAt 25 = .ok (.aload_n 0, 1) := by decide +kernel
theorem dX2_isDigitAt_26 : decode cX2_isDigitAt 26 = .ok (.getfield 15, 3) := by decide +kernel
theorem dX2_isDigitAt_29 : decode cX2_isDigitAt 29 = .ok (.invokevirtual 39, 3) := by decide +kernel
theorem dX2_isDigitAt_32 : decode cX2_isDigitAt 32 = .ok (.bipush 57, 2) := by decide +kernel
theorem dX2_isDigitAt_34 : decode cX2_isDigitAt 34 = .ok (.if_icmp .gt 7, 3) := by decide +kernel
theorem dX2_isDigitAt_37 : decode cX2_isDigitAt 37 = .ok (.iconst 1, 1) := by decide +kernel
theorem dX2_isDigitAt_38 : decode cX2_isDigitAt 38 = .ok (.goto 4, 3) := by decide +kernel
theorem dX2_isDigitAt_41 : decode cX2_isDigitAt 41 = .ok (.iconst 0, 1) := by decide +kernel
theorem dX2_isDigitAt_42 : decode cX2_isDigitAt 42 = .ok (.ireturn, 1) := by decide +kernel
theorem dX2_wordFrom_0 : decode cX2_wordFrom 0 = .ok (.iload_n 0, 1) := by decide +kernel
theorem dX2_wordFrom_1 : decode cX2_wordFrom 1 = .ok (.lookupswitch 71 #[(99, 65), (102, 59), (104, 63), (111, 69), (112, 61), (119, 67)], 59) := by decide +kernel
theorem dX2_wordFrom_60 : decode cX2_wordFrom 60 = .ok (.iconst 0, 1) := by decide +kernel
theorem dX2_wordFrom_61 : decode cX2_wordFrom 61 = .ok (.ireturn, 1) := by decide +kernel
theorem dX2_wordFrom_62 : decode cX2_wordFrom 62 = .ok (.iconst 1, 1) := by decide +kernel
theorem dX2_wordFrom_63 : decode cX2_wordFrom 63 = .ok (.ireturn, 1) := by decide +kernel
theorem dX2_wordFrom_64 : decode cX2_wordFrom 64 = .ok (.iconst 2, 1) := by decide +kernel
theorem dX2_wordFrom_65 : decode cX2_wordFrom 65 = .ok (.ireturn, 1) := by decide +kernel
theorem dX2_wordFrom_66 : decode cX2_wordFrom 66 = .ok (.iconst 3, 1) := by decide +kernel
theorem dX2_wordFrom_67 : decode cX2_wordFrom 67 = .ok (.ireturn, 1) := by decide +kernel
theorem dX2_wordFrom_68 : decode cX2_wordFrom 68 = .ok (.iconst 4, 1) := by decide +kernel
theorem dX2_wordFrom_69 : decode cX2_wordFrom 69 = .ok (.ireturn, 1) := by decide +kernel
theorem dX2_wordFrom_70 : decode cX2_wordFrom 70 = .ok (.iconst 5, 1) := by decide +kernel
theorem dX2_wordFrom_71 : decode cX2_wordFrom 71 = .ok (.ireturn, 1) := by decide +kernel
theorem dX2_wordFrom_72 : decode cX2_wordFrom 72 = .ok (.iconst (-1), 1) := by decide +kernel
theorem dX2_wordFrom_73 : decode cX2_wordFrom 73 = .ok (.ireturn, 1) := by decide +kernel
theorem dX2_lettersOf_0 : decode cX2_lettersOf 0 = .ok (.iload_n 0, 1) := by decide +kernel
theorem dX2_lettersOf_1 : decode cX2_lettersOf 1 = .ok (.tableswitch 50 0 4 #[35, 38, 41, 44, 47], 35) := by decide +kernel
theorem dX2_lettersOf_36 : decode cX2_lettersOf 36 = .ok (.ldc 87, 2) := by decide +kernel
theorem dX2_lettersOf_38 : decode cX2_lettersOf 38 = .ok (.areturn, 1) := by decide +kernel
theorem dX2_lettersOf_39 : decode cX2_lettersOf 39 = .ok (.ldc 89, 2) := by decide +kernel
theorem dX2_lettersOf_41 : decode cX2_lettersOf 41 = .ok (.areturn, 1) := by decide +kernel
theorem dX2_lettersOf_42 : decode cX2_lettersOf 42 = .ok (.ldc 91, 2) := by decide +kernel
theorem dX2_lettersOf_44 : decode cX2_lettersOf 44 = .ok (.areturn, 1) := by decide +kernel
theorem dX2_lettersOf_45 : decode cX2_lettersOf 45 = .ok (.ldc 93, 2) := by decide +kernel
theorem dX2_lettersOf_47 : decode cX2_lettersOf 47 = .ok (.areturn, 1) := by decide +kernel
theorem dX2_lettersOf_48 : decode cX2_lettersOf 48 = .ok (.ldc 95, 2) := by decide +kernel
theorem dX2_lettersOf_50 : decode cX2_lettersOf 50 = .ok (.areturn, 1) := by decide +kernel
theorem dX2_lettersOf_51 : decode cX2_lettersOf 51 = .ok (.ldc 97, 2) := by decide +kernel
theorem dX2_lettersOf_53 : decode cX2_lettersOf 53 = .ok (.areturn, 1) := by decide +kernel
theorem dX2_numbersOf_0 : decode cX2_numbersOf 0 = .ok (.iload_n 0, 1) := by decide +kernel
theorem dX2_numbersOf_1 : decode cX2_numbersOf 1 = .ok (.lookupswitch 31 #[(1, 27), (2, 29)], 27) := by decide +kernel
theorem dX2_numbersOf_28 : decode cX2_numbersOf 28 = .ok (.iconst 3, 1) := by decide +kernel
theorem dX2_numbersOf_29 : decode cX2_numbersOf 29 = .ok (.ireturn, 1) := by decide +kernel
theorem dX2_numbersOf_30 : decode cX2_numbersOf 30 = .ok (.iconst 2, 1) := by decide +kernel
theorem dX2_numbersOf_31 : decode cX2_numbersOf 31 = .ok (.ireturn, 1) := by decide +kernel
theorem dX2_numbersOf_32 : decode cX2_numbersOf 32 = .ok (.iconst 1, 1) := by decide +kernel
theorem dX2_numbersOf_33 : decode cX2_numbersOf 33 = .ok (.ireturn, 1) := by decide +kernel
theorem dX2_hasRoomFor_0 : decode cX2_hasRoomFor 0 = .ok (.iload_n 0, 1) := by decide +kernel
theorem dX2_hasRoomFor_1 : decode cX2_hasRoomFor 1 = .ok (.lookupswitch 37 #[(0, 27), (1, 32)], 27) := by decide +kernel
theorem dX2_hasRoomFor_28 : decode cX2_hasRoomFor 28 = .ok (.aload_n 1, 1) := by decide +kernel
theorem dX2_hasRoomFor_29 : decode cX2_hasRoomFor 29 = .ok (.invokevirtual 99, 3) := by decide +kernel
theorem dX2_hasRoomFor_32 : decode cX2_hasRoomFor 32 = .ok (.ireturn, 1) := by decide +kernel
theorem dX2_hasRoomFor_33 : decode cX2_hasRoomFor 33 = .ok (.aload_n 1, 1) := by decide +kernel
theorem dX2_hasRoomFor_34 : decode cX2_hasRoomFor 34 = .ok (.invokevirtual 105, 3) := by decide +kernel
theorem dX2_hasRoomFor_37 : decode cX2_hasRoomFor 37 = .ok (.ireturn, 1) := by decide +kernel
theorem dX2_hasRoomFor_38 : decode cX2_hasRoomFor 38 = .ok (.iconst 1, 1) := by decide +kernel
theorem dX2_hasRoomFor_39 : decode cX2_hasRoomFor 39 = .ok (.ireturn, 1) := by decide +kernel
theorem dX2_mostOf_0 : decode cX2_mostOf 0 = .ok (.iload_n 0, 1) := by decide +kernel
theorem dX2_mostOf_1 : decode cX2_mostOf 1 = .ok (.tableswitch 86 0 4 #[35, 38, 60, 80, 83], 35) := by decide +kernel
theorem dX2_mostOf_36 : decode cX2_mostOf 36 = .ok (.ldc 108, 2) := by decide +kernel
theorem dX2_mostOf_38 : decode cX2_mostOf 38 = .ok (.ireturn, 1) := by decide +kernel
theorem dX2_mostOf_39 : decode cX2_mostOf 39 = .ok (.iload_n 1, 1) := by decide +kernel
theorem dX2_mostOf_40 : decode cX2_mostOf 40 = .ok (.ifCond .ne 8, 3) := by decide +kernel
theorem dX2_mostOf_43 : decode cX2_mostOf 43 = .ok (.bipush 6, 2) := by decide +kernel
theorem dX2_mostOf_45 : decode cX2_mostOf 45 = .ok (.goto 15, 3) := by decide +kernel
theorem dX2_mostOf_48 : decode cX2_mostOf 48 = .ok (.iload_n 1, 1) := by decide +kernel
theorem dX2_mostOf_49 : decode cX2_mostOf 49 = .ok (.iconst 1, 1) := by decide +kernel
theorem dX2_mostOf_50 : decode cX2_mostOf 50 = .ok (.if_icmp .ne 8, 3) := by decide +kernel
theorem dX2_mostOf_53 : decode cX2_mostOf 53 = .ok (.bipush 9, 2) := by decide +kernel
theorem dX2_mostOf_55 : decode cX2_mostOf 55 = .ok (.goto 5, 3) := by decide +kernel
theorem dX2_mostOf_58 : decode cX2_mostOf 58 = .ok (.bipush 9, 2) := by decide +kernel
theorem dX2_mostOf_60 : decode cX2_mostOf 60 = .ok (.ireturn, 1) := by decide +kernel
theorem dX2_mostOf_61 : decode cX2_mostOf 61 = .ok (.iload_n 1, 1) := by decide +kernel
theorem dX2_mostOf_62 : decode cX2_mostOf 62 = .ok (.ifCond .ne 12, 3) := by decide +kernel
theorem dX2_mostOf_65 : decode cX2_mostOf 65 = .ok (.aload_n 2, 1) := by decide +kernel
theorem dX2_mostOf_66 : decode cX2_mostOf 66 = .ok (.getfield 109, 3) := by decide +kernel
theorem dX2_mostOf_69 : decode cX2_mostOf 69 = .ok (.iconst 1, 1) := by decide +kernel
theorem dX2_mostOf_70 : decode cX2_mostOf 70 = .ok (.isub, 1) := by decide +kernel
theorem dX2_mostOf_71 : decode cX2_mostOf 71 = .ok (.goto 9, 3) := by decide +kernel
theorem dX2_mostOf_74 : decode cX2_mostOf 74 = .ok (.aload_n 2, 1) := by decide +kernel
theorem dX2_mostOf_75 : decode cX2_mostOf 75 = .ok (.getfield 112, 3) := by decide +kernel
theorem dX2_mostOf_78 : decode cX2_mostOf 78 = .ok (.iconst 1, 1) := by decide +kernel
theorem dX2_mostOf_79 : decode cX2_mostOf 79 = .ok (.isub, 1) := by decide +kernel
theorem dX2_mostOf_80 : decode cX2_mostOf 80 = .ok (.ireturn, 1) := by decide +kernel
theorem dX2_mostOf_81 : decode cX2_mostOf 81 = .ok (.bipush 40, 2) := by decide +kernel
theorem dX2_mostOf_83 : decode cX2_mostOf 83 = .ok (.ireturn, 1) := by decide +kernel
theorem dX2_mostOf_84 : decode cX2_mostOf 84 = .ok (.bipush 9, 2) := by decide +kernel
theorem dX2_mostOf_86 : decode cX2_mostOf 86 = .ok (.ireturn, 1) := by decide +kernel
theorem dX2_mostOf_87 : decode cX2_mostOf 87 = .ok (.bipush 9, 2) := by decide +kernel
theorem dX2_mostOf_89 : decode cX2_mostOf 89 = .ok (.ireturn, 1) := by decide +kernel
theorem dX2_tell_0 : decode cX2_tell 0 = .ok (.aload_n 0, 1) := by decide +kernel
theorem dX2_tell_1 : decode cX2_tell 1 = .ok (.getfield 9, 3) := by decide +kernel
theorem dX2_tell_4 : decode cX2_tell 4 = .ok (.arraylength, 1) := by decide +kernel
theorem dX2_tell_5 : decode cX2_tell 5 = .ok (.ifCond .le 12, 3) := by decide +kernel
theorem dX2_tell_8 : decode cX2_tell 8 = .ok (.aload_n 0, 1) := by decide +kernel
theorem dX2_tell_9 : decode cX2_tell 9 = .ok (.getfield 9, 3) := by decide +kernel
theorem dX2_tell_12 : decode cX2_tell 12 = .ok (.iconst 0, 1) := by decide +kernel
theorem dX2_tell_13 : decode cX2_tell 13 = .ok (.iaload, 1) := by decide +kernel
theorem dX2_tell_14 : decode cX2_tell 14 = .ok (.goto 4, 3) := by decide +kernel
theorem dX2_tell_17 : decode cX2_tell 17 = .ok (.iconst 0, 1) := by decide +kernel
theorem dX2_tell_18 : decode cX2_tell 18 = .ok (.istore_n 3, 1) := by decide +kernel
theorem dX2_tell_19 : decode cX2_tell 19 = .ok (.aload_n 0, 1) := by decide +kernel
theorem dX2_tell_20 : decode cX2_tell 20 = .ok (.getfield 9, 3) := by decide +kernel
theorem dX2_tell_23 : decode cX2_tell 23 = .ok (.arraylength, 1) := by decide +kernel
theorem dX2_tell_24 : decode cX2_tell 24 = .ok (.iconst 1, 1) := by decide +kernel
theorem dX2_tell_25 : decode cX2_tell 25 = .ok (.if_icmp .le 12, 3) := by decide +kernel
theorem dX2_tell_28 : decode cX2_tell 28 = .ok (.aload_n 0, 1) := by decide +kernel
theorem dX2_tell_29 : decode cX2_tell 29 = .ok (.getfield 9, 3) := by decide +kernel
theorem dX2_tell_32 : decode cX2_tell 32 = .ok (.iconst 1, 1) := by decide +kernel
theorem dX2_tell_33 : decode cX2_tell 33 = .ok (.iaload, 1) := by decide +kernel
theorem dX2_tell_34 : decode cX2_tell 34 = .ok (.goto 4, 3) := by decide +kernel
theorem dX2_tell_37 : decode cX2_tell 37 = .ok (.iconst 0, 1) := by decide +kernel
theorem dX2_tell_38 : decode cX2_tell 38 = .ok (.istore 4, 2) := by decide +kernel
theorem dX2_tell_40 : decode cX2_tell 40 = .ok (.aload_n 0, 1) := by decide +kernel
theorem dX2_tell_41 : decode cX2_tell 41 = .ok (.getfield 9, 3) := by decide +kernel
theorem dX2_tell_44 : decode cX2_tell 44 = .ok (.arraylength, 1) := by decide +kernel
theorem dX2_tell_45 : decode cX2_tell 45 = .ok (.iconst 2, 1) := by decide +kernel
theorem dX2_tell_46 : decode cX2_tell 46 = .ok (.if_icmp .le 12, 3) := by decide +kernel
theorem dX2_tell_49 : decode cX2_tell 49 = .ok (.aload_n 0, 1) := by decide +kernel
theorem dX2_tell_50 : decode cX2_tell 50 = .ok (.getfield 9, 3) := by decide +kernel
theorem dX2_tell_53 : decode cX2_tell 53 = .ok (.iconst 2, 1) := by decide +kernel
theorem dX2_tell_54 : decode cX2_tell 54 = .ok (.iaload, 1) := by decide +kernel
theorem dX2_tell_55 : decode cX2_tell 55 = .ok (.goto 4, 3) := by decide +kernel
theorem dX2_tell_58 : decode cX2_tell 58 = .ok (.iconst 0, 1) := by decide +kernel
theorem dX2_tell_59 : decode cX2_tell 59 = .ok (.istore 5, 2) := by decide +kernel
theorem dX2_tell_61 : decode cX2_tell 61 = .ok (.iload_n 1, 1) := by decide +kernel
theorem dX2_tell_62 : decode cX2_tell 62 = .ok (.tableswitch 94 0 4 #[34, 43, 56, 78, 86], 34) := by decide +kernel
theorem dX2_tell_96 : decode cX2_tell 96 = .ok (.aload_n 2, 1) := by decide +kernel
theorem dX2_tell_97 : decode cX2_tell 97 = .ok (.iload_n 3, 1) := by decide +kernel
theorem dX2_tell_98 : decode cX2_tell 98 = .ok (.invokevirtual 115, 3) := by decide +kernel
theorem dX2_tell_101 : decode cX2_tell 101 = .ok (.pop, 1) := by decide +kernel
theorem dX2_tell_102 : decode cX2_tell 102 = .ok (.goto 59, 3) := by decide +kernel
theorem dX2_tell_105 : decode cX2_tell 105 = .ok (.aload_n 2, 1) := by decide +kernel
theorem dX2_tell_106 : decode cX2_tell 106 = .ok (.iload_n 3, 1) := by decide +kernel
theorem dX2_tell_107 : decode cX2_tell 107 = .ok (.iload 4, 2) := by decide +kernel
theorem dX2_tell_109 : decode cX2_tell 109 = .ok (.iload 5, 2) := by decide +kernel
theorem dX2_tell_111 : decode cX2_tell 111 = .ok (.invokevirtual 118, 3) := by decide +kernel
theorem dX2_tell_114 : decode cX2_tell 114 = .ok (.pop, 1) := by decide +kernel
theorem dX2_tell_115 : decode cX2_tell 115 = .ok (.goto 46, 3) := by decide +kernel
theorem dX2_tell_118 : decode cX2_tell 118 = .ok (.aload_n 2, 1) := by decide +kernel
theorem dX2_tell_119 : decode cX2_tell 119 = .ok (.iload_n 3, 1) := by decide +kernel
theorem dX2_tell_120 : decode cX2_tell 120 = .ok (.invokevirtual 122, 3) := by decide +kernel
theorem dX2_tell_123 : decode cX2_tell 123 = .ok (.astore 6, 2) := by decide +kernel
theorem dX2_tell_125 : decode cX2_tell 125 = .ok (.aload 6, 2) := by decide +kernel
theorem dX2_tell_127 : decode cX2_tell 127 = .ok (.ifnull 34, 3) := by decide +kernel
theorem dX2_tell_130 : decode cX2_tell 130 = .ok (.aload 6, 2) := by decide +kernel
theorem dX2_tell_132 : decode cX2_tell 132 = .ok (.iload 4, 2) := by decide +kernel
theorem dX2_tell_134 : decode cX2_tell 134 = .ok (.putfield 126, 3) := by decide +kernel
theorem dX2_tell_137 : decode cX2_tell 137 = .ok (.goto 24, 3) := by decide +kernel
theorem dX2_tell_140 : decode cX2_tell 140 = .ok (.aload_n 2, 1) := by decide +kernel
theorem dX2_tell_141 : decode cX2_tell 141 = .ok (.iload_n 3, 1) := by decide +kernel
theorem dX2_tell_142 : decode cX2_tell 142 = .ok (.putfield 131, 3) := by decide +kernel
theorem dX2_tell_145 : decode cX2_tell 145 = .ok (.goto 16, 3) := by decide +kernel
theorem dX2_tell_148 : decode cX2_tell 148 = .ok (.aload_n 2, 1) := by decide +kernel
theorem dX2_tell_149 : decode cX2_tell 149 = .ok (.iload_n 3, 1) := by decide +kernel
theorem dX2_tell_150 : decode cX2_tell 150 = .ok (.putfield 133, 3) := by decide +kernel
theorem dX2_tell_153 : decode cX2_tell 153 = .ok (.goto 8, 3) := by decide +kernel
theorem dX2_tell_156 : decode cX2_tell 156 = .ok (.aload_n 2, 1) := by decide +kernel
theorem dX2_tell_157 : decode cX2_tell 157 = .ok (.iload_n 3, 1) := by decide +kernel
theorem dX2_tell_158 : decode cX2_tell 158 = .ok (.putfield 135, 3) := by decide +kernel
theorem dX2_tell_161 : decode cX2_tell 161 = .ok (.return_, 1) := by decide +kernel
theorem dX3_init_0 : decode cX3_init 0 = .ok (.aload_n 0, 1) := by decide +kernel
theorem dX3_init_1 : decode cX3_init 1 = .ok (.invokespecial 3, 3) := by decide +kernel
theorem dX3_init_4 : decode cX3_init 4 = .ok (.aload_n 0, 1) := by decide +kernel
theorem dX3_init_5 : decode cX3_init 5 = .ok (.sipush 160, 3) := by decide +kernel
theorem dX3_init_8 : decode cX3_init 8 = .ok (.newarray .long, 2) := by decide +kernel
theorem dX3_init_10 : decode cX3_init 10 = .ok (.putfield 11, 3) := by decide +kernel
theorem dX3_init_13 : decode cX3_init 13 = .ok (.aload_n 0, 1) := by decide +kernel
theorem dX3_init_14 : decode cX3_init 14 = .ok (.iconst 0, 1) := by decide +kernel
theorem dX3_init_15 : decode cX3_init 15 = .ok (.putfield 15, 3) := by decide +kernel
theorem dX3_init_18 : decode cX3_init 18 = .ok (.aload_n 0, 1) := by decide +kernel
theorem dX3_init_19 : decode cX3_init 19 = .ok (.iconst 0, 1) := by decide +kernel
theorem dX3_init_20 : decode cX3_init 20 = .ok (.putfield 19, 3) := by decide +kernel
theorem dX3_init_23 : decode cX3_init 23 = .ok (.aload_n 0, 1) := by decide +kernel
theorem dX3_init_24 : decode cX3_init 24 = .ok (.iconst (-1), 1) := by decide +kernel
theorem dX3_init_25 : decode cX3_init 25 = .ok (.putfield 22, 3) := by decide +kernel
theorem dX3_init_28 : decode cX3_init 28 = .ok (.aload_n 0, 1) := by decide +kernel
theorem dX3_init_29 : decode cX3_init 29 = .ok (.iconst 0, 1) := by decide +kernel
theorem dX3_init_30 : decode cX3_init 30 = .ok (.putfield 25, 3) := by decide +kernel
theorem dX3_init_33 : decode cX3_init 33 = .ok (.return_, 1) := by decide +kernel
theorem dX3_hasRow_0 : decode cX3_hasRow 0 = .ok (.aload_n 0, 1) := by decide +kernel
theorem dX3_hasRow_1 : decode cX3_hasRow 1 = .ok (.getfield 25, 3) := by decide +kernel
theorem dX3_hasRow_4 : decode cX3_hasRow 4 = .ok (.ireturn, 1) := by decide +kernel
theorem dX3_hasPane_0 : decode cX3_hasPane 0 = .ok (.aload_n 0, 1) := by decide +kernel
theorem dX3_hasPane_1 : decode cX3_hasPane 1 = .ok (.getfield 25, 3) := by decide +kernel
theorem dX3_hasPane_4 : decode cX3_hasPane 4 = .ok (.ifCond .ne 15, 3) := by decide +kernel
theorem dX3_hasPane_7 : decode cX3_hasPane 7 = .ok (.aload_n 0, 1) := by decide +kernel
theorem dX3_hasPane_8 : decode cX3_hasPane 8 = .ok (.getfield 22, 3) := by decide +kernel
theorem dX3_hasPane_11 : decode cX3_hasPane 11 = .ok (.iconst (-1), 1) := by decide +kernel
theorem dX3_hasPane_12 : decode cX3_hasPane 12 = .ok (.if_icmp .eq 7, 3) := by decide +kernel
theorem dX3_hasPane_15 : decode cX3_hasPane 15 = .ok (.iconst 1, 1) := by decide +kernel
theorem dX3_hasPane_16 : decode cX3_hasPane 16 = .ok (.goto 4, 3) := by decide +kernel
theorem dX3_hasPane_19 : decode cX3_hasPane 19 = .ok (.iconst 0, 1) := by decide +kernel
theorem dX3_hasPane_20 : decode cX3_hasPane 20 = .ok (.ireturn, 1) := by decide +kernel
theorem dX3_takeNothing_0 : decode cX3_takeNothing 0 = .ok (.aload_n 0, 1) := by decide +kernel
theorem dX3_takeNothing_1 : decode cX3_takeNothing 1 = .ok (.iconst 0, 1) := by decide +kernel
theorem dX3_takeNothing_2 : decode cX3_takeNothing 2 = .ok (.putfield 25, 3) := by decide +kernel
theorem dX3_takeNothing_5 : decode cX3_takeNothing 5 = .ok (.aload_n 0, 1) := by decide +kernel
theorem dX3_takeNothing_6 : decode cX3_takeNothing 6 = .ok (.iconst 0, 1) := by decide +kernel
theorem dX3_takeNothing_7 : decode cX3_takeNothing 7 = .ok (.putfield 19, 3) := by decide +kernel
theorem dX3_takeNothing_10 : decode cX3_takeNothing 10 = .ok (.aload_n 0, 1) := by decide +kernel
theorem dX3_takeNothing_11 : decode cX3_takeNothing 11 = .ok (.iconst (-1), 1) := by decide +kernel
theorem dX3_takeNothing_12 : decode cX3_takeNothing 12 = .ok (.putfield 22, 3) := by decide +kernel
theorem dX3_takeNothing_15 : decode cX3_takeNothing 15 = .ok (.return_, 1) := by decide +kernel
theorem dX3_takePane_0 : decode cX3_takePane 0 = .ok (.aload_n 0, 1) := by decide +kernel
theorem dX3_takePane_1 : decode cX3_takePane 1 = .ok (.iconst 0, 1) := by decide +kernel
theorem dX3_takePane_2 : decode cX3_takePane 2 = .ok (.putfield 25, 3) := by decide +kernel
theorem dX3_takePane_5 : decode cX3_takePane 5 = .ok (.aload_n 0, 1) := by decide +kernel
theorem dX3_takePane_6 : decode cX3_takePane 6 = .ok (.iconst 0, 1) := by decide +kernel
theorem dX3_takePane_7 : decode cX3_takePane 7 = .ok (.putfield 19, 3) := by decide +kernel
theorem dX3_takePane_10 : decode cX3_takePane 10 = .ok (.aload_n 0, 1) := by decide +kernel
theorem dX3_takePane_11 : decode cX3_takePane 11 = .ok (.iload_n 1, 1) := by decide +kernel
theorem dX3_takePane_12 : decode cX3_takePane 12 = .ok (.putfield 22, 3) := by decide +kernel
theorem dX3_takePane_15 : decode cX3_takePane 15 = .ok (.return_, 1) := by decide +kernel
theorem dX3_takeRow_0 : decode cX3_takeRow 0 = .ok (.aload_n 0, 1) := by decide +kernel
theorem dX3_takeRow_1 : decode cX3_takeRow 1 = .ok (.iconst 1, 1) := by decide +kernel
theorem dX3_takeRow_2 : decode cX3_takeRow 2 = .ok (.putfield 25, 3) := by decide +kernel
theorem dX3_takeRow_5 : decode cX3_takeRow 5 = .ok (.aload_n 0, 1) := by decide +kernel
theorem dX3_takeRow_6 : decode cX3_takeRow 6 = .ok (.iload_n 1, 1) := by decide +kernel
theorem dX3_takeRow_7 : decode cX3_takeRow 7 = .ok (.putfield 15, 3) := by decide +kernel
theorem dX3_takeRow_10 : decode cX3_takeRow 10 = .ok (.aload_n 0, 1) := by decide +kernel
theorem dX3_takeRow_11 : decode cX3_takeRow 11 = .ok (.iload_n 2, 1) := by decide +kernel
theorem dX3_takeRow_12 : decode cX3_takeRow 12 = .ok (.putfield 19, 3) := by decide +kernel
theorem dX3_takeRow_15 : decode cX3_takeRow 15 = .ok (.aload_n 0, 1) := by decide +kernel
theorem dX3_takeRow_16 : decode cX3_takeRow 16 = .ok (.iconst (-1), 1) := by decide +kernel
theorem dX3_takeRow_17 : decode cX3_takeRow 17 = .ok (.putfield 22, 3) := by decide +kernel
theorem dX3_takeRow_20 : decode cX3_takeRow 20 = .ok (.iconst 0, 1) := by decide +kernel
theorem dX3_takeRow_21 : decode cX3_takeRow 21 = .ok (.istore_n 3, 1) := by decide +kernel
theorem dX3_takeRow_22 : decode cX3_takeRow 22 = .ok (.iload_n 3, 1) := by decide +kernel
theorem dX3_takeRow_23 : decode cX3_takeRow 23 = .ok (.aload_n 0, 1) := by decide +kernel
theorem dX3_takeRow_24 : decode cX3_takeRow 24 = .ok (.getfield 11, 3) := by decide +kernel
theorem dX3_takeRow_27 : decode cX3_takeRow 27 = .ok (.arraylength, 1) := by decide +kernel
theorem dX3_takeRow_28 : decode cX3_takeRow 28 = .ok (.if_icmp .ge 16, 3) := by decide +kernel
theorem dX3_takeRow_31 : decode cX3_takeRow 31 = .ok (.aload_n 0, 1) := by decide +kernel
theorem dX3_takeRow_32 : decode cX3_takeRow 32 = .ok (.getfield 11, 3) := by decide +kernel
theorem dX3_takeRow_35 : decode cX3_takeRow 35 = .ok (.iload_n 3, 1) := by decide +kernel
theorem dX3_takeRow_36 : decode cX3_takeRow 36 = .ok (.lconst 0, 1) := by decide +kernel
theorem dX3_takeRow_37 : decode cX3_takeRow 37 = .ok (.lastore, 1) := by decide +kernel
theorem dX3_takeRow_38 : decode cX3_takeRow 38 = .ok (.iinc 3 1, 3) := by decide +kernel
theorem dX3_takeRow_41 : decode cX3_takeRow 41 = .ok (.goto (-19), 3) := by decide +kernel
theorem dX3_takeRow_44 : decode cX3_takeRow 44 = .ok (.return_, 1) := by decide +kernel
theorem dX3_told_0 : decode cX3_told 0 = .ok (.aload_n 0, 1) := by decide +kernel
theorem dX3_told_1 : decode cX3_told 1 = .ok (.getfield 25, 3) := by decide +kernel
theorem dX3_told_4 : decode cX3_told 4 = .ok (.ifCond .eq 13, 3) := by decide +kernel
theorem dX3_told_7 : decode cX3_told 7 = .ok (.bipush 100, 2) := by decide +kernel
theorem dX3_told_9 : decode cX3_told 9 = .ok (.aload_n 0, 1) := by decide +kernel
theorem dX3_told_10 : decode cX3_told 10 = .ok (.getfield 15, 3) := by decide +kernel
theorem dX3_told_13 : decode cX3_told 13 = .ok (.iadd, 1) := by decide +kernel
theorem dX3_told_14 : decode cX3_told 14 = .ok (.goto 7, 3) := by decide +kernel
theorem dX3_told_17 : decode cX3_told 17 = .ok (.aload_n 0, 1) := by decide +kernel
theorem dX3_told_18 : decode cX3_told 18 = .ok (.getfield 22, 3) := by decide +kernel
theorem dX3_told_21 : decode cX3_told 21 = .ok (.ireturn, 1) := by decide +kernel
theorem dX3_elementAt_0 : decode cX3_elementAt 0 = .ok (.iload_n 1, 1) := by decide +kernel
theorem dX3_elementAt_1 : decode cX3_elementAt 1 = .ok (.ifCond .lt 29, 3) := by decide +kernel
theorem dX3_elementAt_4 : decode cX3_elementAt 4 = .ok (.iload_n 1, 1) := by decide +kernel
theorem dX3_elementAt_5 : decode cX3_elementAt 5 = .ok (.aload_n 0, 1) := by decide +kernel
theorem dX3_elementAt_6 : decode cX3_elementAt 6 = .ok (.getfield 19, 3) := by decide +kernel
theorem dX3_elementAt_9 : decode cX3_elementAt 9 = .ok (.if_icmp .ge 21, 3) := by decide +kernel
theorem dX3_elementAt_12 : decode cX3_elementAt 12 = .ok (.iload_n 1, 1) := by decide +kernel
theorem dX3_elementAt_13 : decode cX3_elementAt 13 = .ok (.aload_n 0, 1) := by decide +kernel
theorem dX3_elementAt_14 : decode cX3_elementAt 14 = .ok (.getfield 11, 3) := by decide +kernel
theorem dX3_elementAt_17 : decode cX3_elementAt 17 = .ok (.arraylength, 1) := by decide +kernel
theorem dX3_elementAt_18 : decode cX3_elementAt 18 = .ok (.if_icmp .ge 12, 3) := by decide +kernel
theorem dX3_elementAt_21 : decode cX3_elementAt 21 = .ok (.aload_n 0, 1) := by decide +kernel
theorem dX3_elementAt_22 : decode cX3_elementAt 22 = .ok (.getfield 11, 3) := by decide +kernel
theorem dX3_elementAt_25 : decode cX3_elementAt 25 = .ok (.iload_n 1, 1) := by decide +kernel
theorem dX3_elementAt_26 : decode cX3_elementAt 26 = .ok (.laload, 1) := by decide +kernel
theorem dX3_elementAt_27 : decode cX3_elementAt 27 = .ok (.goto 4, 3) := by decide +kernel
theorem dX3_elementAt_30 : decode cX3_elementAt 30 = .ok (.lconst 0, 1) := by decide +kernel
theorem dX3_elementAt_31 : decode cX3_elementAt 31 = .ok (.lreturn, 1) := by decide +kernel
theorem dX3_signAt_0 : decode cX3_signAt 0 = .ok (.aload_n 0, 1) := by decide +kernel
theorem dX3_signAt_1 : decode cX3_signAt 1 = .ok (.iload_n 1, 1) := by decide +kernel
theorem dX3_signAt_2 : decode cX3_signAt 2 = .ok (.invokevirtual 29, 3) := by decide +kernel
theorem dX3_signAt_5 : decode cX3_signAt 5 = .ok (.l2i, 1) := by decide +kernel
theorem dX3_signAt_6 : decode cX3_signAt 6 = .ok (.ireturn, 1) := by decide +kernel
theorem dX3_put_0 : decode cX3_put 0 = .ok (.iload_n 1, 1) := by decide +kernel
theorem dX3_put_1 : decode cX3_put 1 = .ok (.ifCond .lt 31, 3) := by decide +kernel
theorem dX3_put_4 : decode cX3_put 4 = .ok (.iload_n 1, 1) := by decide +kernel
theorem dX3_put_5 : decode cX3_put 5 = .ok (.aload_n 0, 1) := by decide +kernel
theorem dX3_put_6 : decode cX3_put 6 = .ok (.getfield 19, 3) := by decide +kernel
theorem dX3_put_9 : decode cX3_put 9 = .ok (.if_icmp .ge 23, 3) := by decide +kernel
theorem dX3_put_12 : decode cX3_put 12 = .ok (.iload_n 1, 1) := by decide +kernel
theorem dX3_put_13 : decode cX3_put 13 = .ok (.aload_n 0, 1) := by decide +kernel
theorem dX3_put_14 : decode cX3_put 14 = .ok (.getfield 11, 3) := by decide +kernel
theorem dX3_put_17 : decode cX3_put 17 = .ok (.arraylength, 1) := by decide +kernel
theorem dX3_put_18 : decode cX3_put 18 = .ok (.if_icmp .ge 14, 3) := by decide +kernel
theorem dX3_put_21 : decode cX3_put 21 = .ok (.aload_n 0, 1) := by decide +kernel
theorem dX3_put_22 : decode cX3_put 22 = .ok (.getfield 11, 3) := by decide +kernel
theorem dX3_put_25 : decode cX3_put 25 = .ok (.iload_n 1, 1) := by decide +kernel
theorem dX3_put_26 : decode cX3_put 26 = .ok (.aload_n 0, 1) := by decide +kernel
theorem dX3_put_27 : decode cX3_put 27 = .ok (.lload_n 2, 1) := by decide +kernel
theorem dX3_put_28 : decode cX3_put 28 = .ok (.invokevirtual 33, 3) := by decide +kernel
theorem dX3_put_31 : decode cX3_put 31 = .ok (.lastore, 1) := by decide +kernel
theorem dX3_put_32 : decode cX3_put 32 = .ok (.return_, 1) := by decide +kernel
theorem dX3_lowestBits_0 : decode cX3_lowestBits 0 = .ok (.aload_n 0, 1) := by decide +kernel
theorem dX3_lowestBits_1 : decode cX3_lowestBits 1 = .ok (.getfield 15, 3) := by decide +kernel
theorem dX3_lowestBits_4 : decode cX3_lowestBits 4 = .ok (.tableswitch 42 0 2 #[28, 33, 38], 28) := by decide +kernel
theorem dX3_lowestBits_32 : decode cX3_lowestBits 32 = .ok (.lload_n 1, 1) := by decide +kernel
theorem dX3_lowestBits_33 : decode cX3_lowestBits 33 = .ok (.l2i, 1) := by decide +kernel
theorem dX3_lowestBits_34 : decode cX3_lowestBits 34 = .ok (.i2b, 1) := by decide +kernel
theorem dX3_lowestBits_35 : decode cX3_lowestBits 35 = .ok (.i2l, 1) := by decide +kernel
theorem dX3_lowestBits_36 : decode cX3_lowestBits 36 = .ok (.lreturn, 1) := by decide +kernel
theorem dX3_lowestBits_37 : decode cX3_lowestBits 37 = .ok (.lload_n 1, 1) := by decide +kernel
theorem dX3_lowestBits_38 : decode cX3_lowestBits 38 = .ok (.l2i, 1) := by decide +kernel
theorem dX3_lowestBits_39 : decode cX3_lowestBits 39 = .ok (.i2s, 1) := by decide +kernel
theorem dX3_lowestBits_40 : decode cX3_lowestBits 40 = .ok (.i2l, 1) := by decide +kernel
theorem dX3_lowestBits_41 : decode cX3_lowestBits 41 = .ok (.lreturn, 1) := by decide +kernel
theorem dX3_lowestBits_42 : decode cX3_lowestBits 42 = .ok (.lload_n 1, 1) := by decide +kernel
theorem dX3_lowestBits_43 : decode cX3_lowestBits 43 = .ok (.l2i, 1) := by decide +kernel
theorem dX3_lowestBits_44 : decode cX3_lowestBits 44 = .ok (.i2l, 1) := by decide +kernel
theorem dX3_lowestBits_45 : decode cX3_lowestBits 45 = .ok (.lreturn, 1) := by decide +kernel
theorem dX3_lowestBits_46 : decode cX3_lowestBits 46 = .ok (.lload_n 1, 1) := by decide +kernel
theorem dX3_lowestBits_47 : decode cX3_lowestBits 47 = .ok (.lreturn, 1) := by decide +kernel
theorem dX3_putAll_0 : decode cX3_putAll 0 = .ok (.iconst 0, 1) := by decide +kernel
theorem dX3_putAll_1 : decode cX3_putAll 1 = .ok (.istore 5, 2) := by decide +kernel
theorem dX3_putAll_3 : decode cX3_putAll 3 = .ok (.iload 5, 2) := by decide +kernel
theorem dX3_putAll_5 : decode cX3_putAll 5 = .ok (.iload 4, 2) := by decide +kernel
theorem dX3_putAll_7 : decode cX3_putAll 7 = .ok (.if_icmp .ge 44, 3) := by decide +kernel
theorem dX3_putAll_10 : decode cX3_putAll 10 = .ok (.iload_n 3, 1) := by decide +kernel
theorem dX3_putAll_11 : decode cX3_putAll 11 = .ok (.iload_n 2, 1) := by decide +kernel
theorem dX3_putAll_12 : decode cX3_putAll 12 = .ok (.if_icmp .le 13, 3) := by decide +kernel
theorem dX3_putAll_15 : decode cX3_putAll 15 = .ok (.iload 4, 2) := by decide +kernel
theorem dX3_putAll_17 : decode cX3_putAll 17 = .ok (.iconst 1, 1) := by decide +kernel
theorem dX3_putAll_18 : decode cX3_putAll 18 = .ok (.isub, 1) := by decide +kernel
theorem dX3_putAll_19 : decode cX3_putAll 19 = .ok (.iload 5, 2) := by decide +kernel
theorem dX3_putAll_21 : decode cX3_putAll 21 = .ok (.isub, 1) := by decide +kernel
theorem dX3_putAll_22 : decode cX3_putAll 22 = .ok (.goto 5, 3) := by decide +kernel
theorem dX3_putAll_25 : decode cX3_putAll 25 = .ok (.iload 5, 2) := by decide +kernel
theorem dX3_putAll_27 : decode cX3_putAll 27 = .ok (.istore 6, 2) := by decide +kernel
theorem dX3_putAll_29 : decode cX3_putAll 29 = .ok (.aload_n 0, 1) := by decide +kernel
theorem dX3_putAll_30 : decode cX3_putAll 30 = .ok (.iload_n 3, 1) := by decide +kernel
theorem dX3_putAll_31 : decode cX3_putAll 31 = .ok (.iload 6, 2) := by decide +kernel
theorem dX3_putAll_33 : decode cX3_putAll 33 = .ok (.iadd, 1) := by decide +kernel
theorem dX3_putAll_34 : decode cX3_putAll 34 = .ok (.aload_n 1, 1) := by decide +kernel
theorem dX3_putAll_35 : decode cX3_putAll 35 = .ok (.iload_n 2, 1) := by decide +kernel
theorem dX3_putAll_36 : decode cX3_putAll 36 = .ok (.iload 6, 2) := by decide +kernel
theorem dX3_putAll_38 : decode cX3_putAll 38 = .ok (.iadd, 1) := by decide +kernel
theorem dX3_putAll_39 : decode cX3_putAll 39 = .ok (.invokevirtual 29, 3) := by decide +kernel
theorem dX3_putAll_42 : decode cX3_putAll 42 = .ok (.invokevirtual 37, 3) := by decide +kernel
theorem dX3_putAll_45 : decode cX3_putAll 45 = .ok (.iinc 5 1, 3) := by decide +kernel
theorem dX3_putAll_48 : decode cX3_putAll 48 = .ok (.goto (-45), 3) := by decide +kernel
theorem dX3_putAll_51 : decode cX3_putAll 51 = .ok (.return_, 1) := by decide +kernel
theorem dX4_init_0 : decode cX4_init 0 = .ok (.aload_n 0, 1) := by decide +kernel
theorem dX4_init_1 : decode cX4_init 1 = .ok (.invokespecial 3, 3) := by decide +kernel
theorem dX4_init_4 : decode cX4_init 4 = .ok (.aload_n 0, 1) := by decide +kernel
theorem dX4_init_5 : decode cX4_init 5 = .ok (.bipush 8, 2) := by decide +kernel
theorem dX4_init_7 : decode cX4_init 7 = .ok (.newarray .int, 2) := by decide +kernel
theorem dX4_init_9 : decode cX4_init 9 = .ok (.putfield 9, 3) := by decide +kernel
theorem dX4_init_12 : decode cX4_init 12 = .ok (.aload_n 0, 1) := by decide +kernel
theorem dX4_init_13 : decode cX4_init 13 = .ok (.bipush 8, 2) := by decide +kernel
theorem dX4_init_15 : decode cX4_init 15 = .ok (.anewarray 15, 3) := by decide +kernel
theorem dX4_init_18 : decode cX4_init 18 = .ok (.putfield 17, 3) := by decide +kernel
theorem dX4_init_21 : decode cX4_init 21 = .ok (.iconst 0, 1) := by decide +kernel
theorem dX4_init_22 : decode cX4_init 22 = .ok (.istore_n 1, 1) := by decide +kernel
theorem dX4_init_23 : decode cX4_init 23 = .ok (.iload_n 1, 1) := by decide +kernel
theorem dX4_init_24 : decode cX4_init 24 = .ok (.aload_n 0, 1) := by decide +kernel
theorem dX4_init_25 : decode cX4_init 25 = .ok (.getfield 17, 3) := by decide +kernel
theorem dX4_init_28 : decode cX4_init 28 = .ok (.arraylength, 1) := by decide +kernel
theorem dX4_init_29 : decode cX4_init 29 = .ok (.if_icmp .ge 22, 3) := by decide +kernel
theorem dX4_init_32 : decode cX4_init 32 = .ok (.aload_n 0, 1) := by decide +kernel
theorem dX4_init_33 : decode cX4_init 33 = .ok (.getfield 17, 3) := by decide +kernel
theorem dX4_init_36 : decode cX4_init 36 = .ok (.iload_n 1, 1) := by decide +kernel
theorem dX4_init_37 : decode cX4_init 37 = .ok (.new 15, 3) := by decide +kernel
theorem dX4_init_40 : decode cX4_init 40 = .ok (.dup, 1) := by decide +kernel
theorem dX4_init_41 : decode cX4_init 41 = .ok (.invokespecial 21, 3) := by decide +kernel
theorem dX4_init_44 : decode cX4_init 44 = .ok (.aastore, 1) := by decide +kernel
theorem dX4_init_45 : decode cX4_init 45 = .ok (.iinc 1 1, 3) := by decide +kernel
theorem dX4_init_48 : decode cX4_init 48 = .ok (.goto (-25), 3) := by decide +kernel
theorem dX4_init_51 : decode cX4_init 51 = .ok (.aload_n 0, 1) := by decide +kernel
theorem dX4_init_52 : decode cX4_init 52 = .ok (.iconst 0, 1) := by decide +kernel
theorem dX4_init_53 : decode cX4_init 53 = .ok (.putfield 22, 3) := by decide +kernel
theorem dX4_init_56 : decode cX4_init 56 = .ok (.aload_n 0, 1) := by decide +kernel
theorem dX4_init_57 : decode cX4_init 57 = .ok (.iconst 0, 1) := by decide +kernel
theorem dX4_init_58 : decode cX4_init 58 = .ok (.putfield 26, 3) := by decide +kernel
theorem dX4_init_61 : decode cX4_init 61 = .ok (.aload_n 0, 1) := by decide +kernel
theorem dX4_init_62 : decode cX4_init 62 = .ok (.bipush 20, 2) := by decide +kernel
theorem dX4_init_64 : decode cX4_init 64 = .ok (.putfield 29, 3) := by decide +kernel
theorem dX4_init_67 : decode cX4_init 67 = .ok (.aload_n 0, 1) := by decide +kernel
theorem dX4_init_68 : decode cX4_init 68 = .ok (.iconst 5, 1) := by decide +kernel
theorem dX4_init_69 : decode cX4_init 69 = .ok (.putfield 32, 3) := by decide +kernel
theorem dX4_init_72 : decode cX4_init 72 = .ok (.aload_n 0, 1) := by decide +kernel
theorem dX4_init_73 : decode cX4_init 73 = .ok (.iconst 1, 1) := by decide +kernel
theorem dX4_init_74 : decode cX4_init 74 = .ok (.putfield 35, 3) := by decide +kernel
theorem dX4_init_77 : decode cX4_init 77 = .ok (.aload_n 0, 1) := by decide +kernel
theorem dX4_init_78 : decode cX4_init 78 = .ok (.bipush 24, 2) := by decide +kernel
theorem dX4_init_80 : decode cX4_init 80 = .ok (.putfield 38, 3) := by decide +kernel
theorem dX4_init_83 : decode cX4_init 83 = .ok (.aload_n 0, 1) := by decide +kernel
theorem dX4_init_84 : decode cX4_init 84 = .ok (.iconst 0, 1) := by decide +kernel
theorem dX4_init_85 : decode cX4_init 85 = .ok (.putfield 41, 3) := by decide +kernel
theorem dX4_init_88 : decode cX4_init 88 = .ok (.aload_n 0, 1) := by decide +kernel
theorem dX4_init_89 : decode cX4_init 89 = .ok (.iconst 1, 1) := by decide +kernel
theorem dX4_init_90 : decode cX4_init 90 = .ok (.putfield 44, 3) := by decide +kernel
theorem dX4_init_93 : decode cX4_init 93 = .ok (.return_, 1) := by decide +kernel
theorem dX4_takeAll_0 : decode cX4_takeAll 0 = .ok (.iconst 0, 1) := by decide +kernel
theorem dX4_takeAll_1 : decode cX4_takeAll 1 = .ok (.istore_n 2, 1) := by decide +kernel
theorem dX4_takeAll_2 : decode cX4_takeAll 2 = .ok (.iload_n 2, 1) := by decide +kernel
theorem dX4_takeAll_3 : decode cX4_takeAll 3 = .ok (.aload_n 0, 1) := by decide +kernel
theorem dX4_takeAll_4 : decode cX4_takeAll 4 = .ok (.getfield 9, 3) := by decide +kernel
theorem dX4_takeAll_7 : decode cX4_takeAll 7 = .ok (.arraylength, 1) := by decide +kernel
theorem dX4_takeAll_8 : decode cX4_takeAll 8 = .ok (.if_icmp .ge 20, 3) := by decide +kernel
theorem dX4_takeAll_11 : decode cX4_takeAll 11 = .ok (.aload_n 0, 1) := by decide +kernel
theorem dX4_takeAll_12 : decode cX4_takeAll 12 = .ok (.getfield 9, 3) := by decide +kernel
theorem dX4_takeAll_15 : decode cX4_takeAll 15 = .ok (.iload_n 2, 1) := by decide +kernel
theorem dX4_takeAll_16 : decode cX4_takeAll 16 = .ok (.aload_n 1, 1) := by decide +kernel
theorem dX4_takeAll_17 : decode cX4_takeAll 17 = .ok (.iload_n 2, 1) := by decide +kernel
theorem dX4_takeAll_18 : decode cX4_takeAll 18 = .ok (.invokevirtual 47, 3) := by decide +kernel
theorem dX4_takeAll_21 : decode cX4_takeAll 21 = .ok (.iastore, 1) := by decide +kernel
theorem dX4_takeAll_22 : decode cX4_takeAll 22 = .ok (.iinc 2 1, 3) := by decide +kernel
theorem dX4_takeAll_25 : decode cX4_takeAll 25 = .ok (.goto (-23), 3) := by decide +kernel
theorem dX4_takeAll_28 : decode cX4_takeAll 28 = .ok (.iconst 0, 1) := by decide +kernel
theorem dX4_takeAll_29 : decode cX4_takeAll 29 = .ok (.istore_n 2, 1) := by decide +kernel
theorem dX4_takeAll_30 : decode cX4_takeAll 30 = .ok (.iload_n 2, 1) := by decide +kernel
theorem dX4_takeAll_31 : decode cX4_takeAll 31 = .ok (.aload_n 0, 1) := by decide +kernel
theorem dX4_takeAll_32 : decode cX4_takeAll 32 = .ok (.getfield 17, 3) := by decide +kernel
theorem dX4_takeAll_35 : decode cX4_takeAll 35 = .ok (.arraylength, 1) := by decide +kernel
theorem dX4_takeAll_36 : decode cX4_takeAll 36 = .ok (.if_icmp .ge 38, 3) := by decide +kernel
theorem dX4_takeAll_39 : decode cX4_takeAll 39 = .ok (.aload_n 1, 1) := by decide +kernel
theorem dX4_takeAll_40 : decode cX4_takeAll 40 = .ok (.iload_n 2, 1) := by decide +kernel
theorem dX4_takeAll_41 : decode cX4_takeAll 41 = .ok (.invokevirtual 51, 3) := by decide +kernel
theorem dX4_takeAll_44 : decode cX4_takeAll 44 = .ok (.astore_n 3, 1) := by decide +kernel
theorem dX4_takeAll_45 : decode cX4_takeAll 45 = .ok (.aload_n 0, 1) := by decide +kernel
theorem dX4_takeAll_46 : decode cX4_takeAll 46 = .ok (.getfield 17, 3) := by decide +kernel
theorem dX4_takeAll_49 : decode cX4_takeAll 49 = .ok (.iload_n 2, 1) := by decide +kernel
theorem dX4_takeAll_50 : decode cX4_takeAll 50 = .ok (.aaload, 1) := by decide +kernel
theorem dX4_takeAll_51 : decode cX4_takeAll 51 = .ok (.ifnull 17, 3) := by decide +kernel
theorem dX4_takeAll_54 : decode cX4_takeAll 54 = .ok (.aload_n 3, 1) := by decide +kernel
theorem dX4_takeAll_55 : decode cX4_takeAll 55 = .ok (.ifnull 13, 3) := by decide +kernel
theorem dX4_takeAll_58 : decode cX4_takeAll 58 = .ok (.aload_n 0, 1) := by decide +kernel
theorem dX4_takeAll_59 : decode cX4_takeAll 59 = .ok (.getfield 17, 3) := by decide +kernel
theorem dX4_takeAll_62 : decode cX4_takeAll 62 = .ok (.iload_n 2, 1) := by decide +kernel
theorem dX4_takeAll_63 : decode cX4_takeAll 63 = .ok (.aaload, 1) := by decide +kernel
theorem dX4_takeAll_64 : decode cX4_takeAll 64 = .ok (.aload_n 3, 1) := by decide +kernel
theorem dX4_takeAll_65 : decode cX4_takeAll 65 = .ok (.invokevirtual 55, 3) := by decide +kernel
theorem dX4_takeAll_68 : decode cX4_takeAll 68 = .ok (.iinc 2 1, 3) := by decide +kernel
theorem dX4_takeAll_71 : decode cX4_takeAll 71 = .ok (.goto (-41), 3) := by decide +kernel
theorem dX4_takeAll_74 : decode cX4_takeAll 74 = .ok (.aload_n 0, 1) := by decide +kernel
theorem dX4_takeAll_75 : decode cX4_takeAll 75 = .ok (.aload_n 1, 1) := by decide +kernel
theorem dX4_takeAll_76 : decode cX4_takeAll 76 = .ok (.getfield 22, 3) := by decide +kernel
theorem dX4_takeAll_79 : decode cX4_takeAll 79 = .ok (.putfield 22, 3) := by decide +kernel
theorem dX4_takeAll_82 : decode cX4_takeAll 82 = .ok (.aload_n 0, 1) := by decide +kernel
theorem dX4_takeAll_83 : decode cX4_takeAll 83 = .ok (.aload_n 1, 1) := by decide +kernel
theorem dX4_takeAll_84 : decode cX4_takeAll 84 = .ok (.getfield 26, 3) := by decide +kernel
theorem dX4_takeAll_87 : decode cX4_takeAll 87 = .ok (.putfield 26, 3) := by decide +kernel
theorem dX4_takeAll_90 : decode cX4_takeAll 90 = .ok (.aload_n 0, 1) := by decide +kernel
theorem dX4_takeAll_91 : decode cX4_takeAll 91 = .ok (.aload_n 1, 1) := by decide +kernel
theorem dX4_takeAll_92 : decode cX4_takeAll 92 = .ok (.getfield 29, 3) := by decide +kernel
theorem dX4_takeAll_95 : decode cX4_takeAll 95 = .ok (.putfield 29, 3) := by decide +kernel
theorem dX4_takeAll_98 : decode cX4_takeAll 98 = .ok (.aload_n 0, 1) := by decide +kernel
theorem dX4_takeAll_99 : decode cX4_takeAll 99 = .ok (.aload_n 1, 1) := by decide +kernel
theorem dX4_takeAll_100 : decode cX4_takeAll 100 = .ok (.getfield 32, 3) := by decide +kernel
theorem dX4_takeAll_103 : decode cX4_takeAll 103 = .ok (.putfield 32, 3) := by decide +kernel
theorem dX4_takeAll_106 : decode cX4_takeAll 106 = .ok (.aload_n 0, 1) := by decide +kernel
theorem dX4_takeAll_107 : decode cX4_takeAll 107 = .ok (.aload_n 1, 1) := by decide +kernel
theorem dX4_takeAll_108 : decode cX4_takeAll 108 = .ok (.getfield 35, 3) := by decide +kernel
theorem dX4_takeAll_111 : decode cX4_takeAll 111 = .ok (.putfield 35, 3) := by decide +kernel
theorem dX4_takeAll_114 : decode cX4_takeAll 114 = .ok (.aload_n 0, 1) := by decide +kernel
theorem dX4_takeAll_115 : decode cX4_takeAll 115 = .ok (.aload_n 1, 1) := by decide +kernel
theorem dX4_takeAll_116 : decode cX4_takeAll 116 = .ok (.getfield 38, 3) := by decide +kernel
theorem dX4_takeAll_119 : decode cX4_takeAll 119 = .ok (.putfield 38, 3) := by decide +kernel
theorem dX4_takeAll_122 : decode cX4_takeAll 122 = .ok (.aload_n 0, 1) := by decide +kernel
theorem dX4_takeAll_123 : decode cX4_takeAll 123 = .ok (.aload_n 1, 1) := by decide +kernel
theorem dX4_takeAll_124 : decode cX4_takeAll 124 = .ok (.getfield 41, 3) := by decide +kernel
theorem dX4_takeAll_127 : decode cX4_takeAll 127 = .ok (.putfield 41, 3) := by decide +kernel
theorem dX4_takeAll_130 : decode cX4_takeAll 130 = .ok (.aload_n 0, 1) := by decide +kernel
theorem dX4_takeAll_131 : decode cX4_takeAll 131 = .ok (.aload_n 1, 1) := by decide +kernel
theorem dX4_takeAll_132 : decode cX4_takeAll 132 = .ok (.getfield 44, 3) := by decide +kernel
theorem dX4_takeAll_135 : decode cX4_takeAll 135 = .ok (.putfield 44, 3) := by decide +kernel
theorem dX4_takeAll_138 : decode cX4_takeAll 138 = .ok (.return_, 1) := by decide +kernel
theorem dX4_isLetter_0 : decode cX4_isLetter 0 = .ok (.iload_n 1, 1) := by decide +kernel
theorem dX4_isLetter_1 : decode cX4_isLetter 1 = .ok (.ifCond .lt 24, 3) := by decide +kernel
theorem dX4_isLetter_4 : decode cX4_isLetter 4 = .ok (.iload_n 1, 1) := by decide +kernel
theorem dX4_isLetter_5 : decode cX4_isLetter 5 = .ok (.aload_n 0, 1) := by decide +kernel
theorem dX4_isLetter_6 : decode cX4_isLetter 6 = .ok (.getfield 22, 3) := by decide +kernel
theorem dX4_isLetter_9 : decode cX4_isLetter 9 = .ok (.if_icmp .ge 16, 3) := by decide +kernel
theorem dX4_isLetter_12 : decode cX4_isLetter 12 = .ok (.iload_n 1, 1) := by decide +kernel
theorem dX4_isLetter_13 : decode cX4_isLetter 13 = .ok (.aload_n 0, 1) := by decide +kernel
theorem dX4_isLetter_14 : decode cX4_isLetter 14 = .ok (.getfield 9, 3) := by decide +kernel
theorem dX4_isLetter_17 : decode cX4_isLetter 17 = .ok (.arraylength, 1) := by decide +kernel
theorem dX4_isLetter_18 : decode cX4_isLetter 18 = .ok (.if_icmp .ge 7, 3) := by decide +kernel
theorem dX4_isLetter_21 : decode cX4_isLetter 21 = .ok (.iconst 1, 1) := by decide +kernel
theorem dX4_isLetter_22 : decode cX4_isLetter 22 = .ok (.goto 4, 3) := by decide +kernel
theorem dX4_isLetter_25 : decode cX4_isLetter 25 = .ok (.iconst 0, 1) := by decide +kernel
theorem dX4_isLetter_26 : decode cX4_isLetter 26 = .ok (.ireturn, 1) := by decide +kernel
theorem dX4_isLetterOrNone_0 : decode cX4_isLetterOrNone 0 = .ok (.iload_n 1, 1) := by decide +kernel
theorem dX4_isLetterOrNone_1 : decode cX4_isLetterOrNone 1 = .ok (.iconst (-1), 1) := by decide +kernel
theorem dX4_isLetterOrNone_2 : decode cX4_isLetterOrNone 2 = .ok (.if_icmp .eq 11, 3) := by decide +kernel
theorem dX4_isLetterOrNone_5 : decode cX4_isLetterOrNone 5 = .ok (.aload_n 0, 1) := by decide +kernel
theorem dX4_isLetterOrNone_6 : decode cX4_isLetterOrNone 6 = .ok (.iload_n 1, 1) := by decide +kernel
theorem dX4_isLetterOrNone_7 : decode cX4_isLetterOrNone 7 = .ok (.invokevirtual 59, 3) := by decide +kernel
theorem dX4_isLetterOrNone_10 : decode cX4_isLetterOrNone 10 = .ok (.ifCond .eq 7, 3) := by decide +kernel
theorem dX4_isLetterOrNone_13 : decode cX4_isLetterOrNone 13 = .ok (.iconst 1, 1) := by decide +kernel
theorem dX4_isLetterOrNone_14 : decode cX4_isLetterOrNone 14 = .ok (.goto 4, 3) := by decide +kernel
theorem dX4_isLetterOrNone_17 : decode cX4_isLetterOrNone 17 = .ok (.iconst 0, 1) := by decide +kernel
theorem dX4_isLetterOrNone_18 : decode cX4_isLetterOrNone 18 = .ok (.ireturn, 1) := by decide +kernel
theorem dX4_hasLetterRoom_0 : decode cX4_hasLetterRoom 0 = .ok (.aload_n 0, 1) := by decide +kernel
theorem dX4_hasLetterRoom_1 : decode cX4_hasLetterRoom 1 = .ok (.getfield 22, 3) := by decide +kernel
theorem dX4_hasLetterRoom_4 : decode cX4_hasLetterRoom 4 = .ok (.ifCond .lt 19, 3) := by decide +kernel
theorem dX4_hasLetterRoom_7 : decode cX4_hasLetterRoom 7 = .ok (.aload_n 0, 1) := by decide +kernel
theorem dX4_hasLetterRoom_8 : decode cX4_hasLetterRoom 8 = .ok (.getfield 22, 3) := by decide +kernel
theorem dX4_hasLetterRoom_11 : decode cX4_hasLetterRoom 11 = .ok (.aload_n 0, 1) := by decide +kernel
theorem dX4_hasLetterRoom_12 : decode cX4_hasLetterRoom 12 = .ok (.getfield 9, 3) := by decide +kernel
theorem dX4_hasLetterRoom_15 : decode cX4_hasLetterRoom 15 = .ok (.arraylength, 1) := by decide +kernel
theorem dX4_hasLetterRoom_16 : decode cX4_hasLetterRoom 16 = .ok (.if_icmp .ge 7, 3) := by decide +kernel
theorem dX4_hasLetterRoom_19 : decode cX4_hasLetterRoom 19 = .ok (.iconst 1, 1) := by decide +kernel
theorem dX4_hasLetterRoom_20 : decode cX4_hasLetterRoom 20 = .ok (.goto 4, 3) := by decide +kernel
theorem dX4_hasLetterRoom_23 : decode cX4_hasLetterRoom 23 = .ok (.iconst 0, 1) := by decide +kernel
theorem dX4_hasLetterRoom_24 : decode cX4_hasLetterRoom 24 = .ok (.ireturn, 1) := by decide +kernel
theorem dX4_addLetter_0 : decode cX4_addLetter 0 = .ok (.aload_n 0, 1) := by decide +kernel
theorem dX4_addLetter_1 : decode cX4_addLetter 1 = .ok (.invokevirtual 63, 3) := by decide +kernel
theorem dX4_addLetter_4 : decode cX4_addLetter 4 = .ok (.ifCond .ne 5, 3) := by decide +kernel
theorem dX4_addLetter_7 : decode cX4_addLetter 7 = .ok (.iconst (-1), 1) := by decide +kernel
theorem dX4_addLetter_8 : decode cX4_addLetter 8 = .ok (.ireturn, 1) := by decide +kernel
theorem dX4_addLetter_9 : decode cX4_addLetter 9 = .ok (.aload_n 0, 1) := by decide +kernel
theorem dX4_addLetter_10 : decode cX4_addLetter 10 = .ok (.getfield 9, 3) := by decide +kernel
theorem dX4_addLetter_13 : decode cX4_addLetter 13 = .ok (.aload_n 0, 1) := by decide +kernel
theorem dX4_addLetter_14 : decode cX4_addLetter 14 = .ok (.getfield 22, 3) := by decide +kernel
theorem dX4_addLetter_17 : decode cX4_addLetter 17 = .ok (.iload_n 1, 1) := by decide +kernel
theorem dX4_addLetter_18 : decode cX4_addLetter 18 = .ok (.iastore, 1) := by decide +kernel
theorem dX4_addLetter_19 : decode cX4_addLetter 19 = .ok (.aload_n 0, 1) := by decide +kernel
theorem dX4_addLetter_20 : decode cX4_addLetter 20 = .ok (.dup, 1) := by decide +kernel
theorem dX4_addLetter_21 : decode cX4_addLetter 21 = .ok (.getfield 22, 3) := by decide +kernel
theorem dX4_addLetter_24 : decode cX4_addLetter 24 = .ok (.iconst 1, 1) := by decide +kernel
theorem dX4_addLetter_25 : decode cX4_addLetter 25 = .ok (.iadd, 1) := by decide +kernel
theorem dX4_addLetter_26 : decode cX4_addLetter 26 = .ok (.putfield 22, 3) := by decide +kernel
theorem dX4_addLetter_29 : decode cX4_addLetter 29 = .ok (.aload_n 0, 1) := by decide +kernel
theorem dX4_addLetter_30 : decode cX4_addLetter 30 = .ok (.getfield 22, 3) := by decide +kernel
theorem dX4_addLetter_33 : decode cX4_addLetter 33 = .ok (.iconst 1, 1) := by decide +kernel
theorem dX4_addLetter_34 : decode cX4_addLetter 34 = .ok (.isub, 1) := by decide +kernel
theorem dX4_addLetter_35 : decode cX4_addLetter 35 = .ok (.ireturn, 1) := by decide +kernel
theorem dX4_cellsOf_0 : decode cX4_cellsOf 0 = .ok (.aload_n 0, 1) := by decide +kernel
theorem dX4_cellsOf_1 : decode cX4_cellsOf 1 = .ok (.iload_n 1, 1) := by decide +kernel
theorem dX4_cellsOf_2 : decode cX4_cellsOf 2 = .ok (.invokevirtual 59, 3) := by decide +kernel
theorem dX4_cellsOf_5 : decode cX4_cellsOf 5 = .ok (.ifCond .eq 12, 3) := by decide +kernel
theorem dX4_cellsOf_8 : decode cX4_cellsOf 8 = .ok (.aload_n 0, 1) := by decide +kernel
theorem dX4_cellsOf_9 : decode cX4_cellsOf 9 = .ok (.getfield 9, 3) := by decide +kernel
theorem dX4_cellsOf_12 : decode cX4_cellsOf 12 = .ok (.iload_n 1, 1) := by decide +kernel
theorem dX4_cellsOf_13 : decode cX4_cellsOf 13 = .ok (.iaload, 1) := by decide +kernel
theorem dX4_cellsOf_14 : decode cX4_cellsOf 14 = .ok (.goto 4, 3) := by decide +kernel
theorem dX4_cellsOf_17 : decode cX4_cellsOf 17 = .ok (.iconst 0, 1) := by decide +kernel
theorem dX4_cellsOf_18 : decode cX4_cellsOf 18 = .ok (.ireturn, 1) := by decide +kernel
theorem dX4_paneAt_0 : decode cX4_paneAt 0 = .ok (.iload_n 1, 1) := by decide +kernel
theorem dX4_paneAt_1 : decode cX4_paneAt 1 = .ok (.ifCond .lt 29, 3) := by decide +kernel
theorem dX4_paneAt_4 : decode cX4_paneAt 4 = .ok (.iload_n 1, 1) := by decide +kernel
theorem dX4_paneAt_5 : decode cX4_paneAt 5 = .ok (.aload_n 0, 1) := by decide +kernel
theorem dX4_paneAt_6 : decode cX4_paneAt 6 = .ok (.getfield 26, 3) := by decide +kernel
theorem dX4_paneAt_9 : decode cX4_paneAt 9 = .ok (.if_icmp .ge 21, 3) := by decide +kernel
theorem dX4_paneAt_12 : decode cX4_paneAt 12 = .ok (.iload_n 1, 1) := by decide +kernel
theorem dX4_paneAt_13 : decode cX4_paneAt 13 = .ok (.aload_n 0, 1) := by decide +kernel
theorem dX4_paneAt_14 : decode cX4_paneAt 14 = .ok (.getfield 17, 3) := by decide +kernel
theorem dX4_paneAt_17 : decode cX4_paneAt 17 = .ok (.arraylength, 1) := by decide +kernel
theorem dX4_paneAt_18 : decode cX4_paneAt 18 = .ok (.if_icmp .ge 12, 3) := by decide +kernel
theorem dX4_paneAt_21 : decode cX4_paneAt 21 = .ok (.aload_n 0, 1) := by decide +kernel
theorem dX4_paneAt_22 : decode cX4_paneAt 22 = .ok (.getfield 17, 3) := by decide +kernel
theorem dX4_paneAt_25 : decode cX4_paneAt 25 = .ok (.iload_n 1, 1) := by decide +kernel
theorem dX4_paneAt_26 : decode cX4_paneAt 26 = .ok (.aaload, 1) := by decide +kernel
theorem dX4_paneAt_27 : decode cX4_paneAt 27 = .ok (.goto 4, 3) := by decide +kernel
theorem dX4_paneAt_30 : decode cX4_paneAt 30 = .ok (.aconst_null, 1) := by decide +kernel
theorem dX4_paneAt_31 : decode cX4_paneAt 31 = .ok (.areturn, 1) := by decide +kernel
theorem dX4_hasPaneRoom_0 : decode cX4_hasPaneRoom 0 = .ok (.aload_n 0, 1) := by decide +kernel
theorem dX4_hasPaneRoom_1 : decode cX4_hasPaneRoom 1 = .ok (.getfield 26, 3) := by decide +kernel
theorem dX4_hasPaneRoom_4 : decode cX4_hasPaneRoom 4 = .ok (.ifCond .lt 19, 3) := by decide +kernel
theorem dX4_hasPaneRoom_7 : decode cX4_hasPaneRoom 7 = .ok (.aload_n 0, 1) := by decide +kernel
theorem dX4_hasPaneRoom_8 : decode cX4_hasPaneRoom 8 = .ok (.getfield 26, 3) := by decide +kernel
theorem dX4_hasPaneRoom_11 : decode cX4_hasPaneRoom 11 = .ok (.aload_n 0, 1) := by decide +kernel
theorem dX4_hasPaneRoom_12 : decode cX4_hasPaneRoom 12 = .ok (.getfield 17, 3) := by decide +kernel
theorem dX4_hasPaneRoom_15 : decode cX4_hasPaneRoom 15 = .ok (.arraylength, 1) := by decide +kernel
theorem dX4_hasPaneRoom_16 : decode cX4_hasPaneRoom 16 = .ok (.if_icmp .ge 7, 3) := by decide +kernel
theorem dX4_hasPaneRoom_19 : decode cX4_hasPaneRoom 19 = .ok (.iconst 1, 1) := by decide +kernel
theorem dX4_hasPaneRoom_20 : decode cX4_hasPaneRoom 20 = .ok (.goto 4, 3) := by decide +kernel
theorem dX4_hasPaneRoom_23 : decode cX4_hasPaneRoom 23 = .ok (.iconst 0, 1) := by decide +kernel
theorem dX4_hasPaneRoom_24 : decode cX4_hasPaneRoom 24 = .ok (.ireturn, 1) := by decide +kernel
theorem dX4_addPane_0 : decode cX4_addPane 0 = .ok (.aload_n 0, 1) := by decide +kernel
theorem dX4_addPane_1 : decode cX4_addPane 1 = .ok (.dup, 1) := by decide +kernel
theorem dX4_addPane_2 : decode cX4_addPane 2 = .ok (.getfield 26, 3) := by decide +kernel
theorem dX4_addPane_5 : decode cX4_addPane 5 = .ok (.iconst 1, 1) := by decide +kernel
theorem dX4_addPane_6 : decode cX4_addPane 6 = .ok (.iadd, 1) := by decide +kernel
theorem dX4_addPane_7 : decode cX4_addPane 7 = .ok (.putfield 26, 3) := by decide +kernel
theorem dX4_addPane_10 : decode cX4_addPane 10 = .ok (.aload_n 0, 1) := by decide +kernel
theorem dX4_addPane_11 : decode cX4_addPane 11 = .ok (.aload_n 0, 1) := by decide +kernel
theorem dX4_addPane_12 : decode cX4_addPane 12 = .ok (.getfield 26, 3) := by decide +kernel
theorem dX4_addPane_15 : decode cX4_addPane 15 = .ok (.iconst 1, 1) := by decide +kernel
theorem dX4_addPane_16 : decode cX4_addPane 16 = .ok (.isub, 1) := by decide +kernel
theorem dX4_addPane_17 : decode cX4_addPane 17 = .ok (.invokevirtual 51, 3) := by decide +kernel
theorem dX4_addPane_20 : decode cX4_addPane 20 = .ok (.astore 4, 2) := by decide +kernel
theorem dX4_addPane_22 : decode cX4_addPane 22 = .ok (.aload 4, 2) := by decide +kernel
theorem dX4_addPane_24 : decode cX4_addPane 24 = .ok (.ifnonnull 15, 3) := by decide +kernel
theorem dX4_addPane_27 : decode cX4_addPane 27 = .ok (.aload_n 0, 1) := by decide +kernel
theorem dX4_addPane_28 : decode cX4_addPane 28 = .ok (.dup, 1) := by decide +kernel
theorem dX4_addPane_29 : decode cX4_addPane 29 = .ok (.getfield 26, 3) := by decide +kernel
theorem dX4_addPane_32 : decode cX4_addPane 32 = .ok (.iconst 1, 1) := by decide +kernel
theorem dX4_addPane_33 : decode cX4_addPane 33 = .ok (.isub, 1) := by decide +kernel
theorem dX4_addPane_34 : decode cX4_addPane 34 = .ok (.putfield 26, 3) := by decide +kernel
theorem dX4_addPane_37 : decode cX4_addPane 37 = .ok (.iconst (-1), 1) := by decide +kernel
theorem dX4_addPane_38 : decode cX4_addPane 38 = .ok (.ireturn, 1) := by decide +kernel
theorem dX4_addPane_39 : decode cX4_addPane 39 = .ok (.aload 4, 2) := by decide +kernel
theorem dX4_addPane_41 : decode cX4_addPane 41 = .ok (.iload_n 1, 1) := by decide +kernel
theorem dX4_addPane_42 : decode cX4_addPane 42 = .ok (.iload_n 2, 1) := by decide +kernel
theorem dX4_addPane_43 : decode cX4_addPane 43 = .ok (.iload_n 3, 1) := by decide +kernel
theorem dX4_addPane_44 : decode cX4_addPane 44 = .ok (.invokevirtual 67, 3) := by decide +kernel
theorem dX4_addPane_47 : decode cX4_addPane 47 = .ok (.aload_n 0, 1) := by decide +kernel
theorem dX4_addPane_48 : decode cX4_addPane 48 = .ok (.getfield 26, 3) := by decide +kernel
theorem dX4_addPane_51 : decode cX4_addPane 51 = .ok (.iconst 1, 1) := by decide +kernel
theorem dX4_addPane_52 : decode cX4_addPane 52 = .ok (.isub, 1) := by decide +kernel
theorem dX4_addPane_53 : decode cX4_addPane 53 = .ok (.ireturn, 1) := by decide +kernel
theorem dX4_mostOf_0 : decode cX4_mostOf 0 = .ok (.iload_n 0, 1) := by decide +kernel
theorem dX4_mostOf_1 : decode cX4_mostOf 1 = .ok (.tableswitch 36 0 2 #[27, 30, 33], 27) := by decide +kernel
theorem dX4_mostOf_28 : decode cX4_mostOf 28 = .ok (.bipush 40, 2) := by decide +kernel
theorem dX4_mostOf_30 : decode cX4_mostOf 30 = .ok (.ireturn, 1) := by decide +kernel
theorem dX4_mostOf_31 : decode cX4_mostOf 31 = .ok (.bipush 9, 2) := by decide +kernel
theorem dX4_mostOf_33 : decode cX4_mostOf 33 = .ok (.ireturn, 1) := by decide +kernel
theorem dX4_mostOf_34 : decode cX4_mostOf 34 = .ok (.bipush 9, 2) := by decide +kernel
theorem dX4_mostOf_36 : decode cX4_mostOf 36 = .ok (.ireturn, 1) := by decide +kernel
theorem dX4_mostOf_37 : decode cX4_mostOf 37 = .ok (.iconst (-1), 1) := by decide +kernel
theorem dX4_mostOf_38 : decode cX4_mostOf 38 = .ok (.ireturn, 1) := by decide +kernel
theorem dX4_mayBecome_0 : decode cX4_mayBecome 0 = .ok (.iload_n 1, 1) := by decide +kernel
theorem dX4_mayBecome_1 : decode cX4_mayBecome 1 = .ok (.ifCond .lt 15, 3) := by decide +kernel
theorem dX4_mayBecome_4 : decode cX4_mayBecome 4 = .ok (.iload_n 1, 1) := by decide +kernel
theorem dX4_mayBecome_5 : decode cX4_mayBecome 5 = .ok (.iload_n 0, 1) := by decide +kernel
theorem dX4_mayBecome_6 : decode cX4_mayBecome 6 = .ok (.invokestatic 71, 3) := by decide +kernel
theorem dX4_mayBecome_9 : decode cX4_mayBecome 9 = .ok (.if_icmp .gt 7, 3) := by decide +kernel
theorem dX4_mayBecome_12 : decode cX4_mayBecome 12 = .ok (.iconst 1, 1) := by decide +kernel
theorem dX4_mayBecome_13 : decode cX4_mayBecome 13 = .ok (.goto 4, 3) := by decide +kernel
theorem dX4_mayBecome_16 : decode cX4_mayBecome 16 = .ok (.iconst 0, 1) := by decide +kernel
theorem dX4_mayBecome_17 : decode cX4_mayBecome 17 = .ok (.ireturn, 1) := by decide +kernel
theorem dX4_changeWeather_0 : decode cX4_changeWeather 0 = .ok (.iload_n 1, 1) := by decide +kernel
theorem dX4_changeWeather_1 : decode cX4_changeWeather 1 = .ok (.tableswitch 63 0 2 #[27, 39, 51], 27) := by decide +kernel
theorem dX4_changeWeather_28 : decode cX4_changeWeather 28 = .ok (.aload_n 0, 1) := by decide +kernel
theorem dX4_changeWeather_29 : decode cX4_changeWeather 29 = .ok (.getfield 29, 3) := by decide +kernel
theorem dX4_changeWeather_32 : decode cX4_changeWeather 32 = .ok (.istore_n 3, 1) := by decide +kernel
theorem dX4_changeWeather_33 : decode cX4_changeWeather 33 = .ok (.aload_n 0, 1) := by decide +kernel
theorem dX4_changeWeather_34 : decode cX4_changeWeather 34 = .ok (.iload_n 2, 1) := by decide +kernel
theorem dX4_changeWeather_35 : decode cX4_changeWeather 35 = .ok (.putfield 29, 3) := by decide +kernel
theorem dX4_changeWeather_38 : decode cX4_changeWeather 38 = .ok (.iload_n 3, 1) := by decide +kernel
theorem dX4_changeWeather_39 : decode cX4_changeWeather 39 = .ok (.ireturn, 1) := by decide +kernel
theorem dX4_changeWeather_40 : decode cX4_changeWeather 40 = .ok (.aload_n 0, 1) := by decide +kernel
theorem dX4_changeWeather_41 : decode cX4_changeWeather 41 = .ok (.getfield 32, 3) := by decide +kernel
theorem dX4_changeWeather_44 : decode cX4_changeWeather 44 = .ok (.istore_n 3, 1) := by decide +kernel
theorem dX4_changeWeather_45 : decode cX4_changeWeather 45 = .ok (.aload_n 0, 1) := by decide +kernel
theorem dX4_changeWeather_46 : decode cX4_changeWeather 46 = .ok (.iload_n 2, 1) := by decide +kernel
theorem dX4_changeWeather_47 : decode cX4_changeWeather 47 = .ok (.putfield 32, 3) := by decide +kernel
theorem dX4_changeWeather_50 : decode cX4_changeWeather 50 = .ok (.iload_n 3, 1) := by decide +kernel
theorem dX4_changeWeather_51 : decode cX4_changeWeather 51 = .ok (.ireturn, 1) := by decide +kernel
theorem dX4_changeWeather_52 : decode cX4_changeWeather 52 = .ok (.aload_n 0, 1) := by decide +kernel
theorem dX4_changeWeather_53 : decode cX4_changeWeather 53 = .ok (.getfield 35, 3) := by decide +kernel
theorem dX4_changeWeather_56 : decode cX4_changeWeather 56 = .ok (.istore_n 3, 1) := by decide +kernel
theorem dX4_changeWeather_57 : decode cX4_changeWeather 57 = .ok (.aload_n 0, 1) := by decide +kernel
theorem dX4_changeWeather_58 : decode cX4_changeWeather 58 = .ok (.iload_n 2, 1) := by decide +kernel
theorem dX4_changeWeather_59 : decode cX4_changeWeather 59 = .ok (.putfield 35, 3) := by decide +kernel
theorem dX4_changeWeather_62 : decode cX4_changeWeather 62 = .ok (.iload_n 3, 1) := by decide +kernel
theorem dX4_changeWeather_63 : decode cX4_changeWeather 63 = .ok (.ireturn, 1) := by decide +kernel
theorem dX4_changeWeather_64 : decode cX4_changeWeather 64 = .ok (.iconst (-1), 1) := by decide +kernel
theorem dX4_changeWeather_65 : decode cX4_changeWeather 65 = .ok (.ireturn, 1) := by decide +kernel
theorem dX4_readingOf_0 : decode cX4_readingOf 0 = .ok (.iconst (-1), 1) := by decide +kernel
theorem dX4_readingOf_1 : decode cX4_readingOf 1 = .ok (.istore_n 2, 1) := by decide +kernel
theorem dX4_readingOf_2 : decode cX4_readingOf 2 = .ok (.iconst 5, 1) := by decide +kernel
theorem dX4_readingOf_3 : decode cX4_readingOf 3 = .ok (.istore_n 3, 1) := by decide +kernel
theorem dX4_readingOf_4 : decode cX4_readingOf 4 = .ok (.iconst 0, 1) := by decide +kernel
theorem dX4_readingOf_5 : decode cX4_readingOf 5 = .ok (.istore 4, 2) := by decide +kernel
theorem dX4_readingOf_7 : decode cX4_readingOf 7 = .ok (.iload 4, 2) := by decide +kernel
theorem dX4_readingOf_9 : decode cX4_readingOf 9 = .ok (.aload_n 0, 1) := by decide +kernel
theorem dX4_readingOf_10 : decode cX4_readingOf 10 = .ok (.getfield 22, 3) := by decide +kernel
theorem dX4_readingOf_13 : decode cX4_readingOf 13 = .ok (.if_icmp .ge 45, 3) := by decide +kernel
theorem dX4_readingOf_16 : decode cX4_readingOf 16 = .ok (.aload_n 0, 1) := by decide +kernel
theorem dX4_readingOf_17 : decode cX4_readingOf 17 = .ok (.iload 4, 2) := by decide +kernel
theorem dX4_readingOf_19 : decode cX4_readingOf 19 = .ok (.invokevirtual 47, 3) := by decide +kernel
theorem dX4_readingOf_22 : decode cX4_readingOf 22 = .ok (.iload_n 1, 1) := by decide +kernel
theorem dX4_readingOf_23 : decode cX4_readingOf 23 = .ok (.ixor, 1) := by decide +kernel
theorem dX4_readingOf_24 : decode cX4_readingOf 24 = .ok (.invokestatic 74, 3) := by decide +kernel
theorem dX4_readingOf_27 : decode cX4_readingOf 27 = .ok (.istore 5, 2) := by decide +kernel
theorem dX4_readingOf_29 : decode cX4_readingOf 29 = .ok (.iload 5, 2) := by decide +kernel
theorem dX4_readingOf_31 : decode cX4_readingOf 31 = .ok (.iload_n 3, 1) := by decide +kernel
theorem dX4_readingOf_32 : decode cX4_readingOf 32 = .ok (.if_icmp .ge 12, 3) := by decide +kernel
theorem dX4_readingOf_35 : decode cX4_readingOf 35 = .ok (.iload 5, 2) := by decide +kernel
theorem dX4_readingOf_37 : decode cX4_readingOf 37 = .ok (.istore_n 3, 1) := by decide +kernel
theorem dX4_readingOf_38 : decode cX4_readingOf 38 = .ok (.iload 4, 2) := by decide +kernel
theorem dX4_readingOf_40 : decode cX4_readingOf 40 = .ok (.istore_n 2, 1) := by decide +kernel
theorem dX4_readingOf_41 : decode cX4_readingOf 41 = .ok (.goto 11, 3) := by decide +kernel
theorem dX4_readingOf_44 : decode cX4_readingOf 44 = .ok (.iload 5, 2) := by decide +kernel
theorem dX4_readingOf_46 : decode cX4_readingOf 46 = .ok (.iload_n 3, 1) := by decide +kernel
theorem dX4_readingOf_47 : decode cX4_readingOf 47 = .ok (.if_icmp .ne 5, 3) := by decide +kernel
theorem dX4_readingOf_50 : decode cX4_readingOf 50 = .ok (.iconst (-1), 1) := by decide +kernel
theorem dX4_readingOf_51 : decode cX4_readingOf 51 = .ok (.istore_n 2, 1) := by decide +kernel
theorem dX4_readingOf_52 : decode cX4_readingOf 52 = .ok (.iinc 4 1, 3) := by decide +kernel
theorem dX4_readingOf_55 : decode cX4_readingOf 55 = .ok (.goto (-48), 3) := by decide +kernel
theorem dX4_readingOf_58 : decode cX4_readingOf 58 = .ok (.iload_n 2, 1) := by decide +kernel
theorem dX4_readingOf_59 : decode cX4_readingOf 59 = .ok (.ireturn, 1) := by decide +kernel
theorem dX4_cellsUnlike_0 : decode cX4_cellsUnlike 0 = .ok (.aload_n 0, 1) := by decide +kernel
theorem dX4_cellsUnlike_1 : decode cX4_cellsUnlike 1 = .ok (.iload_n 1, 1) := by decide +kernel
theorem dX4_cellsUnlike_2 : decode cX4_cellsUnlike 2 = .ok (.invokevirtual 47, 3) := by decide +kernel
theorem dX4_cellsUnlike_5 : decode cX4_cellsUnlike 5 = .ok (.aload_n 0, 1) := by decide +kernel
theorem dX4_cellsUnlike_6 : decode cX4_cellsUnlike 6 = .ok (.iload_n 2, 1) := by decide +kernel
theorem dX4_cellsUnlike_7 : decode cX4_cellsUnlike 7 = .ok (.invokevirtual 47, 3) := by decide +kernel
theorem dX4_cellsUnlike_10 : decode cX4_cellsUnlike 10 = .ok (.ixor, 1) := by decide +kernel
theorem dX4_cellsUnlike_11 : decode cX4_cellsUnlike 11 = .ok (.invokestatic 74, 3) := by decide +kernel
theorem dX4_cellsUnlike_14 : decode cX4_cellsUnlike 14 = .ok (.ireturn, 1) := by decide +kernel
theorem dX4_nearestPair_0 : decode cX4_nearestPair 0 = .ok (.iconst (-1), 1) := by decide +kernel
theorem dX4_nearestPair_1 : decode cX4_nearestPair 1 = .ok (.istore_n 1, 1) := by decide +kernel
theorem dX4_nearestPair_2 : decode cX4_nearestPair 2 = .ok (.bipush 17, 2) := by decide +kernel
theorem dX4_nearestPair_4 : decode cX4_nearestPair 4 = .ok (.istore_n 2, 1) := by decide +kernel
theorem dX4_nearestPair_5 : decode cX4_nearestPair 5 = .ok (.iconst 0, 1) := by decide +kernel
theorem dX4_nearestPair_6 : decode cX4_nearestPair 6 = .ok (.istore_n 3, 1) := by decide +kernel
theorem dX4_nearestPair_7 : decode cX4_nearestPair 7 = .ok (.iload_n 3, 1) := by decide +kernel
theorem dX4_nearestPair_8 : decode cX4_nearestPair 8 = .ok (.aload_n 0, 1) := by decide +kernel
theorem dX4_nearestPair_9 : decode cX4_nearestPair 9 = .ok (.getfield 22, 3) := by decide +kernel
theorem dX4_nearestPair_12 : decode cX4_nearestPair 12 = .ok (.if_icmp .ge 55, 3) := by decide +kernel
theorem dX4_nearestPair_15 : decode cX4_nearestPair 15 = .ok (.iload_n 3, 1) := by decide +kernel
theorem dX4_nearestPair_16 : decode cX4_nearestPair 16 = .ok (.iconst 1, 1) := by decide +kernel
theorem dX4_nearestPair_17 : decode cX4_nearestPair 17 = .ok (.iadd, 1) := by decide +kernel
theorem dX4_nearestPair_18 : decode cX4_nearestPair 18 = .ok (.istore 4, 2) := by decide +kernel
theorem dX4_nearestPair_20 : decode cX4_nearestPair 20 = .ok (.iload 4, 2) := by decide +kernel
theorem dX4_nearestPair_22 : decode cX4_nearestPair 22 = .ok (.aload_n 0, 1) := by decide +kernel
theorem dX4_nearestPair_23 : decode cX4_nearestPair 23 = .ok (.getfield 22, 3) := by decide +kernel
theorem dX4_nearestPair_26 : decode cX4_nearestPair 26 = .ok (.if_icmp .ge 35, 3) := by decide +kernel
theorem dX4_nearestPair_29 : decode cX4_nearestPair 29 = .ok (.aload_n 0, 1) := by decide +kernel
theorem dX4_nearestPair_30 : decode cX4_nearestPair 30 = .ok (.iload_n 3, 1) := by decide +kernel
theorem dX4_nearestPair_31 : decode cX4_nearestPair 31 = .ok (.iload 4, 2) := by decide +kernel
theorem dX4_nearestPair_33 : decode cX4_nearestPair 33 = .ok (.invokevirtual 79, 3) := by decide +kernel
theorem dX4_nearestPair_36 : decode cX4_nearestPair 36 = .ok (.istore 5, 2) := by decide +kernel
theorem dX4_nearestPair_38 : decode cX4_nearestPair 38 = .ok (.iload 5, 2) := by decide +kernel
theorem dX4_nearestPair_40 : decode cX4_nearestPair 40 = .ok (.iload_n 2, 1) := by decide +kernel
theorem dX4_nearestPair_41 : decode cX4_nearestPair 41 = .ok (.if_icmp .ge 14, 3) := by decide +kernel
theorem dX4_nearestPair_44 : decode cX4_nearestPair 44 = .ok (.iload 5, 2) := by decide +kernel
theorem dX4_nearestPair_46 : decode cX4_nearestPair 46 = .ok (.istore_n 2, 1) := by decide +kernel
theorem dX4_nearestPair_47 : decode cX4_nearestPair 47 = .ok (.bipush 10, 2) := by decide +kernel
theorem dX4_nearestPair_49 : decode cX4_nearestPair 49 = .ok (.iload_n 3, 1) := by decide +kernel
theorem dX4_nearestPair_50 : decode cX4_nearestPair 50 = .ok (.imul, 1) := by decide +kernel
theorem dX4_nearestPair_51 : decode cX4_nearestPair 51 = .ok (.iload 4, 2) := by decide +kernel
theorem dX4_nearestPair_53 : decode cX4_nearestPair 53 = .ok (.iadd, 1) := by decide +kernel
theorem dX4_nearestPair_54 : decode cX4_nearestPair 54 = .ok (.istore_n 1, 1) := by decide +kernel
theorem dX4_nearestPair_55 : decode cX4_nearestPair 55 = .ok (.iinc 4 1, 3) := by decide +kernel
theorem dX4_nearestPair_58 : decode cX4_nearestPair 58 = .ok (.goto (-38), 3) := by decide +kernel
theorem dX4_nearestPair_61 : decode cX4_nearestPair 61 = .ok (.iinc 3 1, 3) := by decide +kernel
theorem dX4_nearestPair_64 : decode cX4_nearestPair 64 = .ok (.goto (-57), 3) := by decide +kernel
theorem dX4_nearestPair_67 : decode cX4_nearestPair 67 = .ok (.iload_n 1, 1) := by decide +kernel
theorem dX4_nearestPair_68 : decode cX4_nearestPair 68 = .ok (.ireturn, 1) := by decide +kernel
theorem dX4_bestChange_0 : decode cX4_bestChange 0 = .ok (.iconst (-1), 1) := by decide +kernel
theorem dX4_bestChange_1 : decode cX4_bestChange 1 = .ok (.istore_n 2, 1) := by decide +kernel
theorem dX4_bestChange_2 : decode cX4_bestChange 2 = .ok (.iconst (-1), 1) := by decide +kernel
theorem dX4_bestChange_3 : decode cX4_bestChange 3 = .ok (.istore_n 3, 1) := by decide +kernel
theorem dX4_bestChange_4 : decode cX4_bestChange 4 = .ok (.iconst 0, 1) := by decide +kernel
theorem dX4_bestChange_5 : decode cX4_bestChange 5 = .ok (.istore 4, 2) := by decide +kernel
theorem dX4_bestChange_7 : decode cX4_bestChange 7 = .ok (.iload 4, 2) := by decide +kernel
theorem dX4_bestChange_9 : decode cX4_bestChange 9 = .ok (.bipush 16, 2) := by decide +kernel
theorem dX4_bestChange_11 : decode cX4_bestChange 11 = .ok (.if_icmp .ge 38, 3) := by decide +kernel
theorem dX4_bestChange_14 : decode cX4_bestChange 14 = .ok (.aload_n 0, 1) := by decide +kernel
theorem dX4_bestChange_15 : decode cX4_bestChange 15 = .ok (.aload_n 0, 1) := by decide +kernel
theorem dX4_bestChange_16 : decode cX4_bestChange 16 = .ok (.iload_n 1, 1) := by decide +kernel
theorem dX4_bestChange_17 : decode cX4_bestChange 17 = .ok (.invokevirtual 47, 3) := by decide +kernel
theorem dX4_bestChange_20 : decode cX4_bestChange 20 = .ok (.iconst 1, 1) := by decide +kernel
theorem dX4_bestChange_21 : decode cX4_bestChange 21 = .ok (.iload 4, 2) := by decide +kernel
theorem dX4_bestChange_23 : decode cX4_bestChange 23 = .ok (.ishl, 1) := by decide +kernel
theorem dX4_bestChange_24 : decode cX4_bestChange 24 = .ok (.ixor, 1) := by decide +kernel
theorem dX4_bestChange_25 : decode cX4_bestChange 25 = .ok (.iload_n 1, 1) := by decide +kernel
theorem dX4_bestChange_26 : decode cX4_bestChange 26 = .ok (.invokevirtual 83, 3) := by decide +kernel
theorem dX4_bestChange_29 : decode cX4_bestChange 29 = .ok (.istore 5, 2) := by decide +kernel
theorem dX4_bestChange_31 : decode cX4_bestChange 31 = .ok (.iload 5, 2) := by decide +kernel
theorem dX4_bestChange_33 : decode cX4_bestChange 33 = .ok (.iload_n 3, 1) := by decide +kernel
theorem dX4_bestChange_34 : decode cX4_bestChange 34 = .ok (.if_icmp .le 9, 3) := by decide +kernel
theorem dX4_bestChange_37 : decode cX4_bestChange 37 = .ok (.iload 5, 2) := by decide +kernel
theorem dX4_bestChange_39 : decode cX4_bestChange 39 = .ok (.istore_n 3, 1) := by decide +kernel
theorem dX4_bestChange_40 : decode cX4_bestChange 40 = .ok (.iload 4, 2) := by decide +kernel
theorem dX4_bestChange_42 : decode cX4_bestChange 42 = .ok (.istore_n 2, 1) := by decide +kernel
theorem dX4_bestChange_43 : decode cX4_bestChange 43 = .ok (.iinc 4 1, 3) := by decide +kernel
theorem dX4_bestChange_46 : decode cX4_bestChange 46 = .ok (.goto (-39), 3) := by decide +kernel
theorem dX4_bestChange_49 : decode cX4_bestChange 49 = .ok (.iload_n 2, 1) := by decide +kernel
theorem dX4_bestChange_50 : decode cX4_bestChange 50 = .ok (.ireturn, 1) := by decide +kernel
theorem dX4_fewestUnlike_0 : decode cX4_fewestUnlike 0 = .ok (.bipush 17, 2) := by decide +kernel
theorem dX4_fewestUnlike_2 : decode cX4_fewestUnlike 2 = .ok (.istore_n 3, 1) := by decide +kernel
theorem dX4_fewestUnlike_3 : decode cX4_fewestUnlike 3 = .ok (.iconst 0, 1) := by decide +kernel
theorem dX4_fewestUnlike_4 : decode cX4_fewestUnlike 4 = .ok (.istore 4, 2) := by decide +kernel
theorem dX4_fewestUnlike_6 : decode cX4_fewestUnlike 6 = .ok (.iload 4, 2) := by decide +kernel
theorem dX4_fewestUnlike_8 : decode cX4_fewestUnlike 8 = .ok (.aload_n 0, 1) := by decide +kernel
theorem dX4_fewestUnlike_9 : decode cX4_fewestUnlike 9 = .ok (.getfield 22, 3) := by decide +kernel
theorem dX4_fewestUnlike_12 : decode cX4_fewestUnlike 12 = .ok (.if_icmp .ge 31, 3) := by decide +kernel
theorem dX4_fewestUnlike_15 : decode cX4_fewestUnlike 15 = .ok (.iload 4, 2) := by decide +kernel
theorem dX4_fewestUnlike_17 : decode cX4_fewestUnlike 17 = .ok (.iload_n 2, 1) := by decide +kernel
theorem dX4_fewestUnlike_18 : decode cX4_fewestUnlike 18 = .ok (.if_icmp .eq 19, 3) := by decide +kernel
theorem dX4_fewestUnlike_21 : decode cX4_fewestUnlike 21 = .ok (.iload_n 3, 1) := by decide +kernel
theorem dX4_fewestUnlike_22 : decode cX4_fewestUnlike 22 = .ok (.aload_n 0, 1) := by decide +kernel
theorem dX4_fewestUnlike_23 : decode cX4_fewestUnlike 23 = .ok (.iload 4, 2) := by decide +kernel
theorem dX4_fewestUnlike_25 : decode cX4_fewestUnlike 25 = .ok (.invokevirtual 47, 3) := by decide +kernel
theorem dX4_fewestUnlike_28 : decode cX4_fewestUnlike 28 = .ok (.iload_n 1, 1) := by decide +kernel
theorem dX4_fewestUnlike_29 : decode cX4_fewestUnlike 29 = .ok (.ixor, 1) := by decide +kernel
theorem dX4_fewestUnlike_30 : decode cX4_fewestUnlike 30 = .ok (.invokestatic 74, 3) := by decide +kernel
theorem dX4_fewestUnlike_33 : decode cX4_fewestUnlike 33 = .ok (.invokestatic 86, 3) := by decide +kernel
theorem dX4_fewestUnlike_36 : decode cX4_fewestUnlike 36 = .ok (.istore_n 3, 1) := by decide +kernel
theorem dX4_fewestUnlike_37 : decode cX4_fewestUnlike 37 = .ok (.iinc 4 1, 3) := by decide +kernel
theorem dX4_fewestUnlike_40 : decode cX4_fewestUnlike 40 = .ok (.goto (-34), 3) := by decide +kernel
theorem dX4_fewestUnlike_43 : decode cX4_fewestUnlike 43 = .ok (.iload_n 3, 1) := by decide +kernel
theorem dX4_fewestUnlike_44 : decode cX4_fewestUnlike 44 = .ok (.ireturn, 1) := by decide +kernel
theorem dX4_passNight_0 : decode cX4_passNight 0 = .ok (.iconst 0, 1) := by decide +kernel
theorem dX4_passNight_1 : decode cX4_passNight 1 = .ok (.istore_n 1, 1) := by decide +kernel
theorem dX4_passNight_2 : decode cX4_passNight 2 = .ok (.iconst 0, 1) := by decide +kernel
theorem dX4_passNight_3 : decode cX4_passNight 3 = .ok (.istore_n 2, 1) := by decide +kernel
theorem dX4_passNight_4 : decode cX4_passNight 4 = .ok (.iload_n 2, 1) := by decide +kernel
theorem dX4_passNight_5 : decode cX4_passNight 5 = .ok (.aload_n 0, 1) := by decide +kernel
theorem dX4_passNight_6 : decode cX4_passNight 6 = .ok (.getfield 26, 3) := by decide +kernel
theorem dX4_passNight_9 : decode cX4_passNight 9 = .ok (.if_icmp .ge 65, 3) := by decide +kernel
theorem dX4_passNight_12 : decode cX4_passNight 12 = .ok (.aload_n 0, 1) := by decide +kernel
theorem dX4_passNight_13 : decode cX4_passNight 13 = .ok (.iload_n 2, 1) := by decide +kernel
theorem dX4_passNight_14 : decode cX4_passNight 14 = .ok (.invokevirtual 51, 3) := by decide +kernel
theorem dX4_passNight_17 : decode cX4_passNight 17 = .ok (.astore_n 3, 1) := by decide +kernel
theorem dX4_passNight_18 : decode cX4_passNight 18 = .ok (.aload_n 3, 1) := by decide +kernel
theorem dX4_passNight_19 : decode cX4_passNight 19 = .ok (.ifnull 49, 3) := by decide +kernel
theorem dX4_passNight_22 : decode cX4_passNight 22 = .ok (.aload_n 3, 1) := by decide +kernel
theorem dX4_passNight_23 : decode cX4_passNight 23 = .ok (.aload_n 0, 1) := by decide +kernel
theorem dX4_passNight_24 : decode cX4_passNight 24 = .ok (.aload_n 3, 1) := by decide +kernel
theorem dX4_passNight_25 : decode cX4_passNight 25 = .ok (.getfield 91, 3) := by decide +kernel
theorem dX4_passNight_28 : decode cX4_passNight 28 = .ok (.invokevirtual 47, 3) := by decide +kernel
theorem dX4_passNight_31 : decode cX4_passNight 31 = .ok (.aload_n 3, 1) := by decide +kernel
theorem dX4_passNight_32 : decode cX4_passNight 32 = .ok (.aload_n 0, 1) := by decide +kernel
theorem dX4_passNight_33 : decode cX4_passNight 33 = .ok (.getfield 29, 3) := by decide +kernel
theorem dX4_passNight_36 : decode cX4_passNight 36 = .ok (.aload_n 0, 1) := by decide +kernel
theorem dX4_passNight_37 : decode cX4_passNight 37 = .ok (.getfield 32, 3) := by decide +kernel
theorem dX4_passNight_40 : decode cX4_passNight 40 = .ok (.invokevirtual 94, 3) := by decide +kernel
theorem dX4_passNight_43 : decode cX4_passNight 43 = .ok (.aload_n 0, 1) := by decide +kernel
theorem dX4_passNight_44 : decode cX4_passNight 44 = .ok (.getfield 32, 3) := by decide +kernel
theorem dX4_passNight_47 : decode cX4_passNight 47 = .ok (.invokevirtual 97, 3) := by decide +kernel
theorem dX4_passNight_50 : decode cX4_passNight 50 = .ok (.iload_n 1, 1) := by decide +kernel
theorem dX4_passNight_51 : decode cX4_passNight 51 = .ok (.aload_n 0, 1) := by decide +kernel
theorem dX4_passNight_52 : decode cX4_passNight 52 = .ok (.aload_n 3, 1) := by decide +kernel
theorem dX4_passNight_53 : decode cX4_passNight 53 = .ok (.invokevirtual 100, 3) := by decide +kernel
theorem dX4_passNight_56 : decode cX4_passNight 56 = .ok (.ifCond .eq 9, 3) := by decide +kernel
theorem dX4_passNight_59 : decode cX4_passNight 59 = .ok (.iconst 1, 1) := by decide +kernel
theorem dX4_passNight_60 : decode cX4_passNight 60 = .ok (.iload_n 2, 1) := by decide +kernel
theorem dX4_passNight_61 : decode cX4_passNight 61 = .ok (.ishl, 1) := by decide +kernel
theorem dX4_passNight_62 : decode cX4_passNight 62 = .ok (.goto 4, 3) := by decide +kernel
theorem dX4_passNight_65 : decode cX4_passNight 65 = .ok (.iconst 0, 1) := by decide +kernel
theorem dX4_passNight_66 : decode cX4_passNight 66 = .ok (.ior, 1) := by decide +kernel
theorem dX4_passNight_67 : decode cX4_passNight 67 = .ok (.istore_n 1, 1) := by decide +kernel
theorem dX4_passNight_68 : decode cX4_passNight 68 = .ok (.iinc 2 1, 3) := by decide +kernel
theorem dX4_passNight_71 : decode cX4_passNight 71 = .ok (.goto (-67), 3) := by decide +kernel
theorem dX4_passNight_74 : decode cX4_passNight 74 = .ok (.aload_n 0, 1) := by decide +kernel
theorem dX4_passNight_75 : decode cX4_passNight 75 = .ok (.iconst 0, 1) := by decide +kernel
theorem dX4_passNight_76 : decode cX4_passNight 76 = .ok (.putfield 38, 3) := by decide +kernel
theorem dX4_passNight_79 : decode cX4_passNight 79 = .ok (.aload_n 0, 1) := by decide +kernel
theorem dX4_passNight_80 : decode cX4_passNight 80 = .ok (.dup, 1) := by decide +kernel
theorem dX4_passNight_81 : decode cX4_passNight 81 = .ok (.getfield 41, 3) := by decide +kernel
theorem dX4_passNight_84 : decode cX4_passNight 84 = .ok (.iload_n 1, 1) := by decide +kernel
theorem dX4_passNight_85 : decode cX4_passNight 85 = .ok (.ifCond .ne 7, 3) := by decide +kernel
theorem dX4_passNight_88 : decode cX4_passNight 88 = .ok (.iconst 0, 1) := by decide +kernel
theorem dX4_passNight_89 : decode cX4_passNight 89 = .ok (.goto 4, 3) := by decide +kernel
theorem dX4_passNight_92 : decode cX4_passNight 92 = .ok (.iconst 1, 1) := by decide +kernel
theorem dX4_passNight_93 : decode cX4_passNight 93 = .ok (.iadd, 1) := by decide +kernel
theorem dX4_passNight_94 : decode cX4_passNight 94 = .ok (.putfield 41, 3) := by decide +kernel
theorem dX4_passNight_97 : decode cX4_passNight 97 = .ok (.iload_n 1, 1) := by decide +kernel
theorem dX4_passNight_98 : decode cX4_passNight 98 = .ok (.ireturn, 1) := by decide +kernel
theorem dX4_isReadRight_0 : decode cX4_isReadRight 0 = .ok (.aload_n 1, 1) := by decide +kernel
theorem dX4_isReadRight_1 : decode cX4_isReadRight 1 = .ok (.getfield 91, 3) := by decide +kernel
theorem dX4_isReadRight_4 : decode cX4_isReadRight 4 = .ok (.iconst (-1), 1) := by decide +kernel
theorem dX4_isReadRight_5 : decode cX4_isReadRight 5 = .ok (.if_icmp .eq 22, 3) := by decide +kernel
theorem dX4_isReadRight_8 : decode cX4_isReadRight 8 = .ok (.aload_n 0, 1) := by decide +kernel
theorem dX4_isReadRight_9 : decode cX4_isReadRight 9 = .ok (.aload_n 1, 1) := by decide +kernel
theorem dX4_isReadRight_10 : decode cX4_isReadRight 10 = .ok (.invokevirtual 104, 3) := by decide +kernel
theorem dX4_isReadRight_13 : decode cX4_isReadRight 13 = .ok (.invokevirtual 108, 3) := by decide +kernel
theorem dX4_isReadRight_16 : decode cX4_isReadRight 16 = .ok (.aload_n 1, 1) := by decide +kernel
theorem dX4_isReadRight_17 : decode cX4_isReadRight 17 = .ok (.getfield 91, 3) := by decide +kernel
theorem dX4_isReadRight_20 : decode cX4_isReadRight 20 = .ok (.if_icmp .ne 7, 3) := by decide +kernel
theorem dX4_isReadRight_23 : decode cX4_isReadRight 23 = .ok (.iconst 1, 1) := by decide +kernel
theorem dX4_isReadRight_24 : decode cX4_isReadRight 24 = .ok (.goto 4, 3) := by decide +kernel
theorem dX4_isReadRight_27 : decode cX4_isReadRight 27 = .ok (.iconst 0, 1) := by decide +kernel
theorem dX4_isReadRight_28 : decode cX4_isReadRight 28 = .ok (.ireturn, 1) := by decide +kernel
theorem dX4_passHours_0 : decode cX4_passHours 0 = .ok (.iconst 0, 1) := by decide +kernel
theorem dX4_passHours_1 : decode cX4_passHours 1 = .ok (.istore_n 2, 1) := by decide +kernel
theorem dX4_passHours_2 : decode cX4_passHours 2 = .ok (.iload_n 2, 1) := by decide +kernel
theorem dX4_passHours_3 : decode cX4_passHours 3 = .ok (.aload_n 0, 1) := by decide +kernel
theorem dX4_passHours_4 : decode cX4_passHours 4 = .ok (.getfield 26, 3) := by decide +kernel
theorem dX4_passHours_7 : decode cX4_passHours 7 = .ok (.if_icmp .ge 37, 3) := by decide +kernel
theorem dX4_passHours_10 : decode cX4_passHours 10 = .ok (.aload_n 0, 1) := by decide +kernel
theorem dX4_passHours_11 : decode cX4_passHours 11 = .ok (.iload_n 2, 1) := by decide +kernel
theorem dX4_passHours_12 : decode cX4_passHours 12 = .ok (.invokevirtual 51, 3) := by decide +kernel
theorem dX4_passHours_15 : decode cX4_passHours 15 = .ok (.astore_n 3, 1) := by decide +kernel
theorem dX4_passHours_16 : decode cX4_passHours 16 = .ok (.aload_n 3, 1) := by decide +kernel
theorem dX4_passHours_17 : decode cX4_passHours 17 = .ok (.ifnull 21, 3) := by decide +kernel
theorem dX4_passHours_20 : decode cX4_passHours 20 = .ok (.aload_n 3, 1) := by decide +kernel
theorem dX4_passHours_21 : decode cX4_passHours 21 = .ok (.aload_n 0, 1) := by decide +kernel
theorem dX4_passHours_22 : decode cX4_passHours 22 = .ok (.getfield 38, 3) := by decide +kernel
theorem dX4_passHours_25 : decode cX4_passHours 25 = .ok (.aload_n 0, 1) := by decide +kernel
theorem dX4_passHours_26 : decode cX4_passHours 26 = .ok (.getfield 38, 3) := by decide +kernel
theorem dX4_passHours_29 : decode cX4_passHours 29 = .ok (.iload_n 1, 1) := by decide +kernel
theorem dX4_passHours_30 : decode cX4_passHours 30 = .ok (.iadd, 1) := by decide +kernel
theorem dX4_passHours_31 : decode cX4_passHours 31 = .ok (.aload_n 0, 1) := by decide +kernel
theorem dX4_passHours_32 : decode cX4_passHours 32 = .ok (.getfield 35, 3) := by decide +kernel
theorem dX4_passHours_35 : decode cX4_passHours 35 = .ok (.invokevirtual 111, 3) := by decide +kernel
theorem dX4_passHours_38 : decode cX4_passHours 38 = .ok (.iinc 2 1, 3) := by decide +kernel
theorem dX4_passHours_41 : decode cX4_passHours 41 = .ok (.goto (-39), 3) := by decide +kernel
theorem dX4_passHours_44 : decode cX4_passHours 44 = .ok (.aload_n 0, 1) := by decide +kernel
theorem dX4_passHours_45 : decode cX4_passHours 45 = .ok (.dup, 1) := by decide +kernel
theorem dX4_passHours_46 : decode cX4_passHours 46 = .ok (.getfield 38, 3) := by decide +kernel
theorem dX4_passHours_49 : decode cX4_passHours 49 = .ok (.iload_n 1, 1) := by decide +kernel
theorem dX4_passHours_50 : decode cX4_passHours 50 = .ok (.iadd, 1) := by decide +kernel
theorem dX4_passHours_51 : decode cX4_passHours 51 = .ok (.putfield 38, 3) := by decide +kernel
theorem dX4_passHours_54 : decode cX4_passHours 54 = .ok (.aload_n 0, 1) := by decide +kernel
theorem dX4_passHours_55 : decode cX4_passHours 55 = .ok (.getfield 38, 3) := by decide +kernel
theorem dX4_passHours_58 : decode cX4_passHours 58 = .ok (.ireturn, 1) := by decide +kernel
theorem dX4_passWinter_0 : decode cX4_passWinter 0 = .ok (.iconst 0, 1) := by decide +kernel
theorem dX4_passWinter_1 : decode cX4_passWinter 1 = .ok (.istore_n 2, 1) := by decide +kernel
theorem dX4_passWinter_2 : decode cX4_passWinter 2 = .ok (.iconst 0, 1) := by decide +kernel
theorem dX4_passWinter_3 : decode cX4_passWinter 3 = .ok (.istore_n 3, 1) := by decide +kernel
theorem dX4_passWinter_4 : decode cX4_passWinter 4 = .ok (.iload_n 3, 1) := by decide +kernel
theorem dX4_passWinter_5 : decode cX4_passWinter 5 = .ok (.iload_n 1, 1) := by decide +kernel
theorem dX4_passWinter_6 : decode cX4_passWinter 6 = .ok (.if_icmp .ge 44, 3) := by decide +kernel
theorem dX4_passWinter_9 : decode cX4_passWinter 9 = .ok (.aload_n 0, 1) := by decide +kernel
theorem dX4_passWinter_10 : decode cX4_passWinter 10 = .ok (.aload_n 0, 1) := by decide +kernel
theorem dX4_passWinter_11 : decode cX4_passWinter 11 = .ok (.bipush 41, 2) := by decide +kernel
theorem dX4_passWinter_13 : decode cX4_passWinter 13 = .ok (.invokevirtual 114, 3) := by decide +kernel
theorem dX4_passWinter_16 : decode cX4_passWinter 16 = .ok (.putfield 29, 3) := by decide +kernel
theorem dX4_passWinter_19 : decode cX4_passWinter 19 = .ok (.aload_n 0, 1) := by decide +kernel
theorem dX4_passWinter_20 : decode cX4_passWinter 20 = .ok (.aload_n 0, 1) := by decide +kernel
theorem dX4_passWinter_21 : decode cX4_passWinter 21 = .ok (.bipush 10, 2) := by decide +kernel
theorem dX4_passWinter_23 : decode cX4_passWinter 23 = .ok (.invokevirtual 114, 3) := by decide +kernel
theorem dX4_passWinter_26 : decode cX4_passWinter 26 = .ok (.putfield 32, 3) := by decide +kernel
theorem dX4_passWinter_29 : decode cX4_passWinter 29 = .ok (.iload_n 2, 1) := by decide +kernel
theorem dX4_passWinter_30 : decode cX4_passWinter 30 = .ok (.aload_n 0, 1) := by decide +kernel
theorem dX4_passWinter_31 : decode cX4_passWinter 31 = .ok (.invokevirtual 117, 3) := by decide +kernel
theorem dX4_passWinter_34 : decode cX4_passWinter 34 = .ok (.ifCond .ne 7, 3) := by decide +kernel
theorem dX4_passWinter_37 : decode cX4_passWinter 37 = .ok (.iconst 0, 1) := by decide +kernel
theorem dX4_passWinter_38 : decode cX4_passWinter 38 = .ok (.goto 4, 3) := by decide +kernel
theorem dX4_passWinter_41 : decode cX4_passWinter 41 = .ok (.iconst 1, 1) := by decide +kernel
theorem dX4_passWinter_42 : decode cX4_passWinter 42 = .ok (.iadd, 1) := by decide +kernel
theorem dX4_passWinter_43 : decode cX4_passWinter 43 = .ok (.istore_n 2, 1) := by decide +kernel
theorem dX4_passWinter_44 : decode cX4_passWinter 44 = .ok (.iinc 3 1, 3) := by decide +kernel
theorem dX4_passWinter_47 : decode cX4_passWinter 47 = .ok (.goto (-43), 3) := by decide +kernel
theorem dX4_passWinter_50 : decode cX4_passWinter 50 = .ok (.iload_n 2, 1) := by decide +kernel
theorem dX4_passWinter_51 : decode cX4_passWinter 51 = .ok (.ireturn, 1) := by decide +kernel
theorem dX4_drawBelow_0 : decode cX4_drawBelow 0 = .ok (.aload_n 0, 1) := by decide +kernel
theorem dX4_drawBelow_1 : decode cX4_drawBelow 1 = .ok (.aload_n 0, 1) := by decide +kernel
theorem dX4_drawBelow_2 : decode cX4_drawBelow 2 = .ok (.getfield 44, 3) := by decide +kernel
theorem dX4_drawBelow_5 : decode cX4_drawBelow 5 = .ok (.ldc 120, 2) := by decide +kernel
theorem dX4_drawBelow_7 : decode cX4_drawBelow 7 = .ok (.imul, 1) := by decide +kernel
theorem dX4_drawBelow_8 : decode cX4_drawBelow 8 = .ok (.sipush 12345, 3) := by decide +kernel
theorem dX4_drawBelow_11 : decode cX4_drawBelow 11 = .ok (.iadd, 1) := by decide +kernel
theorem dX4_drawBelow_12 : decode cX4_drawBelow 12 = .ok (.putfield 44, 3) := by decide +kernel
theorem dX4_drawBelow_15 : decode cX4_drawBelow 15 = .ok (.iload_n 1, 1) := by decide +kernel
theorem dX4_drawBelow_16 : decode cX4_drawBelow 16 = .ok (.ifCond .le 15, 3) := by decide +kernel
theorem dX4_drawBelow_19 : decode cX4_drawBelow 19 = .ok (.aload_n 0, 1) := by decide +kernel
theorem dX4_drawBelow_20 : decode cX4_drawBelow 20 = .ok (.getfield 44, 3) := by decide +kernel
theorem dX4_drawBelow_23 : decode cX4_drawBelow 23 = .ok (.bipush 16, 2) := by decide +kernel
theorem dX4_drawBelow_25 : decode cX4_drawBelow 25 = .ok (.iushr, 1) := by decide +kernel
theorem dX4_drawBelow_26 : decode cX4_drawBelow 26 = .ok (.iload_n 1, 1) := by decide +kernel
theorem dX4_drawBelow_27 : decode cX4_drawBelow 27 = .ok (.irem, 1) := by decide +kernel
theorem dX4_drawBelow_28 : decode cX4_drawBelow 28 = .ok (.goto 4, 3) := by decide +kernel
theorem dX4_drawBelow_31 : decode cX4_drawBelow 31 = .ok (.iconst 0, 1) := by decide +kernel
theorem dX4_drawBelow_32 : decode cX4_drawBelow 32 = .ok (.ireturn, 1) := by decide +kernel
theorem dX5_init_0 : decode cX5_init 0 = .ok (.aload_n 0, 1) := by decide +kernel
theorem dX5_init_1 : decode cX5_init 1 = .ok (.invokespecial 3, 3) := by decide +kernel
theorem dX5_init_4 : decode cX5_init 4 = .ok (.aload_n 0, 1) := by decide +kernel
theorem dX5_init_5 : decode cX5_init 5 = .ok (.aload_n 1, 1) := by decide +kernel
theorem dX5_init_6 : decode cX5_init 6 = .ok (.putfield 9, 3) := by decide +kernel
theorem dX5_init_9 : decode cX5_init 9 = .ok (.aload_n 0, 1) := by decide +kernel
theorem dX5_init_10 : decode cX5_init 10 = .ok (.new 15, 3) := by decide +kernel
theorem dX5_init_13 : decode cX5_init 13 = .ok (.dup, 1) := by decide +kernel
theorem dX5_init_14 : decode cX5_init 14 = .ok (.invokespecial 17, 3) := by decide +kernel
theorem dX5_init_17 : decode cX5_init 17 = .ok (.putfield 18, 3) := by decide +kernel
theorem dX5_init_20 : decode cX5_init 20 = .ok (.aload_n 0, 1) := by decide +kernel
theorem dX5_init_21 : decode cX5_init 21 = .ok (.bipush 25, 2) := by decide +kernel
theorem dX5_init_23 : decode cX5_init 23 = .ok (.newarray .int, 2) := by decide +kernel
theorem dX5_init_25 : decode cX5_init 25 = .ok (.putfield 22, 3) := by decide +kernel
theorem dX5_init_28 : decode cX5_init 28 = .ok (.aload_n 0, 1) := by decide +kernel
theorem dX5_init_29 : decode cX5_init 29 = .ok (.bipush 8, 2) := by decide +kernel
theorem dX5_init_31 : decode cX5_init 31 = .ok (.newarray .int, 2) := by decide +kernel
theorem dX5_init_33 : decode cX5_init 33 = .ok (.putfield 26, 3) := by decide +kernel
theorem dX5_init_36 : decode cX5_init 36 = .ok (.aload_n 0, 1) := by decide +kernel
theorem dX5_init_37 : decode cX5_init 37 = .ok (.bipush 8, 2) := by decide +kernel
theorem dX5_init_39 : decode cX5_init 39 = .ok (.newarray .int, 2) := by decide +kernel
theorem dX5_init_41 : decode cX5_init 41 = .ok (.putfield 29, 3) := by decide +kernel
theorem dX5_init_44 : decode cX5_init 44 = .ok (.aload_n 0, 1) := by decide +kernel
theorem dX5_init_45 : decode cX5_init 45 = .ok (.iconst 0, 1) := by decide +kernel
theorem dX5_init_46 : decode cX5_init 46 = .ok (.putfield 32, 3) := by decide +kernel
theorem dX5_init_49 : decode cX5_init 49 = .ok (.aload_n 0, 1) := by decide +kernel
theorem dX5_init_50 : decode cX5_init 50 = .ok (.iconst 0, 1) := by decide +kernel
theorem dX5_init_51 : decode cX5_init 51 = .ok (.putfield 36, 3) := by decide +kernel
theorem dX5_init_54 : decode cX5_init 54 = .ok (.return_, 1) := by decide +kernel
theorem dX5_iceAt_0 : decode cX5_iceAt 0 = .ok (.aload_n 0, 1) := by decide +kernel
theorem dX5_iceAt_1 : decode cX5_iceAt 1 = .ok (.aload_n 1, 1) := by decide +kernel
theorem dX5_iceAt_2 : decode cX5_iceAt 2 = .ok (.iload_n 2, 1) := by decide +kernel
theorem dX5_iceAt_3 : decode cX5_iceAt 3 = .ok (.iload_n 3, 1) := by decide +kernel
theorem dX5_iceAt_4 : decode cX5_iceAt 4 = .ok (.invokevirtual 39, 3) := by decide +kernel
theorem dX5_iceAt_7 : decode cX5_iceAt 7 = .ok (.pop, 1) := by decide +kernel
theorem dX5_iceAt_8 : decode cX5_iceAt 8 = .ok (.aload_n 0, 1) := by decide +kernel
theorem dX5_iceAt_9 : decode cX5_iceAt 9 = .ok (.getfield 18, 3) := by decide +kernel
theorem dX5_iceAt_12 : decode cX5_iceAt 12 = .ok (.iload 4, 2) := by decide +kernel
theorem dX5_iceAt_14 : decode cX5_iceAt 14 = .ok (.invokevirtual 43, 3) := by decide +kernel
theorem dX5_iceAt_17 : decode cX5_iceAt 17 = .ok (.ireturn, 1) := by decide +kernel
theorem dX5_shapeAt_0 : decode cX5_shapeAt 0 = .ok (.aload_n 0, 1) := by decide +kernel
theorem dX5_shapeAt_1 : decode cX5_shapeAt 1 = .ok (.getfield 18, 3) := by decide +kernel
theorem dX5_shapeAt_4 : decode cX5_shapeAt 4 = .ok (.aload_n 1, 1) := by decide +kernel
theorem dX5_shapeAt_5 : decode cX5_shapeAt 5 = .ok (.invokevirtual 47, 3) := by decide +kernel
theorem dX5_shapeAt_8 : decode cX5_shapeAt 8 = .ok (.aload_n 0, 1) := by decide +kernel
theorem dX5_shapeAt_9 : decode cX5_shapeAt 9 = .ok (.iload_n 2, 1) := by decide +kernel
theorem dX5_shapeAt_10 : decode cX5_shapeAt 10 = .ok (.iload_n 3, 1) := by decide +kernel
theorem dX5_shapeAt_11 : decode cX5_shapeAt 11 = .ok (.aload_n 0, 1) := by decide +kernel
theorem dX5_shapeAt_12 : decode cX5_shapeAt 12 = .ok (.getfield 9, 3) := by decide +kernel
theorem dX5_shapeAt_15 : decode cX5_shapeAt 15 = .ok (.getfield 51, 3) := by decide +kernel
theorem dX5_shapeAt_18 : decode cX5_shapeAt 18 = .ok (.invokevirtual 56, 3) := by decide +kernel
theorem dX5_shapeAt_21 : decode cX5_shapeAt 21 = .ok (.ireturn, 1) := by decide +kernel
theorem dX5_shapeOnGlass_0 : decode cX5_shapeOnGlass 0 = .ok (.aload_n 0, 1) := by decide +kernel
theorem dX5_shapeOnGlass_1 : decode cX5_shapeOnGlass 1 = .ok (.getfield 18, 3) := by decide +kernel
theorem dX5_shapeOnGlass_4 : decode cX5_shapeOnGlass 4 = .ok (.iload_n 3, 1) := by decide +kernel
theorem dX5_shapeOnGlass_5 : decode cX5_shapeOnGlass 5 = .ok (.aload_n 0, 1) := by decide +kernel
theorem dX5_shapeOnGlass_6 : decode cX5_shapeOnGlass 6 = .ok (.getfield 9, 3) := by decide +kernel
theorem dX5_shapeOnGlass_9 : decode cX5_shapeOnGlass 9 = .ok (.getfield 60, 3) := by decide +kernel
theorem dX5_shapeOnGlass_12 : decode cX5_shapeOnGlass 12 = .ok (.invokevirtual 63, 3) := by decide +kernel
theorem dX5_shapeOnGlass_15 : decode cX5_shapeOnGlass 15 = .ok (.istore 4, 2) := by decide +kernel
theorem dX5_shapeOnGlass_17 : decode cX5_shapeOnGlass 17 = .ok (.aload_n 0, 1) := by decide +kernel
theorem dX5_shapeOnGlass_18 : decode cX5_shapeOnGlass 18 = .ok (.getfield 18, 3) := by decide +kernel
theorem dX5_shapeOnGlass_21 : decode cX5_shapeOnGlass 21 = .ok (.aload_n 0, 1) := by decide +kernel
theorem dX5_shapeOnGlass_22 : decode cX5_shapeOnGlass 22 = .ok (.getfield 9, 3) := by decide +kernel
theorem dX5_shapeOnGlass_25 : decode cX5_shapeOnGlass 25 = .ok (.iload_n 1, 1) := by decide +kernel
theorem dX5_shapeOnGlass_26 : decode cX5_shapeOnGlass 26 = .ok (.invokevirtual 67, 3) := by decide +kernel
theorem dX5_shapeOnGlass_29 : decode cX5_shapeOnGlass 29 = .ok (.iload 4, 2) := by decide +kernel
theorem dX5_shapeOnGlass_31 : decode cX5_shapeOnGlass 31 = .ok (.aload_n 0, 1) := by decide +kernel
theorem dX5_shapeOnGlass_32 : decode cX5_shapeOnGlass 32 = .ok (.getfield 9, 3) := by decide +kernel
theorem dX5_shapeOnGlass_35 : decode cX5_shapeOnGlass 35 = .ok (.getfield 60, 3) := by decide +kernel
theorem dX5_shapeOnGlass_38 : decode cX5_shapeOnGlass 38 = .ok (.invokevirtual 70, 3) := by decide +kernel
theorem dX5_shapeOnGlass_41 : decode cX5_shapeOnGlass 41 = .ok (.aload_n 0, 1) := by decide +kernel
theorem dX5_shapeOnGlass_42 : decode cX5_shapeOnGlass 42 = .ok (.getfield 18, 3) := by decide +kernel
theorem dX5_shapeOnGlass_45 : decode cX5_shapeOnGlass 45 = .ok (.iconst 0, 1) := by decide +kernel
theorem dX5_shapeOnGlass_46 : decode cX5_shapeOnGlass 46 = .ok (.iload_n 2, 1) := by decide +kernel
theorem dX5_shapeOnGlass_47 : decode cX5_shapeOnGlass 47 = .ok (.aload_n 0, 1) := by decide +kernel
theorem dX5_shapeOnGlass_48 : decode cX5_shapeOnGlass 48 = .ok (.getfield 9, 3) := by decide +kernel
theorem dX5_shapeOnGlass_51 : decode cX5_shapeOnGlass 51 = .ok (.getfield 74, 3) := by decide +kernel
theorem dX5_shapeOnGlass_54 : decode cX5_shapeOnGlass 54 = .ok (.invokevirtual 77, 3) := by decide +kernel
theorem dX5_shapeOnGlass_57 : decode cX5_shapeOnGlass 57 = .ok (.aload_n 0, 1) := by decide +kernel
theorem dX5_shapeOnGlass_58 : decode cX5_shapeOnGlass 58 = .ok (.getfield 18, 3) := by decide +kernel
theorem dX5_shapeOnGlass_61 : decode cX5_shapeOnGlass 61 = .ok (.invokevirtual 80, 3) := by decide +kernel
theorem dX5_shapeOnGlass_64 : decode cX5_shapeOnGlass 64 = .ok (.ireturn, 1) := by decide +kernel
theorem dX5_readAllHours_0 : decode cX5_readAllHours 0 = .ok (.aload_n 0, 1) := by decide +kernel
theorem dX5_readAllHours_1 : decode cX5_readAllHours 1 = .ok (.getfield 18, 3) := by decide +kernel
theorem dX5_readAllHours_4 : decode cX5_readAllHours 4 = .ok (.aload_n 1, 1) := by decide +kernel
theorem dX5_readAllHours_5 : decode cX5_readAllHours 5 = .ok (.invokevirtual 47, 3) := by decide +kernel
theorem dX5_readAllHours_8 : decode cX5_readAllHours 8 = .ok (.aload_n 0, 1) := by decide +kernel
theorem dX5_readAllHours_9 : decode cX5_readAllHours 9 = .ok (.getfield 18, 3) := by decide +kernel
theorem dX5_readAllHours_12 : decode cX5_readAllHours 12 = .ok (.aload_n 0, 1) := by decide +kernel
theorem dX5_readAllHours_13 : decode cX5_readAllHours 13 = .ok (.getfield 9, 3) := by decide +kernel
theorem dX5_readAllHours_16 : decode cX5_readAllHours 16 = .ok (.getfield 51, 3) := by decide +kernel
theorem dX5_readAllHours_19 : decode cX5_readAllHours 19 = .ok (.aload_n 0, 1) := by decide +kernel
theorem dX5_readAllHours_20 : decode cX5_readAllHours 20 = .ok (.getfield 9, 3) := by decide +kernel
theorem dX5_readAllHours_23 : decode cX5_readAllHours 23 = .ok (.getfield 60, 3) := by decide +kernel
theorem dX5_readAllHours_26 : decode cX5_readAllHours 26 = .ok (.invokevirtual 63, 3) := by decide +kernel
theorem dX5_readAllHours_29 : decode cX5_readAllHours 29 = .ok (.istore_n 3, 1) := by decide +kernel
theorem dX5_readAllHours_30 : decode cX5_readAllHours 30 = .ok (.aload_n 0, 1) := by decide +kernel
theorem dX5_readAllHours_31 : decode cX5_readAllHours 31 = .ok (.getfield 18, 3) := by decide +kernel
theorem dX5_readAllHours_34 : decode cX5_readAllHours 34 = .ok (.aload_n 0, 1) := by decide +kernel
theorem dX5_readAllHours_35 : decode cX5_readAllHours 35 = .ok (.getfield 9, 3) := by decide +kernel
theorem dX5_readAllHours_38 : decode cX5_readAllHours 38 = .ok (.iload_n 2, 1) := by decide +kernel
theorem dX5_readAllHours_39 : decode cX5_readAllHours 39 = .ok (.invokevirtual 67, 3) := by decide +kernel
theorem dX5_readAllHours_42 : decode cX5_readAllHours 42 = .ok (.iload_n 3, 1) := by decide +kernel
theorem dX5_readAllHours_43 : decode cX5_readAllHours 43 = .ok (.aload_n 0, 1) := by decide +kernel
theorem dX5_readAllHours_44 : decode cX5_readAllHours 44 = .ok (.getfield 9, 3) := by decide +kernel
theorem dX5_readAllHours_47 : decode cX5_readAllHours 47 = .ok (.getfield 60, 3) := by decide +kernel
theorem dX5_readAllHours_50 : decode cX5_readAllHours 50 = .ok (.invokevirtual 70, 3) := by decide +kernel
theorem dX5_readAllHours_53 : decode cX5_readAllHours 53 = .ok (.iconst 0, 1) := by decide +kernel
theorem dX5_readAllHours_54 : decode cX5_readAllHours 54 = .ok (.istore 4, 2) := by decide +kernel
theorem dX5_readAllHours_56 : decode cX5_readAllHours 56 = .ok (.iload 4, 2) := by decide +kernel
theorem dX5_readAllHours_58 : decode cX5_readAllHours 58 = .ok (.aload_n 0, 1) := by decide +kernel
theorem dX5_readAllHours_59 : decode cX5_readAllHours 59 = .ok (.getfield 22, 3) := by decide +kernel
theorem dX5_readAllHours_62 : decode cX5_readAllHours 62 = .ok (.arraylength, 1) := by decide +kernel
theorem dX5_readAllHours_63 : decode cX5_readAllHours 63 = .ok (.if_icmp .ge 53, 3) := by decide +kernel
theorem dX5_readAllHours_66 : decode cX5_readAllHours 66 = .ok (.aload_n 0, 1) := by decide +kernel
theorem dX5_readAllHours_67 : decode cX5_readAllHours 67 = .ok (.getfield 22, 3) := by decide +kernel
theorem dX5_readAllHours_70 : decode cX5_readAllHours 70 = .ok (.iload 4, 2) := by decide +kernel
theorem dX5_readAllHours_72 : decode cX5_readAllHours 72 = .ok (.aload_n 0, 1) := by decide +kernel
theorem dX5_readAllHours_73 : decode cX5_readAllHours 73 = .ok (.getfield 9, 3) := by decide +kernel
theorem dX5_readAllHours_76 : decode cX5_readAllHours 76 = .ok (.aload_n 0, 1) := by decide +kernel
theorem dX5_readAllHours_77 : decode cX5_readAllHours 77 = .ok (.getfield 18, 3) := by decide +kernel
theorem dX5_readAllHours_80 : decode cX5_readAllHours 80 = .ok (.invokevirtual 80, 3) := by decide +kernel
theorem dX5_readAllHours_83 : decode cX5_readAllHours 83 = .ok (.invokevirtual 84, 3) := by decide +kernel
theorem dX5_readAllHours_86 : decode cX5_readAllHours 86 = .ok (.iastore, 1) := by decide +kernel
theorem dX5_readAllHours_87 : decode cX5_readAllHours 87 = .ok (.aload_n 0, 1) := by decide +kernel
theorem dX5_readAllHours_88 : decode cX5_readAllHours 88 = .ok (.getfield 18, 3) := by decide +kernel
theorem dX5_readAllHours_91 : decode cX5_readAllHours 91 = .ok (.aload_n 0, 1) := by decide +kernel
theorem dX5_readAllHours_92 : decode cX5_readAllHours 92 = .ok (.getfield 18, 3) := by decide +kernel
theorem dX5_readAllHours_95 : decode cX5_readAllHours 95 = .ok (.iload 4, 2) := by decide +kernel
theorem dX5_readAllHours_97 : decode cX5_readAllHours 97 = .ok (.aload_n 0, 1) := by decide +kernel
theorem dX5_readAllHours_98 : decode cX5_readAllHours 98 = .ok (.getfield 9, 3) := by decide +kernel
theorem dX5_readAllHours_101 : decode cX5_readAllHours 101 = .ok (.getfield 74, 3) := by decide +kernel
theorem dX5_readAllHours_104 : decode cX5_readAllHours 104 = .ok (.invokevirtual 87, 3) := by decide +kernel
theorem dX5_readAllHours_107 : decode cX5_readAllHours 107 = .ok (.invokevirtual 90, 3) := by decide +kernel
theorem dX5_readAllHours_110 : decode cX5_readAllHours 110 = .ok (.iinc 4 1, 3) := by decide +kernel
theorem dX5_readAllHours_113 : decode cX5_readAllHours 113 = .ok (.goto (-57), 3) := by decide +kernel
theorem dX5_readAllHours_116 : decode cX5_readAllHours 116 = .ok (.return_, 1) := by decide +kernel
theorem dX5_lastHour_0 : decode cX5_lastHour 0 = .ok (.aload_n 0, 1) := by decide +kernel
theorem dX5_lastHour_1 : decode cX5_lastHour 1 = .ok (.aload_n 1, 1) := by decide +kernel
theorem dX5_lastHour_2 : decode cX5_lastHour 2 = .ok (.iload_n 2, 1) := by decide +kernel
theorem dX5_lastHour_3 : decode cX5_lastHour 3 = .ok (.invokevirtual 94, 3) := by decide +kernel
theorem dX5_lastHour_6 : decode cX5_lastHour 6 = .ok (.iconst (-1), 1) := by decide +kernel
theorem dX5_lastHour_7 : decode cX5_lastHour 7 = .ok (.istore_n 3, 1) := by decide +kernel
theorem dX5_lastHour_8 : decode cX5_lastHour 8 = .ok (.iconst 0, 1) := by decide +kernel
theorem dX5_lastHour_9 : decode cX5_lastHour 9 = .ok (.istore 4, 2) := by decide +kernel
theorem dX5_lastHour_11 : decode cX5_lastHour 11 = .ok (.iload 4, 2) := by decide +kernel
theorem dX5_lastHour_13 : decode cX5_lastHour 13 = .ok (.aload_n 0, 1) := by decide +kernel
theorem dX5_lastHour_14 : decode cX5_lastHour 14 = .ok (.getfield 22, 3) := by decide +kernel
theorem dX5_lastHour_17 : decode cX5_lastHour 17 = .ok (.arraylength, 1) := by decide +kernel
theorem dX5_lastHour_18 : decode cX5_lastHour 18 = .ok (.if_icmp .ge 23, 3) := by decide +kernel
theorem dX5_lastHour_21 : decode cX5_lastHour 21 = .ok (.aload_n 0, 1) := by decide +kernel
theorem dX5_lastHour_22 : decode cX5_lastHour 22 = .ok (.getfield 22, 3) := by decide +kernel
theorem dX5_lastHour_25 : decode cX5_lastHour 25 = .ok (.iload 4, 2) := by decide +kernel
theorem dX5_lastHour_27 : decode cX5_lastHour 27 = .ok (.iaload, 1) := by decide +kernel
theorem dX5_lastHour_28 : decode cX5_lastHour 28 = .ok (.iload_n 2, 1) := by decide +kernel
theorem dX5_lastHour_29 : decode cX5_lastHour 29 = .ok (.if_icmp .ne 12, 3) := by decide +kernel
theorem dX5_lastHour_32 : decode cX5_lastHour 32 = .ok (.iload 4, 2) := by decide +kernel
theorem dX5_lastHour_34 : decode cX5_lastHour 34 = .ok (.istore_n 3, 1) := by decide +kernel
theorem dX5_lastHour_35 : decode cX5_lastHour 35 = .ok (.iinc 4 1, 3) := by decide +kernel
theorem dX5_lastHour_38 : decode cX5_lastHour 38 = .ok (.goto (-27), 3) := by decide +kernel
theorem dX5_lastHour_41 : decode cX5_lastHour 41 = .ok (.iload_n 3, 1) := by decide +kernel
theorem dX5_lastHour_42 : decode cX5_lastHour 42 = .ok (.ireturn, 1) := by decide +kernel
theorem dX5_firstHourAs_0 : decode cX5_firstHourAs 0 = .ok (.aload_n 0, 1) := by decide +kernel
theorem dX5_firstHourAs_1 : decode cX5_firstHourAs 1 = .ok (.aload_n 1, 1) := by decide +kernel
theorem dX5_firstHourAs_2 : decode cX5_firstHourAs 2 = .ok (.iload_n 2, 1) := by decide +kernel
theorem dX5_firstHourAs_3 : decode cX5_firstHourAs 3 = .ok (.invokevirtual 94, 3) := by decide +kernel
theorem dX5_firstHourAs_6 : decode cX5_firstHourAs 6 = .ok (.iconst 0, 1) := by decide +kernel
theorem dX5_firstHourAs_7 : decode cX5_firstHourAs 7 = .ok (.istore 4, 2) := by decide +kernel
theorem dX5_firstHourAs_9 : decode cX5_firstHourAs 9 = .ok (.iload 4, 2) := by decide +kernel
theorem dX5_firstHourAs_11 : decode cX5_firstHourAs 11 = .ok (.aload_n 0, 1) := by decide +kernel
theorem dX5_firstHourAs_12 : decode cX5_firstHourAs 12 = .ok (.getfield 22, 3) := by decide +kernel
theorem dX5_firstHourAs_15 : decode cX5_firstHourAs 15 = .ok (.arraylength, 1) := by decide +kernel
theorem dX5_firstHourAs_16 : decode cX5_firstHourAs 16 = .ok (.if_icmp .ge 23, 3) := by decide +kernel
theorem dX5_firstHourAs_19 : decode cX5_firstHourAs 19 = .ok (.aload_n 0, 1) := by decide +kernel
theorem dX5_firstHourAs_20 : decode cX5_firstHourAs 20 = .ok (.getfield 22, 3) := by decide +kernel
theorem dX5_firstHourAs_23 : decode cX5_firstHourAs 23 = .ok (.iload 4, 2) := by decide +kernel
theorem dX5_firstHourAs_25 : decode cX5_firstHourAs 25 = .ok (.iaload, 1) := by decide +kernel
theorem dX5_firstHourAs_26 : decode cX5_firstHourAs 26 = .ok (.iload_n 3, 1) := by decide +kernel
theorem dX5_firstHourAs_27 : decode cX5_firstHourAs 27 = .ok (.if_icmp .ne 6, 3) := by decide +kernel
theorem dX5_firstHourAs_30 : decode cX5_firstHourAs 30 = .ok (.iload 4, 2) := by decide +kernel
theorem dX5_firstHourAs_32 : decode cX5_firstHourAs 32 = .ok (.ireturn, 1) := by decide +kernel
theorem dX5_firstHourAs_33 : decode cX5_firstHourAs 33 = .ok (.iinc 4 1, 3) := by decide +kernel
theorem dX5_firstHourAs_36 : decode cX5_firstHourAs 36 = .ok (.goto (-27), 3) := by decide +kernel
theorem dX5_firstHourAs_39 : decode cX5_firstHourAs 39 = .ok (.iconst (-1), 1) := by decide +kernel
theorem dX5_firstHourAs_40 : decode cX5_firstHourAs 40 = .ok (.ireturn, 1) := by decide +kernel
theorem dX5_othersReadFor_0 : decode cX5_othersReadFor 0 = .ok (.iconst 0, 1) := by decide +kernel
theorem dX5_othersReadFor_1 : decode cX5_othersReadFor 1 = .ok (.istore_n 2, 1) := by decide +kernel
theorem dX5_othersReadFor_2 : decode cX5_othersReadFor 2 = .ok (.iconst 0, 1) := by decide +kernel
theorem dX5_othersReadFor_3 : decode cX5_othersReadFor 3 = .ok (.istore_n 3, 1) := by decide +kernel
theorem dX5_othersReadFor_4 : decode cX5_othersReadFor 4 = .ok (.iload_n 3, 1) := by decide +kernel
theorem dX5_othersReadFor_5 : decode cX5_othersReadFor 5 = .ok (.aload_n 0, 1) := by decide +kernel
theorem dX5_othersReadFor_6 : decode cX5_othersReadFor 6 = .ok (.getfield 9, 3) := by decide +kernel
theorem dX5_othersReadFor_9 : decode cX5_othersReadFor 9 = .ok (.getfield 98, 3) := by decide +kernel
theorem dX5_othersReadFor_12 : decode cX5_othersReadFor 12 = .ok (.if_icmp .ge 38, 3) := by decide +kernel
theorem dX5_othersReadFor_15 : decode cX5_othersReadFor 15 = .ok (.aload_n 0, 1) := by decide +kernel
theorem dX5_othersReadFor_16 : decode cX5_othersReadFor 16 = .ok (.getfield 9, 3) := by decide +kernel
theorem dX5_othersReadFor_19 : decode cX5_othersReadFor 19 = .ok (.iload_n 3, 1) := by decide +kernel
theorem dX5_othersReadFor_20 : decode cX5_othersReadFor 20 = .ok (.invokevirtual 101, 3) := by decide +kernel
theorem dX5_othersReadFor_23 : decode cX5_othersReadFor 23 = .ok (.astore 4, 2) := by decide +kernel
theorem dX5_othersReadFor_25 : decode cX5_othersReadFor 25 = .ok (.aload 4, 2) := by decide +kernel
theorem dX5_othersReadFor_27 : decode cX5_othersReadFor 27 = .ok (.ifnull 17, 3) := by decide +kernel
theorem dX5_othersReadFor_30 : decode cX5_othersReadFor 30 = .ok (.aload_n 0, 1) := by decide +kernel
theorem dX5_othersReadFor_31 : decode cX5_othersReadFor 31 = .ok (.aload 4, 2) := by decide +kernel
theorem dX5_othersReadFor_33 : decode cX5_othersReadFor 33 = .ok (.iload_n 1, 1) := by decide +kernel
theorem dX5_othersReadFor_34 : decode cX5_othersReadFor 34 = .ok (.invokevirtual 94, 3) := by decide +kernel
theorem dX5_othersReadFor_37 : decode cX5_othersReadFor 37 = .ok (.iload_n 2, 1) := by decide +kernel
theorem dX5_othersReadFor_38 : decode cX5_othersReadFor 38 = .ok (.aload_n 0, 1) := by decide +kernel
theorem dX5_othersReadFor_39 : decode cX5_othersReadFor 39 = .ok (.invokevirtual 105, 3) := by decide +kernel
theorem dX5_othersReadFor_42 : decode cX5_othersReadFor 42 = .ok (.ior, 1) := by decide +kernel
theorem dX5_othersReadFor_43 : decode cX5_othersReadFor 43 = .ok (.istore_n 2, 1) := by decide +kernel
theorem dX5_othersReadFor_44 : decode cX5_othersReadFor 44 = .ok (.iinc 3 1, 3) := by decide +kernel
theorem dX5_othersReadFor_47 : decode cX5_othersReadFor 47 = .ok (.goto (-43), 3) := by decide +kernel
theorem dX5_othersReadFor_50 : decode cX5_othersReadFor 50 = .ok (.iload_n 2, 1) := by decide +kernel
theorem dX5_othersReadFor_51 : decode cX5_othersReadFor 51 = .ok (.iconst 1, 1) := by decide +kernel
theorem dX5_othersReadFor_52 : decode cX5_othersReadFor 52 = .ok (.iload_n 1, 1) := by decide +kernel
theorem dX5_othersReadFor_53 : decode cX5_othersReadFor 53 = .ok (.ishl, 1) := by decide +kernel
theorem dX5_othersReadFor_54 : decode cX5_othersReadFor 54 = .ok (.iconst (-1), 1) := by decide +kernel
theorem dX5_othersReadFor_55 : decode cX5_othersReadFor 55 = .ok (.ixor, 1) := by decide +kernel
theorem dX5_othersReadFor_56 : decode cX5_othersReadFor 56 = .ok (.iand, 1) := by decide +kernel
theorem dX5_othersReadFor_57 : decode cX5_othersReadFor 57 = .ok (.ireturn, 1) := by decide +kernel
theorem dX5_lettersAmongReadings_0 : decode cX5_lettersAmongReadings 0 = .ok (.iconst 0, 1) := by decide +kernel
theorem dX5_lettersAmongReadings_1 : decode cX5_lettersAmongReadings 1 = .ok (.istore_n 1, 1) := by decide +kernel
theorem dX5_lettersAmongReadings_2 : decode cX5_lettersAmongReadings 2 = .ok (.iconst 0, 1) := by decide +kernel
theorem dX5_lettersAmongReadings_3 : decode cX5_lettersAmongReadings 3 = .ok (.istore_n 2, 1) := by decide +kernel
theorem dX5_lettersAmongReadings_4 : decode cX5_lettersAmongReadings 4 = .ok (.iload_n 2, 1) := by decide +kernel
theorem dX5_lettersAmongReadings_5 : decode cX5_lettersAmongReadings 5 = .ok (.aload_n 0, 1) := by decide +kernel
theorem dX5_lettersAmongReadings_6 : decode cX5_lettersAmongReadings 6 = .ok (.getfield 22, 3) := by decide +kernel
theorem dX5_lettersAmongReadings_9 : decode cX5_lettersAmongReadings 9 = .ok (.arraylength, 1) := by decide +kernel
theorem dX5_lettersAmongReadings_10 : decode cX5_lettersAmongReadings 10 = .ok (.if_icmp .ge 29, 3) := by decide +kernel
theorem dX5_lettersAmongReadings_13 : decode cX5_lettersAmongReadings 13 = .ok (.aload_n 0, 1) := by decide +kernel
theorem dX5_lettersAmongReadings_14 : decode cX5_lettersAmongReadings 14 = .ok (.getfield 22, 3) := by decide +kernel
theorem dX5_lettersAmongReadings_17 : decode cX5_lettersAmongReadings 17 = .ok (.iload_n 2, 1) := by decide +kernel
theorem dX5_lettersAmongReadings_18 : decode cX5_lettersAmongReadings 18 = .ok (.iaload, 1) := by decide +kernel
theorem dX5_lettersAmongReadings_19 : decode cX5_lettersAmongReadings 19 = .ok (.ifCond .lt 14, 3) := by decide +kernel
theorem dX5_lettersAmongReadings_22 : decode cX5_lettersAmongReadings 22 = .ok (.iload_n 1, 1) := by decide +kernel
theorem dX5_lettersAmongReadings_23 : decode cX5_lettersAmongReadings 23 = .ok (.iconst 1, 1) := by decide +kernel
theorem dX5_lettersAmongReadings_24 : decode cX5_lettersAmongReadings 24 = .ok (.aload_n 0, 1) := by decide +kernel
theorem dX5_lettersAmongReadings_25 : decode cX5_lettersAmongReadings 25 = .ok (.getfield 22, 3) := by decide +kernel
theorem dX5_lettersAmongReadings_28 : decode cX5_lettersAmongReadings 28 = .ok (.iload_n 2, 1) := by decide +kernel
theorem dX5_lettersAmongReadings_29 : decode cX5_lettersAmongReadings 29 = .ok (.iaload, 1) := by decide +kernel
theorem dX5_lettersAmongReadings_30 : decode cX5_lettersAmongReadings 30 = .ok (.ishl, 1) := by decide +kernel
theorem dX5_lettersAmongReadings_31 : decode cX5_lettersAmongReadings 31 = .ok (.ior, 1) := by decide +kernel
theorem dX5_lettersAmongReadings_32 : decode cX5_lettersAmongReadings 32 = .ok (.istore_n 1, 1) := by decide +kernel
theorem dX5_lettersAmongReadings_33 : decode cX5_lettersAmongReadings 33 = .ok (.iinc 2 1, 3) := by decide +kernel
theorem dX5_lettersAmongReadings_36 : decode cX5_lettersAmongReadings 36 = .ok (.goto (-32), 3) := by decide +kernel
theorem dX5_lettersAmongReadings_39 : decode cX5_lettersAmongReadings 39 = .ok (.iload_n 1, 1) := by decide +kernel
theorem dX5_lettersAmongReadings_40 : decode cX5_lettersAmongReadings 40 = .ok (.ireturn, 1) := by decide +kernel
theorem dX5_panesRight_0 : decode cX5_panesRight 0 = .ok (.iconst 0, 1) := by decide +kernel
theorem dX5_panesRight_1 : decode cX5_panesRight 1 = .ok (.istore_n 2, 1) := by decide +kernel
theorem dX5_panesRight_2 : decode cX5_panesRight 2 = .ok (.iconst 0, 1) := by decide +kernel
theorem dX5_panesRight_3 : decode cX5_panesRight 3 = .ok (.istore_n 3, 1) := by decide +kernel
theorem dX5_panesRight_4 : decode cX5_panesRight 4 = .ok (.iload_n 3, 1) := by decide +kernel
theorem dX5_panesRight_5 : decode cX5_panesRight 5 = .ok (.aload_n 0, 1) := by decide +kernel
theorem dX5_panesRight_6 : decode cX5_panesRight 6 = .ok (.getfield 9, 3) := by decide +kernel
theorem dX5_panesRight_9 : decode cX5_panesRight 9 = .ok (.getfield 98, 3) := by decide +kernel
theorem dX5_panesRight_12 : decode cX5_panesRight 12 = .ok (.if_icmp .ge 66, 3) := by decide +kernel
theorem dX5_panesRight_15 : decode cX5_panesRight 15 = .ok (.aload_n 0, 1) := by decide +kernel
theorem dX5_panesRight_16 : decode cX5_panesRight 16 = .ok (.getfield 9, 3) := by decide +kernel
theorem dX5_panesRight_19 : decode cX5_panesRight 19 = .ok (.iload_n 3, 1) := by decide +kernel
theorem dX5_panesRight_20 : decode cX5_panesRight 20 = .ok (.invokevirtual 101, 3) := by decide +kernel
theorem dX5_panesRight_23 : decode cX5_panesRight 23 = .ok (.astore 4, 2) := by decide +kernel
theorem dX5_panesRight_25 : decode cX5_panesRight 25 = .ok (.aload 4, 2) := by decide +kernel
theorem dX5_panesRight_27 : decode cX5_panesRight 27 = .ok (.ifnull 45, 3) := by decide +kernel
theorem dX5_panesRight_30 : decode cX5_panesRight 30 = .ok (.aload 4, 2) := by decide +kernel
theorem dX5_panesRight_32 : decode cX5_panesRight 32 = .ok (.getfield 108, 3) := by decide +kernel
theorem dX5_panesRight_35 : decode cX5_panesRight 35 = .ok (.iconst (-1), 1) := by decide +kernel
theorem dX5_panesRight_36 : decode cX5_panesRight 36 = .ok (.if_icmp .eq 36, 3) := by decide +kernel
theorem dX5_panesRight_39 : decode cX5_panesRight 39 = .ok (.aload_n 0, 1) := by decide +kernel
theorem dX5_panesRight_40 : decode cX5_panesRight 40 = .ok (.getfield 9, 3) := by decide +kernel
theorem dX5_panesRight_43 : decode cX5_panesRight 43 = .ok (.aload_n 0, 1) := by decide +kernel
theorem dX5_panesRight_44 : decode cX5_panesRight 44 = .ok (.aload 4, 2) := by decide +kernel
theorem dX5_panesRight_46 : decode cX5_panesRight 46 = .ok (.aload 4, 2) := by decide +kernel
theorem dX5_panesRight_48 : decode cX5_panesRight 48 = .ok (.getfield 108, 3) := by decide +kernel
theorem dX5_panesRight_51 : decode cX5_panesRight 51 = .ok (.iload_n 1, 1) := by decide +kernel
theorem dX5_panesRight_52 : decode cX5_panesRight 52 = .ok (.invokevirtual 39, 3) := by decide +kernel
theorem dX5_panesRight_55 : decode cX5_panesRight 55 = .ok (.invokevirtual 84, 3) := by decide +kernel
theorem dX5_panesRight_58 : decode cX5_panesRight 58 = .ok (.aload 4, 2) := by decide +kernel
theorem dX5_panesRight_60 : decode cX5_panesRight 60 = .ok (.getfield 108, 3) := by decide +kernel
theorem dX5_panesRight_63 : decode cX5_panesRight 63 = .ok (.if_icmp .ne 9, 3) := by decide +kernel
theorem dX5_panesRight_66 : decode cX5_panesRight 66 = .ok (.iload_n 2, 1) := by decide +kernel
theorem dX5_panesRight_67 : decode cX5_panesRight 67 = .ok (.iconst 1, 1) := by decide +kernel
theorem dX5_panesRight_68 : decode cX5_panesRight 68 = .ok (.iload_n 3, 1) := by decide +kernel
theorem dX5_panesRight_69 : decode cX5_panesRight 69 = .ok (.ishl, 1) := by decide +kernel
theorem dX5_panesRight_70 : decode cX5_panesRight 70 = .ok (.ior, 1) := by decide +kernel
theorem dX5_panesRight_71 : decode cX5_panesRight 71 = .ok (.istore_n 2, 1) := by decide +kernel
theorem dX5_panesRight_72 : decode cX5_panesRight 72 = .ok (.iinc 3 1, 3) := by decide +kernel
theorem dX5_panesRight_75 : decode cX5_panesRight 75 = .ok (.goto (-71), 3) := by decide +kernel
theorem dX5_panesRight_78 : decode cX5_panesRight 78 = .ok (.iload_n 2, 1) := by decide +kernel
theorem dX5_panesRight_79 : decode cX5_panesRight 79 = .ok (.ireturn, 1) := by decide +kernel
theorem dX5_lettersThatShow_0 : decode cX5_lettersThatShow 0 = .ok (.iconst 0, 1) := by decide +kernel
theorem dX5_lettersThatShow_1 : decode cX5_lettersThatShow 1 = .ok (.istore 4, 2) := by decide +kernel
theorem dX5_lettersThatShow_3 : decode cX5_lettersThatShow 3 = .ok (.iconst 0, 1) := by decide +kernel
theorem dX5_lettersThatShow_4 : decode cX5_lettersThatShow 4 = .ok (.istore 5, 2) := by decide +kernel
theorem dX5_lettersThatShow_6 : decode cX5_lettersThatShow 6 = .ok (.iload 5, 2) := by decide +kernel
theorem dX5_lettersThatShow_8 : decode cX5_lettersThatShow 8 = .ok (.aload_n 0, 1) := by decide +kernel
theorem dX5_lettersThatShow_9 : decode cX5_lettersThatShow 9 = .ok (.getfield 9, 3) := by decide +kernel
theorem dX5_lettersThatShow_12 : decode cX5_lettersThatShow 12 = .ok (.getfield 111, 3) := by decide +kernel
theorem dX5_lettersThatShow_15 : decode cX5_lettersThatShow 15 = .ok (.if_icmp .ge 30, 3) := by decide +kernel
theorem dX5_lettersThatShow_18 : decode cX5_lettersThatShow 18 = .ok (.aload_n 0, 1) := by decide +kernel
theorem dX5_lettersThatShow_19 : decode cX5_lettersThatShow 19 = .ok (.aload_n 1, 1) := by decide +kernel
theorem dX5_lettersThatShow_20 : decode cX5_lettersThatShow 20 = .ok (.iload 5, 2) := by decide +kernel
theorem dX5_lettersThatShow_22 : decode cX5_lettersThatShow 22 = .ok (.iload_n 3, 1) := by decide +kernel
theorem dX5_lettersThatShow_23 : decode cX5_lettersThatShow 23 = .ok (.invokevirtual 39, 3) := by decide +kernel
theorem dX5_lettersThatShow_26 : decode cX5_lettersThatShow 26 = .ok (.iload_n 2, 1) := by decide +kernel
theorem dX5_lettersThatShow_27 : decode cX5_lettersThatShow 27 = .ok (.if_icmp .ne 12, 3) := by decide +kernel
theorem dX5_lettersThatShow_30 : decode cX5_lettersThatShow 30 = .ok (.iload 4, 2) := by decide +kernel
theorem dX5_lettersThatShow_32 : decode cX5_lettersThatShow 32 = .ok (.iconst 1, 1) := by decide +kernel
theorem dX5_lettersThatShow_33 : decode cX5_lettersThatShow 33 = .ok (.iload 5, 2) := by decide +kernel
theorem dX5_lettersThatShow_35 : decode cX5_lettersThatShow 35 = .ok (.ishl, 1) := by decide +kernel
theorem dX5_lettersThatShow_36 : decode cX5_lettersThatShow 36 = .ok (.ior, 1) := by decide +kernel
theorem dX5_lettersThatShow_37 : decode cX5_lettersThatShow 37 = .ok (.istore 4, 2) := by decide +kernel
theorem dX5_lettersThatShow_39 : decode cX5_lettersThatShow 39 = .ok (.iinc 5 1, 3) := by decide +kernel
theorem dX5_lettersThatShow_42 : decode cX5_lettersThatShow 42 = .ok (.goto (-36), 3) := by decide +kernel
theorem dX5_lettersThatShow_45 : decode cX5_lettersThatShow 45 = .ok (.aload_n 0, 1) := by decide +kernel
theorem dX5_lettersThatShow_46 : decode cX5_lettersThatShow 46 = .ok (.aload_n 1, 1) := by decide +kernel
theorem dX5_lettersThatShow_47 : decode cX5_lettersThatShow 47 = .ok (.iconst (-1), 1) := by decide +kernel
theorem dX5_lettersThatShow_48 : decode cX5_lettersThatShow 48 = .ok (.iload_n 3, 1) := by decide +kernel
theorem dX5_lettersThatShow_49 : decode cX5_lettersThatShow 49 = .ok (.invokevirtual 39, 3) := by decide +kernel
theorem dX5_lettersThatShow_52 : decode cX5_lettersThatShow 52 = .ok (.iload_n 2, 1) := by decide +kernel
theorem dX5_lettersThatShow_53 : decode cX5_lettersThatShow 53 = .ok (.if_icmp .ne 12, 3) := by decide +kernel
theorem dX5_lettersThatShow_56 : decode cX5_lettersThatShow 56 = .ok (.iload 4, 2) := by decide +kernel
theorem dX5_lettersThatShow_58 : decode cX5_lettersThatShow 58 = .ok (.sipush 256, 3) := by decide +kernel
theorem dX5_lettersThatShow_61 : decode cX5_lettersThatShow 61 = .ok (.ior, 1) := by decide +kernel
theorem dX5_lettersThatShow_62 : decode cX5_lettersThatShow 62 = .ok (.goto 5, 3) := by decide +kernel
theorem dX5_lettersThatShow_65 : decode cX5_lettersThatShow 65 = .ok (.iload 4, 2) := by decide +kernel
theorem dX5_lettersThatShow_67 : decode cX5_lettersThatShow 67 = .ok (.ireturn, 1) := by decide +kernel
theorem dX5_warmestRoom_0 : decode cX5_warmestRoom 0 = .ok (.aload_n 0, 1) := by decide +kernel
theorem dX5_warmestRoom_1 : decode cX5_warmestRoom 1 = .ok (.getfield 18, 3) := by decide +kernel
theorem dX5_warmestRoom_4 : decode cX5_warmestRoom 4 = .ok (.aload_n 1, 1) := by decide +kernel
theorem dX5_warmestRoom_5 : decode cX5_warmestRoom 5 = .ok (.invokevirtual 47, 3) := by decide +kernel
theorem dX5_warmestRoom_8 : decode cX5_warmestRoom 8 = .ok (.bipush 9, 2) := by decide +kernel
theorem dX5_warmestRoom_10 : decode cX5_warmestRoom 10 = .ok (.istore 4, 2) := by decide +kernel
theorem dX5_warmestRoom_12 : decode cX5_warmestRoom 12 = .ok (.iload 4, 2) := by decide +kernel
theorem dX5_warmestRoom_14 : decode cX5_warmestRoom 14 = .ok (.ifCond .lt 45, 3) := by decide +kernel
theorem dX5_warmestRoom_17 : decode cX5_warmestRoom 17 = .ok (.aload_n 0, 1) := by decide +kernel
theorem dX5_warmestRoom_18 : decode cX5_warmestRoom 18 = .ok (.getfield 18, 3) := by decide +kernel
theorem dX5_warmestRoom_21 : decode cX5_warmestRoom 21 = .ok (.iload 4, 2) := by decide +kernel
theorem dX5_warmestRoom_23 : decode cX5_warmestRoom 23 = .ok (.putfield 114, 3) := by decide +kernel
theorem dX5_warmestRoom_26 : decode cX5_warmestRoom 26 = .ok (.aload_n 0, 1) := by decide +kernel
theorem dX5_warmestRoom_27 : decode cX5_warmestRoom 27 = .ok (.getfield 9, 3) := by decide +kernel
theorem dX5_warmestRoom_30 : decode cX5_warmestRoom 30 = .ok (.aload_n 0, 1) := by decide +kernel
theorem dX5_warmestRoom_31 : decode cX5_warmestRoom 31 = .ok (.iload_n 2, 1) := by decide +kernel
theorem dX5_warmestRoom_32 : decode cX5_warmestRoom 32 = .ok (.iload_n 3, 1) := by decide +kernel
theorem dX5_warmestRoom_33 : decode cX5_warmestRoom 33 = .ok (.aload_n 0, 1) := by decide +kernel
theorem dX5_warmestRoom_34 : decode cX5_warmestRoom 34 = .ok (.getfield 9, 3) := by decide +kernel
theorem dX5_warmestRoom_37 : decode cX5_warmestRoom 37 = .ok (.getfield 51, 3) := by decide +kernel
theorem dX5_warmestRoom_40 : decode cX5_warmestRoom 40 = .ok (.invokevirtual 56, 3) := by decide +kernel
theorem dX5_warmestRoom_43 : decode cX5_warmestRoom 43 = .ok (.invokevirtual 84, 3) := by decide +kernel
theorem dX5_warmestRoom_46 : decode cX5_warmestRoom 46 = .ok (.iload_n 2, 1) := by decide +kernel
theorem dX5_warmestRoom_47 : decode cX5_warmestRoom 47 = .ok (.if_icmp .ne 6, 3) := by decide +kernel
theorem dX5_warmestRoom_50 : decode cX5_warmestRoom 50 = .ok (.iload 4, 2) := by decide +kernel
theorem dX5_warmestRoom_52 : decode cX5_warmestRoom 52 = .ok (.ireturn, 1) := by decide +kernel
theorem dX5_warmestRoom_53 : decode cX5_warmestRoom 53 = .ok (.iinc 4 (-1), 3) := by decide +kernel
theorem dX5_warmestRoom_56 : decode cX5_warmestRoom 56 = .ok (.goto (-44), 3) := by decide +kernel
theorem dX5_warmestRoom_59 : decode cX5_warmestRoom 59 = .ok (.iconst (-1), 1) := by decide +kernel
theorem dX5_warmestRoom_60 : decode cX5_warmestRoom 60 = .ok (.ireturn, 1) := by decide +kernel
theorem dX5_leastCold_0 : decode cX5_leastCold 0 = .ok (.aload_n 0, 1) := by decide +kernel
theorem dX5_leastCold_1 : decode cX5_leastCold 1 = .ok (.getfield 18, 3) := by decide +kernel
theorem dX5_leastCold_4 : decode cX5_leastCold 4 = .ok (.aload_n 1, 1) := by decide +kernel
theorem dX5_leastCold_5 : decode cX5_leastCold 5 = .ok (.invokevirtual 47, 3) := by decide +kernel
theorem dX5_leastCold_8 : decode cX5_leastCold 8 = .ok (.iconst 0, 1) := by decide +kernel
theorem dX5_leastCold_9 : decode cX5_leastCold 9 = .ok (.istore 4, 2) := by decide +kernel
theorem dX5_leastCold_11 : decode cX5_leastCold 11 = .ok (.iload 4, 2) := by decide +kernel
theorem dX5_leastCold_13 : decode cX5_leastCold 13 = .ok (.bipush 40, 2) := by decide +kernel
theorem dX5_leastCold_15 : decode cX5_leastCold 15 = .ok (.if_icmp .gt 31, 3) := by decide +kernel
theorem dX5_leastCold_18 : decode cX5_leastCold 18 = .ok (.aload_n 0, 1) := by decide +kernel
theorem dX5_leastCold_19 : decode cX5_leastCold 19 = .ok (.getfield 9, 3) := by decide +kernel
theorem dX5_leastCold_22 : decode cX5_leastCold 22 = .ok (.aload_n 0, 1) := by decide +kernel
theorem dX5_leastCold_23 : decode cX5_leastCold 23 = .ok (.iload_n 2, 1) := by decide +kernel
theorem dX5_leastCold_24 : decode cX5_leastCold 24 = .ok (.iload_n 3, 1) := by decide +kernel
theorem dX5_leastCold_25 : decode cX5_leastCold 25 = .ok (.iload 4, 2) := by decide +kernel
theorem dX5_leastCold_27 : decode cX5_leastCold 27 = .ok (.invokevirtual 56, 3) := by decide +kernel
theorem dX5_leastCold_30 : decode cX5_leastCold 30 = .ok (.invokevirtual 84, 3) := by decide +kernel
theorem dX5_leastCold_33 : decode cX5_leastCold 33 = .ok (.iload_n 2, 1) := by decide +kernel
theorem dX5_leastCold_34 : decode cX5_leastCold 34 = .ok (.if_icmp .ne 6, 3) := by decide +kernel
theorem dX5_leastCold_37 : decode cX5_leastCold 37 = .ok (.iload 4, 2) := by decide +kernel
theorem dX5_leastCold_39 : decode cX5_leastCold 39 = .ok (.ireturn, 1) := by decide +kernel
theorem dX5_leastCold_40 : decode cX5_leastCold 40 = .ok (.iinc 4 1, 3) := by decide +kernel
theorem dX5_leastCold_43 : decode cX5_leastCold 43 = .ok (.goto (-32), 3) := by decide +kernel
theorem dX5_leastCold_46 : decode cX5_leastCold 46 = .ok (.iconst (-1), 1) := by decide +kernel
theorem dX5_leastCold_47 : decode cX5_leastCold 47 = .ok (.ireturn, 1) := by decide +kernel
theorem dX5_curtainsRead_0 : decode cX5_curtainsRead 0 = .ok (.iconst 0, 1) := by decide +kernel
theorem dX5_curtainsRead_1 : decode cX5_curtainsRead 1 = .ok (.istore_n 1, 1) := by decide +kernel
theorem dX5_curtainsRead_2 : decode cX5_curtainsRead 2 = .ok (.iconst 0, 1) := by decide +kernel
theorem dX5_curtainsRead_3 : decode cX5_curtainsRead 3 = .ok (.istore_n 2, 1) := by decide +kernel
theorem dX5_curtainsRead_4 : decode cX5_curtainsRead 4 = .ok (.iload_n 2, 1) := by decide +kernel
theorem dX5_curtainsRead_5 : decode cX5_curtainsRead 5 = .ok (.aload_n 0, 1) := by decide +kernel
theorem dX5_curtainsRead_6 : decode cX5_curtainsRead 6 = .ok (.getfield 9, 3) := by decide +kernel
theorem dX5_curtainsRead_9 : decode cX5_curtainsRead 9 = .ok (.getfield 98, 3) := by decide +kernel
theorem dX5_curtainsRead_12 : decode cX5_curtainsRead 12 = .ok (.if_icmp .ge 54, 3) := by decide +kernel
theorem dX5_curtainsRead_15 : decode cX5_curtainsRead 15 = .ok (.aload_n 0, 1) := by decide +kernel
theorem dX5_curtainsRead_16 : decode cX5_curtainsRead 16 = .ok (.getfield 9, 3) := by decide +kernel
theorem dX5_curtainsRead_19 : decode cX5_curtainsRead 19 = .ok (.iload_n 2, 1) := by decide +kernel
theorem dX5_curtainsRead_20 : decode cX5_curtainsRead 20 = .ok (.invokevirtual 101, 3) := by decide +kernel
theorem dX5_curtainsRead_23 : decode cX5_curtainsRead 23 = .ok (.astore_n 3, 1) := by decide +kernel
theorem dX5_curtainsRead_24 : decode cX5_curtainsRead 24 = .ok (.aload_n 3, 1) := by decide +kernel
theorem dX5_curtainsRead_25 : decode cX5_curtainsRead 25 = .ok (.ifnull 35, 3) := by decide +kernel
theorem dX5_curtainsRead_28 : decode cX5_curtainsRead 28 = .ok (.aload_n 3, 1) := by decide +kernel
theorem dX5_curtainsRead_29 : decode cX5_curtainsRead 29 = .ok (.getfield 108, 3) := by decide +kernel
theorem dX5_curtainsRead_32 : decode cX5_curtainsRead 32 = .ok (.iconst (-1), 1) := by decide +kernel
theorem dX5_curtainsRead_33 : decode cX5_curtainsRead 33 = .ok (.if_icmp .ne 27, 3) := by decide +kernel
theorem dX5_curtainsRead_36 : decode cX5_curtainsRead 36 = .ok (.aload_n 0, 1) := by decide +kernel
theorem dX5_curtainsRead_37 : decode cX5_curtainsRead 37 = .ok (.getfield 9, 3) := by decide +kernel
theorem dX5_curtainsRead_40 : decode cX5_curtainsRead 40 = .ok (.aload_n 0, 1) := by decide +kernel
theorem dX5_curtainsRead_41 : decode cX5_curtainsRead 41 = .ok (.aload_n 3, 1) := by decide +kernel
theorem dX5_curtainsRead_42 : decode cX5_curtainsRead 42 = .ok (.iconst (-1), 1) := by decide +kernel
theorem dX5_curtainsRead_43 : decode cX5_curtainsRead 43 = .ok (.iconst 0, 1) := by decide +kernel
theorem dX5_curtainsRead_44 : decode cX5_curtainsRead 44 = .ok (.invokevirtual 39, 3) := by decide +kernel
theorem dX5_curtainsRead_47 : decode cX5_curtainsRead 47 = .ok (.invokevirtual 84, 3) := by decide +kernel
theorem dX5_curtainsRead_50 : decode cX5_curtainsRead 50 = .ok (.iconst (-1), 1) := by decide +kernel
theorem dX5_curtainsRead_51 : decode cX5_curtainsRead 51 = .ok (.if_icmp .eq 9, 3) := by decide +kernel
theorem dX5_curtainsRead_54 : decode cX5_curtainsRead 54 = .ok (.iload_n 1, 1) := by decide +kernel
theorem dX5_curtainsRead_55 : decode cX5_curtainsRead 55 = .ok (.iconst 1, 1) := by decide +kernel
theorem dX5_curtainsRead_56 : decode cX5_curtainsRead 56 = .ok (.iload_n 2, 1) := by decide +kernel
theorem dX5_curtainsRead_57 : decode cX5_curtainsRead 57 = .ok (.ishl, 1) := by decide +kernel
theorem dX5_curtainsRead_58 : decode cX5_curtainsRead 58 = .ok (.ior, 1) := by decide +kernel
theorem dX5_curtainsRead_59 : decode cX5_curtainsRead 59 = .ok (.istore_n 1, 1) := by decide +kernel
theorem dX5_curtainsRead_60 : decode cX5_curtainsRead 60 = .ok (.iinc 2 1, 3) := by decide +kernel
theorem dX5_curtainsRead_63 : decode cX5_curtainsRead 63 = .ok (.goto (-59), 3) := by decide +kernel
theorem dX5_curtainsRead_66 : decode cX5_curtainsRead 66 = .ok (.iload_n 1, 1) := by decide +kernel
theorem dX5_curtainsRead_67 : decode cX5_curtainsRead 67 = .ok (.ireturn, 1) := by decide +kernel
theorem dX5_firstPaperLead_0 : decode cX5_firstPaperLead 0 = .ok (.iconst 0, 1) := by decide +kernel
theorem dX5_firstPaperLead_1 : decode cX5_firstPaperLead 1 = .ok (.istore_n 1, 1) := by decide +kernel
theorem dX5_firstPaperLead_2 : decode cX5_firstPaperLead 2 = .ok (.iload_n 1, 1) := by decide +kernel
theorem dX5_firstPaperLead_3 : decode cX5_firstPaperLead 3 = .ok (.aload_n 0, 1) := by decide +kernel
theorem dX5_firstPaperLead_4 : decode cX5_firstPaperLead 4 = .ok (.getfield 29, 3) := by decide +kernel
theorem dX5_firstPaperLead_7 : decode cX5_firstPaperLead 7 = .ok (.arraylength, 1) := by decide +kernel
theorem dX5_firstPaperLead_8 : decode cX5_firstPaperLead 8 = .ok (.if_icmp .ge 27, 3) := by decide +kernel
theorem dX5_firstPaperLead_11 : decode cX5_firstPaperLead 11 = .ok (.aload_n 0, 1) := by decide +kernel
theorem dX5_firstPaperLead_12 : decode cX5_firstPaperLead 12 = .ok (.getfield 29, 3) := by decide +kernel
theorem dX5_firstPaperLead_15 : decode cX5_firstPaperLead 15 = .ok (.iload_n 1, 1) := by decide +kernel
theorem dX5_firstPaperLead_16 : decode cX5_firstPaperLead 16 = .ok (.aload_n 0, 1) := by decide +kernel
theorem dX5_firstPaperLead_17 : decode cX5_firstPaperLead 17 = .ok (.aload_n 0, 1) := by decide +kernel
theorem dX5_firstPaperLead_18 : decode cX5_firstPaperLead 18 = .ok (.getfield 9, 3) := by decide +kernel
theorem dX5_firstPaperLead_21 : decode cX5_firstPaperLead 21 = .ok (.iload_n 1, 1) := by decide +kernel
theorem dX5_firstPaperLead_22 : decode cX5_firstPaperLead 22 = .ok (.invokevirtual 101, 3) := by decide +kernel
theorem dX5_firstPaperLead_25 : decode cX5_firstPaperLead 25 = .ok (.invokevirtual 117, 3) := by decide +kernel
theorem dX5_firstPaperLead_28 : decode cX5_firstPaperLead 28 = .ok (.iastore, 1) := by decide +kernel
theorem dX5_firstPaperLead_29 : decode cX5_firstPaperLead 29 = .ok (.iinc 1 1, 3) := by decide +kernel
theorem dX5_firstPaperLead_32 : decode cX5_firstPaperLead 32 = .ok (.goto (-30), 3) := by decide +kernel
theorem dX5_firstPaperLead_35 : decode cX5_firstPaperLead 35 = .ok (.iconst 0, 1) := by decide +kernel
theorem dX5_firstPaperLead_36 : decode cX5_firstPaperLead 36 = .ok (.istore_n 1, 1) := by decide +kernel
theorem dX5_firstPaperLead_37 : decode cX5_firstPaperLead 37 = .ok (.iconst 0, 1) := by decide +kernel
theorem dX5_firstPaperLead_38 : decode cX5_firstPaperLead 38 = .ok (.istore_n 2, 1) := by decide +kernel
theorem dX5_firstPaperLead_39 : decode cX5_firstPaperLead 39 = .ok (.iload_n 2, 1) := by decide +kernel
theorem dX5_firstPaperLead_40 : decode cX5_firstPaperLead 40 = .ok (.aload_n 0, 1) := by decide +kernel
theorem dX5_firstPaperLead_41 : decode cX5_firstPaperLead 41 = .ok (.getfield 29, 3) := by decide +kernel
theorem dX5_firstPaperLead_44 : decode cX5_firstPaperLead 44 = .ok (.arraylength, 1) := by decide +kernel
theorem dX5_firstPaperLead_45 : decode cX5_firstPaperLead 45 = .ok (.if_icmp .ge 29, 3) := by decide +kernel
theorem dX5_firstPaperLead_48 : decode cX5_firstPaperLead 48 = .ok (.aload_n 0, 1) := by decide +kernel
theorem dX5_firstPaperLead_49 : decode cX5_firstPaperLead 49 = .ok (.invokevirtual 121, 3) := by decide +kernel
theorem dX5_firstPaperLead_52 : decode cX5_firstPaperLead 52 = .ok (.istore_n 3, 1) := by decide +kernel
theorem dX5_firstPaperLead_53 : decode cX5_firstPaperLead 53 = .ok (.iload_n 1, 1) := by decide +kernel
theorem dX5_firstPaperLead_54 : decode cX5_firstPaperLead 54 = .ok (.iload_n 2, 1) := by decide +kernel
theorem dX5_firstPaperLead_55 : decode cX5_firstPaperLead 55 = .ok (.iconst 2, 1) := by decide +kernel
theorem dX5_firstPaperLead_56 : decode cX5_firstPaperLead 56 = .ok (.irem, 1) := by decide +kernel
theorem dX5_firstPaperLead_57 : decode cX5_firstPaperLead 57 = .ok (.ifCond .ne 7, 3) := by decide +kernel
theorem dX5_firstPaperLead_60 : decode cX5_firstPaperLead 60 = .ok (.iload_n 3, 1) := by decide +kernel
theorem dX5_firstPaperLead_61 : decode cX5_firstPaperLead 61 = .ok (.goto 5, 3) := by decide +kernel
theorem dX5_firstPaperLead_64 : decode cX5_firstPaperLead 64 = .ok (.iload_n 3, 1) := by decide +kernel
theorem dX5_firstPaperLead_65 : decode cX5_firstPaperLead 65 = .ok (.ineg, 1) := by decide +kernel
theorem dX5_firstPaperLead_66 : decode cX5_firstPaperLead 66 = .ok (.iadd, 1) := by decide +kernel
theorem dX5_firstPaperLead_67 : decode cX5_firstPaperLead 67 = .ok (.istore_n 1, 1) := by decide +kernel
theorem dX5_firstPaperLead_68 : decode cX5_firstPaperLead 68 = .ok (.iinc 2 1, 3) := by decide +kernel
theorem dX5_firstPaperLead_71 : decode cX5_firstPaperLead 71 = .ok (.goto (-32), 3) := by decide +kernel
theorem dX5_firstPaperLead_74 : decode cX5_firstPaperLead 74 = .ok (.iload_n 1, 1) := by decide +kernel
theorem dX5_firstPaperLead_75 : decode cX5_firstPaperLead 75 = .ok (.ireturn, 1) := by decide +kernel
theorem dX5_takeDearest_0 : decode cX5_takeDearest 0 = .ok (.iconst (-1), 1) := by decide +kernel
theorem dX5_takeDearest_1 : decode cX5_takeDearest 1 = .ok (.istore_n 1, 1) := by decide +kernel
theorem dX5_takeDearest_2 : decode cX5_takeDearest 2 = .ok (.iconst 0, 1) := by decide +kernel
theorem dX5_takeDearest_3 : decode cX5_takeDearest 3 = .ok (.istore_n 2, 1) := by decide +kernel
theorem dX5_takeDearest_4 : decode cX5_takeDearest 4 = .ok (.iconst 0, 1) := by decide +kernel
theorem dX5_takeDearest_5 : decode cX5_takeDearest 5 = .ok (.istore_n 3, 1) := by decide +kernel
theorem dX5_takeDearest_6 : decode cX5_takeDearest 6 = .ok (.iload_n 3, 1) := by decide +kernel
theorem dX5_takeDearest_7 : decode cX5_takeDearest 7 = .ok (.aload_n 0, 1) := by decide +kernel
theorem dX5_takeDearest_8 : decode cX5_takeDearest 8 = .ok (.getfield 29, 3) := by decide +kernel
theorem dX5_takeDearest_11 : decode cX5_takeDearest 11 = .ok (.arraylength, 1) := by decide +kernel
theorem dX5_takeDearest_12 : decode cX5_takeDearest 12 = .ok (.if_icmp .ge 28, 3) := by decide +kernel
theorem dX5_takeDearest_15 : decode cX5_takeDearest 15 = .ok (.aload_n 0, 1) := by decide +kernel
theorem dX5_takeDearest_16 : decode cX5_takeDearest 16 = .ok (.getfield 29, 3) := by decide +kernel
theorem dX5_takeDearest_19 : decode cX5_takeDearest 19 = .ok (.iload_n 3, 1) := by decide +kernel
theorem dX5_takeDearest_20 : decode cX5_takeDearest 20 = .ok (.iaload, 1) := by decide +kernel
theorem dX5_takeDearest_21 : decode cX5_takeDearest 21 = .ok (.iload_n 2, 1) := by decide +kernel
theorem dX5_takeDearest_22 : decode cX5_takeDearest 22 = .ok (.if_icmp .le 12, 3) := by decide +kernel
theorem dX5_takeDearest_25 : decode cX5_takeDearest 25 = .ok (.aload_n 0, 1) := by decide +kernel
theorem dX5_takeDearest_26 : decode cX5_takeDearest 26 = .ok (.getfield 29, 3) := by decide +kernel
theorem dX5_takeDearest_29 : decode cX5_takeDearest 29 = .ok (.iload_n 3, 1) := by decide +kernel
theorem dX5_takeDearest_30 : decode cX5_takeDearest 30 = .ok (.iaload, 1) := by decide +kernel
theorem dX5_takeDearest_31 : decode cX5_takeDearest 31 = .ok (.istore_n 2, 1) := by decide +kernel
theorem dX5_takeDearest_32 : decode cX5_takeDearest 32 = .ok (.iload_n 3, 1) := by decide +kernel
theorem dX5_takeDearest_33 : decode cX5_takeDearest 33 = .ok (.istore_n 1, 1) := by decide +kernel
theorem dX5_takeDearest_34 : decode cX5_takeDearest 34 = .ok (.iinc 3 1, 3) := by decide +kernel
theorem dX5_takeDearest_37 : decode cX5_takeDearest 37 = .ok (.goto (-31), 3) := by decide +kernel
theorem dX5_takeDearest_40 : decode cX5_takeDearest 40 = .ok (.iload_n 1, 1) := by decide +kernel
theorem dX5_takeDearest_41 : decode cX5_takeDearest 41 = .ok (.ifCond .lt 19, 3) := by decide +kernel
theorem dX5_takeDearest_44 : decode cX5_takeDearest 44 = .ok (.iload_n 1, 1) := by decide +kernel
theorem dX5_takeDearest_45 : decode cX5_takeDearest 45 = .ok (.aload_n 0, 1) := by decide +kernel
theorem dX5_takeDearest_46 : decode cX5_takeDearest 46 = .ok (.getfield 29, 3) := by decide +kernel
theorem dX5_takeDearest_49 : decode cX5_takeDearest 49 = .ok (.arraylength, 1) := by decide +kernel
theorem dX5_takeDearest_50 : decode cX5_takeDearest 50 = .ok (.if_icmp .ge 10, 3) := by decide +kernel
theorem dX5_takeDearest_53 : decode cX5_takeDearest 53 = .ok (.aload_n 0, 1) := by decide +kernel
theorem dX5_takeDearest_54 : decode cX5_takeDearest 54 = .ok (.getfield 29, 3) := by decide +kernel
theorem dX5_takeDearest_57 : decode cX5_takeDearest 57 = .ok (.iload_n 1, 1) := by decide +kernel
theorem dX5_takeDearest_58 : decode cX5_takeDearest 58 = .ok (.iconst 0, 1) := by decide +kernel
theorem dX5_takeDearest_59 : decode cX5_takeDearest 59 = .ok (.iastore, 1) := by decide +kernel
theorem dX5_takeDearest_60 : decode cX5_takeDearest 60 = .ok (.iload_n 2, 1) := by decide +kernel
theorem dX5_takeDearest_61 : decode cX5_takeDearest 61 = .ok (.ireturn, 1) := by decide +kernel
theorem dX5_worthOf_0 : decode cX5_worthOf 0 = .ok (.aload_n 1, 1) := by decide +kernel
theorem dX5_worthOf_1 : decode cX5_worthOf 1 = .ok (.ifnull 11, 3) := by decide +kernel
theorem dX5_worthOf_4 : decode cX5_worthOf 4 = .ok (.aload_n 1, 1) := by decide +kernel
theorem dX5_worthOf_5 : decode cX5_worthOf 5 = .ok (.getfield 108, 3) := by decide +kernel
theorem dX5_worthOf_8 : decode cX5_worthOf 8 = .ok (.iconst (-1), 1) := by decide +kernel
theorem dX5_worthOf_9 : decode cX5_worthOf 9 = .ok (.if_icmp .ne 5, 3) := by decide +kernel
theorem dX5_worthOf_12 : decode cX5_worthOf 12 = .ok (.iconst 0, 1) := by decide +kernel
theorem dX5_worthOf_13 : decode cX5_worthOf 13 = .ok (.ireturn, 1) := by decide +kernel
theorem dX5_worthOf_14 : decode cX5_worthOf 14 = .ok (.aload_n 0, 1) := by decide +kernel
theorem dX5_worthOf_15 : decode cX5_worthOf 15 = .ok (.aload_n 1, 1) := by decide +kernel
theorem dX5_worthOf_16 : decode cX5_worthOf 16 = .ok (.aload_n 1, 1) := by decide +kernel
theorem dX5_worthOf_17 : decode cX5_worthOf 17 = .ok (.getfield 108, 3) := by decide +kernel
theorem dX5_worthOf_20 : decode cX5_worthOf 20 = .ok (.invokevirtual 94, 3) := by decide +kernel
theorem dX5_worthOf_23 : decode cX5_worthOf 23 = .ok (.iconst 0, 1) := by decide +kernel
theorem dX5_worthOf_24 : decode cX5_worthOf 24 = .ok (.istore_n 2, 1) := by decide +kernel
theorem dX5_worthOf_25 : decode cX5_worthOf 25 = .ok (.iconst 0, 1) := by decide +kernel
theorem dX5_worthOf_26 : decode cX5_worthOf 26 = .ok (.istore_n 3, 1) := by decide +kernel
theorem dX5_worthOf_27 : decode cX5_worthOf 27 = .ok (.iload_n 3, 1) := by decide +kernel
theorem dX5_worthOf_28 : decode cX5_worthOf 28 = .ok (.aload_n 0, 1) := by decide +kernel
theorem dX5_worthOf_29 : decode cX5_worthOf 29 = .ok (.getfield 22, 3) := by decide +kernel
theorem dX5_worthOf_32 : decode cX5_worthOf 32 = .ok (.arraylength, 1) := by decide +kernel
theorem dX5_worthOf_33 : decode cX5_worthOf 33 = .ok (.if_icmp .ge 30, 3) := by decide +kernel
theorem dX5_worthOf_36 : decode cX5_worthOf 36 = .ok (.iload_n 2, 1) := by decide +kernel
theorem dX5_worthOf_37 : decode cX5_worthOf 37 = .ok (.aload_n 0, 1) := by decide +kernel
theorem dX5_worthOf_38 : decode cX5_worthOf 38 = .ok (.getfield 22, 3) := by decide +kernel
theorem dX5_worthOf_41 : decode cX5_worthOf 41 = .ok (.iload_n 3, 1) := by decide +kernel
theorem dX5_worthOf_42 : decode cX5_worthOf 42 = .ok (.iaload, 1) := by decide +kernel
theorem dX5_worthOf_43 : decode cX5_worthOf 43 = .ok (.aload_n 1, 1) := by decide +kernel
theorem dX5_worthOf_44 : decode cX5_worthOf 44 = .ok (.getfield 108, 3) := by decide +kernel
theorem dX5_worthOf_47 : decode cX5_worthOf 47 = .ok (.if_icmp .ne 7, 3) := by decide +kernel
theorem dX5_worthOf_50 : decode cX5_worthOf 50 = .ok (.iconst 1, 1) := by decide +kernel
theorem dX5_worthOf_51 : decode cX5_worthOf 51 = .ok (.goto 4, 3) := by decide +kernel
theorem dX5_worthOf_54 : decode cX5_worthOf 54 = .ok (.iconst 0, 1) := by decide +kernel
theorem dX5_worthOf_55 : decode cX5_worthOf 55 = .ok (.iadd, 1) := by decide +kernel
theorem dX5_worthOf_56 : decode cX5_worthOf 56 = .ok (.istore_n 2, 1) := by decide +kernel
theorem dX5_worthOf_57 : decode cX5_worthOf 57 = .ok (.iinc 3 1, 3) := by decide +kernel
theorem dX5_worthOf_60 : decode cX5_worthOf 60 = .ok (.goto (-33), 3) := by decide +kernel
theorem dX5_worthOf_63 : decode cX5_worthOf 63 = .ok (.iload_n 2, 1) := by decide +kernel
theorem dX5_worthOf_64 : decode cX5_worthOf 64 = .ok (.ireturn, 1) := by decide +kernel
theorem dX5_noteRightLetters_0 : decode cX5_noteRightLetters 0 = .ok (.iconst 0, 1) := by decide +kernel
theorem dX5_noteRightLetters_1 : decode cX5_noteRightLetters 1 = .ok (.istore 4, 2) := by decide +kernel
theorem dX5_noteRightLetters_3 : decode cX5_noteRightLetters 3 = .ok (.iload 4, 2) := by decide +kernel
theorem dX5_noteRightLetters_5 : decode cX5_noteRightLetters 5 = .ok (.aload_n 0, 1) := by decide +kernel
theorem dX5_noteRightLetters_6 : decode cX5_noteRightLetters 6 = .ok (.getfield 26, 3) := by decide +kernel
theorem dX5_noteRightLetters_9 : decode cX5_noteRightLetters 9 = .ok (.arraylength, 1) := by decide +kernel
theorem dX5_noteRightLetters_10 : decode cX5_noteRightLetters 10 = .ok (.if_icmp .ge 56, 3) := by decide +kernel
theorem dX5_noteRightLetters_13 : decode cX5_noteRightLetters 13 = .ok (.aload_n 0, 1) := by decide +kernel
theorem dX5_noteRightLetters_14 : decode cX5_noteRightLetters 14 = .ok (.getfield 26, 3) := by decide +kernel
theorem dX5_noteRightLetters_17 : decode cX5_noteRightLetters 17 = .ok (.iload 4, 2) := by decide +kernel
theorem dX5_noteRightLetters_19 : decode cX5_noteRightLetters 19 = .ok (.iconst 0, 1) := by decide +kernel
theorem dX5_noteRightLetters_20 : decode cX5_noteRightLetters 20 = .ok (.iastore, 1) := by decide +kernel
theorem dX5_noteRightLetters_21 : decode cX5_noteRightLetters 21 = .ok (.aload_n 0, 1) := by decide +kernel
theorem dX5_noteRightLetters_22 : decode cX5_noteRightLetters 22 = .ok (.getfield 9, 3) := by decide +kernel
theorem dX5_noteRightLetters_25 : decode cX5_noteRightLetters 25 = .ok (.iload 4, 2) := by decide +kernel
theorem dX5_noteRightLetters_27 : decode cX5_noteRightLetters 27 = .ok (.invokevirtual 101, 3) := by decide +kernel
theorem dX5_noteRightLetters_30 : decode cX5_noteRightLetters 30 = .ok (.astore 5, 2) := by decide +kernel
theorem dX5_noteRightLetters_32 : decode cX5_noteRightLetters 32 = .ok (.aload 5, 2) := by decide +kernel
theorem dX5_noteRightLetters_34 : decode cX5_noteRightLetters 34 = .ok (.ifnull 26, 3) := by decide +kernel
theorem dX5_noteRightLetters_37 : decode cX5_noteRightLetters 37 = .ok (.aload_n 0, 1) := by decide +kernel
theorem dX5_noteRightLetters_38 : decode cX5_noteRightLetters 38 = .ok (.getfield 18, 3) := by decide +kernel
theorem dX5_noteRightLetters_41 : decode cX5_noteRightLetters 41 = .ok (.aload 5, 2) := by decide +kernel
theorem dX5_noteRightLetters_43 : decode cX5_noteRightLetters 43 = .ok (.invokevirtual 47, 3) := by decide +kernel
theorem dX5_noteRightLetters_46 : decode cX5_noteRightLetters 46 = .ok (.aload_n 0, 1) := by decide +kernel
theorem dX5_noteRightLetters_47 : decode cX5_noteRightLetters 47 = .ok (.getfield 26, 3) := by decide +kernel
theorem dX5_noteRightLetters_50 : decode cX5_noteRightLetters 50 = .ok (.iload 4, 2) := by decide +kernel
theorem dX5_noteRightLetters_52 : decode cX5_noteRightLetters 52 = .ok (.aload_n 0, 1) := by decide +kernel
theorem dX5_noteRightLetters_53 : decode cX5_noteRightLetters 53 = .ok (.aload_n 1, 1) := by decide +kernel
theorem dX5_noteRightLetters_54 : decode cX5_noteRightLetters 54 = .ok (.iload_n 2, 1) := by decide +kernel
theorem dX5_noteRightLetters_55 : decode cX5_noteRightLetters 55 = .ok (.iload_n 3, 1) := by decide +kernel
theorem dX5_noteRightLetters_56 : decode cX5_noteRightLetters 56 = .ok (.invokevirtual 124, 3) := by decide +kernel
theorem dX5_noteRightLetters_59 : decode cX5_noteRightLetters 59 = .ok (.iastore, 1) := by decide +kernel
theorem dX5_noteRightLetters_60 : decode cX5_noteRightLetters 60 = .ok (.iinc 4 1, 3) := by decide +kernel
theorem dX5_noteRightLetters_63 : decode cX5_noteRightLetters 63 = .ok (.goto (-60), 3) := by decide +kernel
theorem dX5_noteRightLetters_66 : decode cX5_noteRightLetters 66 = .ok (.return_, 1) := by decide +kernel
theorem dX5_lettersRightOnGlass_0 : decode cX5_lettersRightOnGlass 0 = .ok (.iconst 0, 1) := by decide +kernel
theorem dX5_lettersRightOnGlass_1 : decode cX5_lettersRightOnGlass 1 = .ok (.istore 4, 2) := by decide +kernel
theorem dX5_lettersRightOnGlass_3 : decode cX5_lettersRightOnGlass 3 = .ok (.iconst 0, 1) := by decide +kernel
theorem dX5_lettersRightOnGlass_4 : decode cX5_lettersRightOnGlass 4 = .ok (.istore 5, 2) := by decide +kernel
theorem dX5_lettersRightOnGlass_6 : decode cX5_lettersRightOnGlass 6 = .ok (.iload 5, 2) := by decide +kernel
theorem dX5_lettersRightOnGlass_8 : decode cX5_lettersRightOnGlass 8 = .ok (.iload_n 2, 1) := by decide +kernel
theorem dX5_lettersRightOnGlass_9 : decode cX5_lettersRightOnGlass 9 = .ok (.if_icmp .ge 52, 3) := by decide +kernel
theorem dX5_lettersRightOnGlass_12 : decode cX5_lettersRightOnGlass 12 = .ok (.aload_n 1, 1) := by decide +kernel
theorem dX5_lettersRightOnGlass_13 : decode cX5_lettersRightOnGlass 13 = .ok (.iload 5, 2) := by decide +kernel
theorem dX5_lettersRightOnGlass_15 : decode cX5_lettersRightOnGlass 15 = .ok (.invokevirtual 128, 3) := by decide +kernel
theorem dX5_lettersRightOnGlass_18 : decode cX5_lettersRightOnGlass 18 = .ok (.istore 6, 2) := by decide +kernel
theorem dX5_lettersRightOnGlass_20 : decode cX5_lettersRightOnGlass 20 = .ok (.aload_n 0, 1) := by decide +kernel
theorem dX5_lettersRightOnGlass_21 : decode cX5_lettersRightOnGlass 21 = .ok (.getfield 9, 3) := by decide +kernel
theorem dX5_lettersRightOnGlass_24 : decode cX5_lettersRightOnGlass 24 = .ok (.aload_n 0, 1) := by decide +kernel
theorem dX5_lettersRightOnGlass_25 : decode cX5_lettersRightOnGlass 25 = .ok (.iload 6, 2) := by decide +kernel
theorem dX5_lettersRightOnGlass_27 : decode cX5_lettersRightOnGlass 27 = .ok (.iload_n 3, 1) := by decide +kernel
theorem dX5_lettersRightOnGlass_28 : decode cX5_lettersRightOnGlass 28 = .ok (.aload_n 0, 1) := by decide +kernel
theorem dX5_lettersRightOnGlass_29 : decode cX5_lettersRightOnGlass 29 = .ok (.getfield 9, 3) := by decide +kernel
theorem dX5_lettersRightOnGlass_32 : decode cX5_lettersRightOnGlass 32 = .ok (.getfield 51, 3) := by decide +kernel
theorem dX5_lettersRightOnGlass_35 : decode cX5_lettersRightOnGlass 35 = .ok (.invokevirtual 56, 3) := by decide +kernel
theorem dX5_lettersRightOnGlass_38 : decode cX5_lettersRightOnGlass 38 = .ok (.invokevirtual 84, 3) := by decide +kernel
theorem dX5_lettersRightOnGlass_41 : decode cX5_lettersRightOnGlass 41 = .ok (.iload 6, 2) := by decide +kernel
theorem dX5_lettersRightOnGlass_43 : decode cX5_lettersRightOnGlass 43 = .ok (.if_icmp .ne 12, 3) := by decide +kernel
theorem dX5_lettersRightOnGlass_46 : decode cX5_lettersRightOnGlass 46 = .ok (.iload 4, 2) := by decide +kernel
theorem dX5_lettersRightOnGlass_48 : decode cX5_lettersRightOnGlass 48 = .ok (.iconst 1, 1) := by decide +kernel
theorem dX5_lettersRightOnGlass_49 : decode cX5_lettersRightOnGlass 49 = .ok (.iload 6, 2) := by decide +kernel
theorem dX5_lettersRightOnGlass_51 : decode cX5_lettersRightOnGlass 51 = .ok (.ishl, 1) := by decide +kernel
theorem dX5_lettersRightOnGlass_52 : decode cX5_lettersRightOnGlass 52 = .ok (.ior, 1) := by decide +kernel
theorem dX5_lettersRightOnGlass_53 : decode cX5_lettersRightOnGlass 53 = .ok (.istore 4, 2) := by decide +kernel
theorem dX5_lettersRightOnGlass_55 : decode cX5_lettersRightOnGlass 55 = .ok (.iinc 5 1, 3) := by decide +kernel
theorem dX5_lettersRightOnGlass_58 : decode cX5_lettersRightOnGlass 58 = .ok (.goto (-52), 3) := by decide +kernel
theorem dX5_lettersRightOnGlass_61 : decode cX5_lettersRightOnGlass 61 = .ok (.iload 4, 2) := by decide +kernel
theorem dX5_lettersRightOnGlass_63 : decode cX5_lettersRightOnGlass 63 = .ok (.ireturn, 1) := by decide +kernel
theorem dX5_choosePanesFor_0 : decode cX5_choosePanesFor 0 = .ok (.aload_n 0, 1) := by decide +kernel
theorem dX5_choosePanesFor_1 : decode cX5_choosePanesFor 1 = .ok (.iconst 0, 1) := by decide +kernel
theorem dX5_choosePanesFor_2 : decode cX5_choosePanesFor 2 = .ok (.putfield 32, 3) := by decide +kernel
theorem dX5_choosePanesFor_5 : decode cX5_choosePanesFor 5 = .ok (.aload_n 0, 1) := by decide +kernel
theorem dX5_choosePanesFor_6 : decode cX5_choosePanesFor 6 = .ok (.iconst (-1), 1) := by decide +kernel
theorem dX5_choosePanesFor_7 : decode cX5_choosePanesFor 7 = .ok (.putfield 36, 3) := by decide +kernel
theorem dX5_choosePanesFor_10 : decode cX5_choosePanesFor 10 = .ok (.iconst 1, 1) := by decide +kernel
theorem dX5_choosePanesFor_11 : decode cX5_choosePanesFor 11 = .ok (.aload_n 0, 1) := by decide +kernel
theorem dX5_choosePanesFor_12 : decode cX5_choosePanesFor 12 = .ok (.getfield 9, 3) := by decide +kernel
theorem dX5_choosePanesFor_15 : decode cX5_choosePanesFor 15 = .ok (.getfield 98, 3) := by decide +kernel
theorem dX5_choosePanesFor_18 : decode cX5_choosePanesFor 18 = .ok (.ishl, 1) := by decide +kernel
theorem dX5_choosePanesFor_19 : decode cX5_choosePanesFor 19 = .ok (.iconst 1, 1) := by decide +kernel
theorem dX5_choosePanesFor_20 : decode cX5_choosePanesFor 20 = .ok (.isub, 1) := by decide +kernel
theorem dX5_choosePanesFor_21 : decode cX5_choosePanesFor 21 = .ok (.istore_n 3, 1) := by decide +kernel
theorem dX5_choosePanesFor_22 : decode cX5_choosePanesFor 22 = .ok (.iload_n 3, 1) := by decide +kernel
theorem dX5_choosePanesFor_23 : decode cX5_choosePanesFor 23 = .ok (.ifCond .lt 45, 3) := by decide +kernel
theorem dX5_choosePanesFor_26 : decode cX5_choosePanesFor 26 = .ok (.iload_n 3, 1) := by decide +kernel
theorem dX5_choosePanesFor_27 : decode cX5_choosePanesFor 27 = .ok (.invokestatic 133, 3) := by decide +kernel
theorem dX5_choosePanesFor_30 : decode cX5_choosePanesFor 30 = .ok (.iload_n 2, 1) := by decide +kernel
theorem dX5_choosePanesFor_31 : decode cX5_choosePanesFor 31 = .ok (.if_icmp .ne 31, 3) := by decide +kernel
theorem dX5_choosePanesFor_34 : decode cX5_choosePanesFor 34 = .ok (.aload_n 0, 1) := by decide +kernel
theorem dX5_choosePanesFor_35 : decode cX5_choosePanesFor 35 = .ok (.iload_n 3, 1) := by decide +kernel
theorem dX5_choosePanesFor_36 : decode cX5_choosePanesFor 36 = .ok (.aload_n 1, 1) := by decide +kernel
theorem dX5_choosePanesFor_37 : decode cX5_choosePanesFor 37 = .ok (.invokevirtual 138, 3) := by decide +kernel
theorem dX5_choosePanesFor_40 : decode cX5_choosePanesFor 40 = .ok (.istore 4, 2) := by decide +kernel
theorem dX5_choosePanesFor_42 : decode cX5_choosePanesFor 42 = .ok (.iload 4, 2) := by decide +kernel
theorem dX5_choosePanesFor_44 : decode cX5_choosePanesFor 44 = .ok (.aload_n 0, 1) := by decide +kernel
theorem dX5_choosePanesFor_45 : decode cX5_choosePanesFor 45 = .ok (.getfield 36, 3) := by decide +kernel
theorem dX5_choosePanesFor_48 : decode cX5_choosePanesFor 48 = .ok (.if_icmp .le 14, 3) := by decide +kernel
theorem dX5_choosePanesFor_51 : decode cX5_choosePanesFor 51 = .ok (.aload_n 0, 1) := by decide +kernel
theorem dX5_choosePanesFor_52 : decode cX5_choosePanesFor 52 = .ok (.iload 4, 2) := by decide +kernel
theorem dX5_choosePanesFor_54 : decode cX5_choosePanesFor 54 = .ok (.putfield 36, 3) := by decide +kernel
theorem dX5_choosePanesFor_57 : decode cX5_choosePanesFor 57 = .ok (.aload_n 0, 1) := by decide +kernel
theorem dX5_choosePanesFor_58 : decode cX5_choosePanesFor 58 = .ok (.iload_n 3, 1) := by decide +kernel
theorem dX5_choosePanesFor_59 : decode cX5_choosePanesFor 59 = .ok (.putfield 32, 3) := by decide +kernel
theorem dX5_choosePanesFor_62 : decode cX5_choosePanesFor 62 = .ok (.iinc 3 (-1), 3) := by decide +kernel
theorem dX5_choosePanesFor_65 : decode cX5_choosePanesFor 65 = .ok (.goto (-43), 3) := by decide +kernel
theorem dX5_choosePanesFor_68 : decode cX5_choosePanesFor 68 = .ok (.return_, 1) := by decide +kernel
theorem dX5_isChosen_0 : decode cX5_isChosen 0 = .ok (.iload_n 1, 1) := by decide +kernel
theorem dX5_isChosen_1 : decode cX5_isChosen 1 = .ok (.aload_n 0, 1) := by decide +kernel
theorem dX5_isChosen_2 : decode cX5_isChosen 2 = .ok (.getfield 9, 3) := by decide +kernel
theorem dX5_isChosen_5 : decode cX5_isChosen 5 = .ok (.getfield 98, 3) := by decide +kernel
theorem dX5_isChosen_8 : decode cX5_isChosen 8 = .ok (.iconst 1, 1) := by decide +kernel
theorem dX5_isChosen_9 : decode cX5_isChosen 9 = .ok (.isub, 1) := by decide +kernel
theorem dX5_isChosen_10 : decode cX5_isChosen 10 = .ok (.iload_n 2, 1) := by decide +kernel
theorem dX5_isChosen_11 : decode cX5_isChosen 11 = .ok (.isub, 1) := by decide +kernel
theorem dX5_isChosen_12 : decode cX5_isChosen 12 = .ok (.ishr, 1) := by decide +kernel
theorem dX5_isChosen_13 : decode cX5_isChosen 13 = .ok (.iconst 1, 1) := by decide +kernel
theorem dX5_isChosen_14 : decode cX5_isChosen 14 = .ok (.iand, 1) := by decide +kernel
theorem dX5_isChosen_15 : decode cX5_isChosen 15 = .ok (.iconst 1, 1) := by decide +kernel
theorem dX5_isChosen_16 : decode cX5_isChosen 16 = .ok (.if_icmp .ne 7, 3) := by decide +kernel
theorem dX5_isChosen_19 : decode cX5_isChosen 19 = .ok (.iconst 1, 1) := by decide +kernel
theorem dX5_isChosen_20 : decode cX5_isChosen 20 = .ok (.goto 4, 3) := by decide +kernel
theorem dX5_isChosen_23 : decode cX5_isChosen 23 = .ok (.iconst 0, 1) := by decide +kernel
theorem dX5_isChosen_24 : decode cX5_isChosen 24 = .ok (.ireturn, 1) := by decide +kernel
theorem dX5_rightBy_0 : decode cX5_rightBy 0 = .ok (.iconst 0, 1) := by decide +kernel
theorem dX5_rightBy_1 : decode cX5_rightBy 1 = .ok (.istore_n 3, 1) := by decide +kernel
theorem dX5_rightBy_2 : decode cX5_rightBy 2 = .ok (.iconst 0, 1) := by decide +kernel
theorem dX5_rightBy_3 : decode cX5_rightBy 3 = .ok (.istore 4, 2) := by decide +kernel
theorem dX5_rightBy_5 : decode cX5_rightBy 5 = .ok (.iconst 0, 1) := by decide +kernel
theorem dX5_rightBy_6 : decode cX5_rightBy 6 = .ok (.istore 5, 2) := by decide +kernel
theorem dX5_rightBy_8 : decode cX5_rightBy 8 = .ok (.iload 5, 2) := by decide +kernel
theorem dX5_rightBy_10 : decode cX5_rightBy 10 = .ok (.aload_n 0, 1) := by decide +kernel
theorem dX5_rightBy_11 : decode cX5_rightBy 11 = .ok (.getfield 9, 3) := by decide +kernel
theorem dX5_rightBy_14 : decode cX5_rightBy 14 = .ok (.getfield 98, 3) := by decide +kernel
theorem dX5_rightBy_17 : decode cX5_rightBy 17 = .ok (.if_icmp .ge 51, 3) := by decide +kernel
theorem dX5_rightBy_20 : decode cX5_rightBy 20 = .ok (.iload 5, 2) := by decide +kernel
theorem dX5_rightBy_22 : decode cX5_rightBy 22 = .ok (.aload_n 0, 1) := by decide +kernel
theorem dX5_rightBy_23 : decode cX5_rightBy 23 = .ok (.getfield 26, 3) := by decide +kernel
theorem dX5_rightBy_26 : decode cX5_rightBy 26 = .ok (.arraylength, 1) := by decide +kernel
theorem dX5_rightBy_27 : decode cX5_rightBy 27 = .ok (.if_icmp .ge 41, 3) := by decide +kernel
theorem dX5_rightBy_30 : decode cX5_rightBy 30 = .ok (.aload_n 0, 1) := by decide +kernel
theorem dX5_rightBy_31 : decode cX5_rightBy 31 = .ok (.iload_n 1, 1) := by decide +kernel
theorem dX5_rightBy_32 : decode cX5_rightBy 32 = .ok (.iload 5, 2) := by decide +kernel
theorem dX5_rightBy_34 : decode cX5_rightBy 34 = .ok (.invokevirtual 142, 3) := by decide +kernel
theorem dX5_rightBy_37 : decode cX5_rightBy 37 = .ok (.ifCond .eq 25, 3) := by decide +kernel
theorem dX5_rightBy_40 : decode cX5_rightBy 40 = .ok (.iload_n 3, 1) := by decide +kernel
theorem dX5_rightBy_41 : decode cX5_rightBy 41 = .ok (.aload_n 0, 1) := by decide +kernel
theorem dX5_rightBy_42 : decode cX5_rightBy 42 = .ok (.getfield 26, 3) := by decide +kernel
theorem dX5_rightBy_45 : decode cX5_rightBy 45 = .ok (.iload 5, 2) := by decide +kernel
theorem dX5_rightBy_47 : decode cX5_rightBy 47 = .ok (.iaload, 1) := by decide +kernel
theorem dX5_rightBy_48 : decode cX5_rightBy 48 = .ok (.aload_n 2, 1) := by decide +kernel
theorem dX5_rightBy_49 : decode cX5_rightBy 49 = .ok (.iload 4, 2) := by decide +kernel
theorem dX5_rightBy_51 : decode cX5_rightBy 51 = .ok (.invokevirtual 128, 3) := by decide +kernel
theorem dX5_rightBy_54 : decode cX5_rightBy 54 = .ok (.ishr, 1) := by decide +kernel
theorem dX5_rightBy_55 : decode cX5_rightBy 55 = .ok (.iconst 1, 1) := by decide +kernel
theorem dX5_rightBy_56 : decode cX5_rightBy 56 = .ok (.iand, 1) := by decide +kernel
theorem dX5_rightBy_57 : decode cX5_rightBy 57 = .ok (.iadd, 1) := by decide +kernel
theorem dX5_rightBy_58 : decode cX5_rightBy 58 = .ok (.istore_n 3, 1) := by decide +kernel
theorem dX5_rightBy_59 : decode cX5_rightBy 59 = .ok (.iinc 4 1, 3) := by decide +kernel
theorem dX5_rightBy_62 : decode cX5_rightBy 62 = .ok (.iinc 5 1, 3) := by decide +kernel
theorem dX5_rightBy_65 : decode cX5_rightBy 65 = .ok (.goto (-57), 3) := by decide +kernel
theorem dX5_rightBy_68 : decode cX5_rightBy 68 = .ok (.iload_n 3, 1) := by decide +kernel
theorem dX5_rightBy_69 : decode cX5_rightBy 69 = .ok (.ireturn, 1) := by decide +kernel
theorem dX5_chosenPane_0 : decode cX5_chosenPane 0 = .ok (.iconst 0, 1) := by decide +kernel
theorem dX5_chosenPane_1 : decode cX5_chosenPane 1 = .ok (.istore_n 2, 1) := by decide +kernel
theorem dX5_chosenPane_2 : decode cX5_chosenPane 2 = .ok (.iconst 0, 1) := by decide +kernel
theorem dX5_chosenPane_3 : decode cX5_chosenPane 3 = .ok (.istore_n 3, 1) := by decide +kernel
theorem dX5_chosenPane_4 : decode cX5_chosenPane 4 = .ok (.iload_n 3, 1) := by decide +kernel
theorem dX5_chosenPane_5 : decode cX5_chosenPane 5 = .ok (.aload_n 0, 1) := by decide +kernel
theorem dX5_chosenPane_6 : decode cX5_chosenPane 6 = .ok (.getfield 9, 3) := by decide +kernel
theorem dX5_chosenPane_9 : decode cX5_chosenPane 9 = .ok (.getfield 98, 3) := by decide +kernel
theorem dX5_chosenPane_12 : decode cX5_chosenPane 12 = .ok (.if_icmp .ge 31, 3) := by decide +kernel
theorem dX5_chosenPane_15 : decode cX5_chosenPane 15 = .ok (.aload_n 0, 1) := by decide +kernel
theorem dX5_chosenPane_16 : decode cX5_chosenPane 16 = .ok (.aload_n 0, 1) := by decide +kernel
theorem dX5_chosenPane_17 : decode cX5_chosenPane 17 = .ok (.getfield 32, 3) := by decide +kernel
theorem dX5_chosenPane_20 : decode cX5_chosenPane 20 = .ok (.iload_n 3, 1) := by decide +kernel
theorem dX5_chosenPane_21 : decode cX5_chosenPane 21 = .ok (.invokevirtual 142, 3) := by decide +kernel
theorem dX5_chosenPane_24 : decode cX5_chosenPane 24 = .ok (.ifCond .eq 13, 3) := by decide +kernel
theorem dX5_chosenPane_27 : decode cX5_chosenPane 27 = .ok (.iload_n 2, 1) := by decide +kernel
theorem dX5_chosenPane_28 : decode cX5_chosenPane 28 = .ok (.iload_n 1, 1) := by decide +kernel
theorem dX5_chosenPane_29 : decode cX5_chosenPane 29 = .ok (.if_icmp .ne 5, 3) := by decide +kernel
theorem dX5_chosenPane_32 : decode cX5_chosenPane 32 = .ok (.iload_n 3, 1) := by decide +kernel
theorem dX5_chosenPane_33 : decode cX5_chosenPane 33 = .ok (.ireturn, 1) := by decide +kernel
theorem dX5_chosenPane_34 : decode cX5_chosenPane 34 = .ok (.iinc 2 1, 3) := by decide +kernel
theorem dX5_chosenPane_37 : decode cX5_chosenPane 37 = .ok (.iinc 3 1, 3) := by decide +kernel
theorem dX5_chosenPane_40 : decode cX5_chosenPane 40 = .ok (.goto (-36), 3) := by decide +kernel
theorem dX5_chosenPane_43 : decode cX5_chosenPane 43 = .ok (.iconst (-1), 1) := by decide +kernel
theorem dX5_chosenPane_44 : decode cX5_chosenPane 44 = .ok (.ireturn, 1) := by decide +kernel
theorem dX6_init_0 : decode cX6_init 0 = .ok (.aload_n 0, 1) := by decide +kernel
theorem dX6_init_1 : decode cX6_init 1 = .ok (.invokespecial 1, 3) := by decide +kernel
theorem dX6_init_4 : decode cX6_init 4 = .ok (.aload_n 0, 1) := by decide +kernel
theorem dX6_init_5 : decode cX6_init 5 = .ok (.new 7, 3) := by decide +kernel
theorem dX6_init_8 : decode cX6_init 8 = .ok (.dup, 1) := by decide +kernel
theorem dX6_init_9 : decode cX6_init 9 = .ok (.invokespecial 9, 3) := by decide +kernel
theorem dX6_init_12 : decode cX6_init 12 = .ok (.putfield 10, 3) := by decide +kernel
theorem dX6_init_15 : decode cX6_init 15 = .ok (.aload_n 0, 1) := by decide +kernel
theorem dX6_init_16 : decode cX6_init 16 = .ok (.new 7, 3) := by decide +kernel
theorem dX6_init_19 : decode cX6_init 19 = .ok (.dup, 1) := by decide +kernel
theorem dX6_init_20 : decode cX6_init 20 = .ok (.invokespecial 9, 3) := by decide +kernel
theorem dX6_init_23 : decode cX6_init 23 = .ok (.putfield 16, 3) := by decide +kernel
theorem dX6_init_26 : decode cX6_init 26 = .ok (.aload_n 0, 1) := by decide +kernel
theorem dX6_init_27 : decode cX6_init 27 = .ok (.new 7, 3) := by decide +kernel
theorem dX6_init_30 : decode cX6_init 30 = .ok (.dup, 1) := by decide +kernel
theorem dX6_init_31 : decode cX6_init 31 = .ok (.invokespecial 9, 3) := by decide +kernel
theorem dX6_init_34 : decode cX6_init 34 = .ok (.putfield 19, 3) := by decide +kernel
theorem dX6_init_37 : decode cX6_init 37 = .ok (.aload_n 0, 1) := by decide +kernel
theorem dX6_init_38 : decode cX6_init 38 = .ok (.new 22, 3) := by decide +kernel
theorem dX6_init_41 : decode cX6_init 41 = .ok (.dup, 1) := by decide +kernel
theorem dX6_init_42 : decode cX6_init 42 = .ok (.aload_n 0, 1) := by decide +kernel
theorem dX6_init_43 : decode cX6_init 43 = .ok (.getfield 10, 3) := by decide +kernel
theorem dX6_init_46 : decode cX6_init 46 = .ok (.invokespecial 24, 3) := by decide +kernel
theorem dX6_init_49 : decode cX6_init 49 = .ok (.putfield 27, 3) := by decide +kernel
theorem dX6_init_52 : decode cX6_init 52 = .ok (.aload_n 0, 1) := by decide +kernel
theorem dX6_init_53 : decode cX6_init 53 = .ok (.bipush 8, 2) := by decide +kernel
theorem dX6_init_55 : decode cX6_init 55 = .ok (.anewarray 31, 3) := by decide +kernel
theorem dX6_init_58 : decode cX6_init 58 = .ok (.putfield 33, 3) := by decide +kernel
theorem dX6_init_61 : decode cX6_init 61 = .ok (.iconst 0, 1) := by decide +kernel
theorem dX6_init_62 : decode cX6_init 62 = .ok (.istore_n 1, 1) := by decide +kernel
theorem dX6_init_63 : decode cX6_init 63 = .ok (.iload_n 1, 1) := by decide +kernel
theorem dX6_init_64 : decode cX6_init 64 = .ok (.aload_n 0, 1) := by decide +kernel
theorem dX6_init_65 : decode cX6_init 65 = .ok (.getfield 33, 3) := by decide +kernel
theorem dX6_init_68 : decode cX6_init 68 = .ok (.arraylength, 1) := by decide +kernel
theorem dX6_init_69 : decode cX6_init 69 = .ok (.if_icmp .ge 22, 3) := by decide +kernel
theorem dX6_init_72 : decode cX6_init 72 = .ok (.aload_n 0, 1) := by decide +kernel
theorem dX6_init_73 : decode cX6_init 73 = .ok (.getfield 33, 3) := by decide +kernel
theorem dX6_init_76 : decode cX6_init 76 = .ok (.iload_n 1, 1) := by decide +kernel
theorem dX6_init_77 : decode cX6_init 77 = .ok (.new 31, 3) := by decide +kernel
theorem dX6_init_80 : decode cX6_init 80 = .ok (.dup, 1) := by decide +kernel
theorem dX6_init_81 : decode cX6_init 81 = .ok (.invokespecial 37, 3) := by decide +kernel
theorem dX6_init_84 : decode cX6_init 84 = .ok (.aastore, 1) := by decide +kernel
theorem dX6_init_85 : decode cX6_init 85 = .ok (.iinc 1 1, 3) := by decide +kernel
theorem dX6_init_88 : decode cX6_init 88 = .ok (.goto (-25), 3) := by decide +kernel
theorem dX6_init_91 : decode cX6_init 91 = .ok (.aload_n 0, 1) := by decide +kernel
theorem dX6_init_92 : decode cX6_init 92 = .ok (.new 38, 3) := by decide +kernel
theorem dX6_init_95 : decode cX6_init 95 = .ok (.dup, 1) := by decide +kernel
theorem dX6_init_96 : decode cX6_init 96 = .ok (.invokespecial 40, 3) := by decide +kernel
theorem dX6_init_99 : decode cX6_init 99 = .ok (.putfield 41, 3) := by decide +kernel
theorem dX6_init_102 : decode cX6_init 102 = .ok (.aload_n 0, 1) := by decide +kernel
theorem dX6_init_103 : decode cX6_init 103 = .ok (.new 45, 3) := by decide +kernel
theorem dX6_init_106 : decode cX6_init 106 = .ok (.dup, 1) := by decide +kernel
theorem dX6_init_107 : decode cX6_init 107 = .ok (.invokespecial 47, 3) := by decide +kernel
theorem dX6_init_110 : decode cX6_init 110 = .ok (.putfield 48, 3) := by decide +kernel
theorem dX6_init_113 : decode cX6_init 113 = .ok (.aload_n 0, 1) := by decide +kernel
theorem dX6_init_114 : decode cX6_init 114 = .ok (.bipush 8, 2) := by decide +kernel
theorem dX6_init_116 : decode cX6_init 116 = .ok (.newarray .int, 2) := by decide +kernel
theorem dX6_init_118 : decode cX6_init 118 = .ok (.putfield 52, 3) := by decide +kernel
theorem dX6_init_121 : decode cX6_init 121 = .ok (.aload_n 0, 1) := by decide +kernel
theorem dX6_init_122 : decode cX6_init 122 = .ok (.iconst 0, 1) := by decide +kernel
theorem dX6_init_123 : decode cX6_init 123 = .ok (.putfield 56, 3) := by decide +kernel
theorem dX6_init_126 : decode cX6_init 126 = .ok (.return_, 1) := by decide +kernel
theorem dX6_row_0 : decode cX6_row 0 = .ok (.aload_n 0, 1) := by decide +kernel
theorem dX6_row_1 : decode cX6_row 1 = .ok (.iload_n 1, 1) := by decide +kernel
theorem dX6_row_2 : decode cX6_row 2 = .ok (.invokevirtual 60, 3) := by decide +kernel
theorem dX6_row_5 : decode cX6_row 5 = .ok (.astore 4, 2) := by decide +kernel
theorem dX6_row_7 : decode cX6_row 7 = .ok (.aload 4, 2) := by decide +kernel
theorem dX6_row_9 : decode cX6_row 9 = .ok (.ifnonnull 9, 3) := by decide +kernel
theorem dX6_row_12 : decode cX6_row 12 = .ok (.aload_n 0, 1) := by decide +kernel
theorem dX6_row_13 : decode cX6_row 13 = .ok (.iconst (-1), 1) := by decide +kernel
theorem dX6_row_14 : decode cX6_row 14 = .ok (.invokevirtual 64, 3) := by decide +kernel
theorem dX6_row_17 : decode cX6_row 17 = .ok (.ireturn, 1) := by decide +kernel
theorem dX6_row_18 : decode cX6_row 18 = .ok (.iload_n 3, 1) := by decide +kernel
theorem dX6_row_19 : decode cX6_row 19 = .ok (.ifCond .ge 10, 3) := by decide +kernel
theorem dX6_row_22 : decode cX6_row 22 = .ok (.aload_n 0, 1) := by decide +kernel
theorem dX6_row_23 : decode cX6_row 23 = .ok (.bipush (-4), 2) := by decide +kernel
theorem dX6_row_25 : decode cX6_row 25 = .ok (.invokevirtual 64, 3) := by decide +kernel
theorem dX6_row_28 : decode cX6_row 28 = .ok (.ireturn, 1) := by decide +kernel
theorem dX6_row_29 : decode cX6_row 29 = .ok (.iload_n 2, 1) := by decide +kernel
theorem dX6_row_30 : decode cX6_row 30 = .ok (.ifCond .lt 8, 3) := by decide +kernel
theorem dX6_row_33 : decode cX6_row 33 = .ok (.iload_n 2, 1) := by decide +kernel
theorem dX6_row_34 : decode cX6_row 34 = .ok (.iconst 3, 1) := by decide +kernel
theorem dX6_row_35 : decode cX6_row 35 = .ok (.if_icmp .le 10, 3) := by decide +kernel
theorem dX6_row_38 : decode cX6_row 38 = .ok (.aload_n 0, 1) := by decide +kernel
theorem dX6_row_39 : decode cX6_row 39 = .ok (.bipush (-6), 2) := by decide +kernel
theorem dX6_row_41 : decode cX6_row 41 = .ok (.invokevirtual 64, 3) := by decide +kernel
theorem dX6_row_44 : decode cX6_row 44 = .ok (.ireturn, 1) := by decide +kernel
theorem dX6_row_45 : decode cX6_row 45 = .ok (.iload_n 3, 1) := by decide +kernel
theorem dX6_row_46 : decode cX6_row 46 = .ok (.sipush 160, 3) := by decide +kernel
theorem dX6_row_49 : decode cX6_row 49 = .ok (.if_icmp .le 10, 3) := by decide +kernel
theorem dX6_row_52 : decode cX6_row 52 = .ok (.aload_n 0, 1) := by decide +kernel
theorem dX6_row_53 : decode cX6_row 53 = .ok (.bipush (-7), 2) := by decide +kernel
theorem dX6_row_55 : decode cX6_row 55 = .ok (.invokevirtual 64, 3) := by decide +kernel
theorem dX6_row_58 : decode cX6_row 58 = .ok (.ireturn, 1) := by decide +kernel
theorem dX6_row_59 : decode cX6_row 59 = .ok (.aload 4, 2) := by decide +kernel
theorem dX6_row_61 : decode cX6_row 61 = .ok (.iload_n 2, 1) := by decide +kernel
theorem dX6_row_62 : decode cX6_row 62 = .ok (.iload_n 3, 1) := by decide +kernel
theorem dX6_row_63 : decode cX6_row 63 = .ok (.invokevirtual 68, 3) := by decide +kernel
theorem dX6_row_66 : decode cX6_row 66 = .ok (.iconst 1, 1) := by decide +kernel
theorem dX6_row_67 : decode cX6_row 67 = .ok (.ireturn, 1) := by decide +kernel
theorem dX6_set_0 : decode cX6_set 0 = .ok (.aload_n 0, 1) := by decide +kernel
theorem dX6_set_1 : decode cX6_set 1 = .ok (.iload_n 1, 1) := by decide +kernel
theorem dX6_set_2 : decode cX6_set 2 = .ok (.invokevirtual 60, 3) := by decide +kernel
theorem dX6_set_5 : decode cX6_set 5 = .ok (.astore 5, 2) := by decide +kernel
theorem dX6_set_7 : decode cX6_set 7 = .ok (.aload 5, 2) := by decide +kernel
theorem dX6_set_9 : decode cX6_set 9 = .ok (.ifnull 11, 3) := by decide +kernel
theorem dX6_set_12 : decode cX6_set 12 = .ok (.aload 5, 2) := by decide +kernel
theorem dX6_set_14 : decode cX6_set 14 = .ok (.invokevirtual 72, 3) := by decide +kernel
theorem dX6_set_17 : decode cX6_set 17 = .ok (.ifCond .ne 13, 3) := by decide +kernel
theorem dX6_set_20 : decode cX6_set 20 = .ok (.aload_n 0, 1) := by decide +kernel
theorem dX6_set_21 : decode cX6_set 21 = .ok (.aload 5, 2) := by decide +kernel
theorem dX6_set_23 : decode cX6_set 23 = .ok (.invokestatic 76, 3) := by decide +kernel
theorem dX6_set_26 : decode cX6_set 26 = .ok (.invokevirtual 64, 3) := by decide +kernel
theorem dX6_set_29 : decode cX6_set 29 = .ok (.ireturn, 1) := by decide +kernel
theorem dX6_set_30 : decode cX6_set 30 = .ok (.iload_n 2, 1) := by decide +kernel
theorem dX6_set_31 : decode cX6_set 31 = .ok (.ifCond .lt 12, 3) := by decide +kernel
theorem dX6_set_34 : decode cX6_set 34 = .ok (.iload_n 2, 1) := by decide +kernel
theorem dX6_set_35 : decode cX6_set 35 = .ok (.aload 5, 2) := by decide +kernel
theorem dX6_set_37 : decode cX6_set 37 = .ok (.getfield 80, 3) := by decide +kernel
theorem dX6_set_40 : decode cX6_set 40 = .ok (.if_icmp .lt 10, 3) := by decide +kernel
theorem dX6_set_43 : decode cX6_set 43 = .ok (.aload_n 0, 1) := by decide +kernel
theorem dX6_set_44 : decode cX6_set 44 = .ok (.bipush (-5), 2) := by decide +kernel
theorem dX6_set_46 : decode cX6_set 46 = .ok (.invokevirtual 64, 3) := by decide +kernel
theorem dX6_set_49 : decode cX6_set 49 = .ok (.ireturn, 1) := by decide +kernel
theorem dX6_set_50 : decode cX6_set 50 = .ok (.aload 5, 2) := by decide +kernel
theorem dX6_set_52 : decode cX6_set 52 = .ok (.iload_n 2, 1) := by decide +kernel
theorem dX6_set_53 : decode cX6_set 53 = .ok (.lload_n 3, 1) := by decide +kernel
theorem dX6_set_54 : decode cX6_set 54 = .ok (.invokevirtual 84, 3) := by decide +kernel
theorem dX6_set_57 : decode cX6_set 57 = .ok (.iconst 1, 1) := by decide +kernel
theorem dX6_set_58 : decode cX6_set 58 = .ok (.ireturn, 1) := by decide +kernel
theorem dX6_copy_0 : decode cX6_copy 0 = .ok (.aload_n 0, 1) := by decide +kernel
theorem dX6_copy_1 : decode cX6_copy 1 = .ok (.iload_n 1, 1) := by decide +kernel
theorem dX6_copy_2 : decode cX6_copy 2 = .ok (.invokevirtual 60, 3) := by decide +kernel
theorem dX6_copy_5 : decode cX6_copy 5 = .ok (.astore 6, 2) := by decide +kernel
theorem dX6_copy_7 : decode cX6_copy 7 = .ok (.aload_n 0, 1) := by decide +kernel
theorem dX6_copy_8 : decode cX6_copy 8 = .ok (.iload_n 2, 1) := by decide +kernel
theorem dX6_copy_9 : decode cX6_copy 9 = .ok (.invokevirtual 60, 3) := by decide +kernel
theorem dX6_copy_12 : decode cX6_copy 12 = .ok (.astore 7, 2) := by decide +kernel
theorem dX6_copy_14 : decode cX6_copy 14 = .ok (.aload 6, 2) := by decide +kernel
theorem dX6_copy_16 : decode cX6_copy 16 = .ok (.ifnull 8, 3) := by decide +kernel
theorem dX6_copy_19 : decode cX6_copy 19 = .ok (.aload 7, 2) := by decide +kernel
theorem dX6_copy_21 : decode cX6_copy 21 = .ok (.ifnonnull 9, 3) := by decide +kernel
theorem dX6_copy_24 : decode cX6_copy 24 = .ok (.aload_n 0, 1) := by decide +kernel
theorem dX6_copy_25 : decode cX6_copy 25 = .ok (.iconst (-1), 1) := by decide +kernel
theorem dX6_copy_26 : decode cX6_copy 26 = .ok (.invokevirtual 64, 3) := by decide +kernel
theorem dX6_copy_29 : decode cX6_copy 29 = .ok (.ireturn, 1) := by decide +kernel
theorem dX6_copy_30 : decode cX6_copy 30 = .ok (.aload 6, 2) := by decide +kernel
theorem dX6_copy_32 : decode cX6_copy 32 = .ok (.invokevirtual 88, 3) := by decide +kernel
theorem dX6_copy_35 : decode cX6_copy 35 = .ok (.ifCond .ne 11, 3) := by decide +kernel
theorem dX6_copy_38 : decode cX6_copy 38 = .ok (.aload 7, 2) := by decide +kernel
theorem dX6_copy_40 : decode cX6_copy 40 = .ok (.invokevirtual 88, 3) := by decide +kernel
theorem dX6_copy_43 : decode cX6_copy 43 = .ok (.ifCond .eq 10, 3) := by decide +kernel
theorem dX6_copy_46 : decode cX6_copy 46 = .ok (.aload_n 0, 1) := by decide +kernel
theorem dX6_copy_47 : decode cX6_copy 47 = .ok (.bipush (-2), 2) := by decide +kernel
theorem dX6_copy_49 : decode cX6_copy 49 = .ok (.invokevirtual 64, 3) := by decide +kernel
theorem dX6_copy_52 : decode cX6_copy 52 = .ok (.ireturn, 1) := by decide +kernel
theorem dX6_copy_53 : decode cX6_copy 53 = .ok (.aload 6, 2) := by decide +kernel
theorem dX6_copy_55 : decode cX6_copy 55 = .ok (.invokevirtual 72, 3) := by decide +kernel
theorem dX6_copy_58 : decode cX6_copy 58 = .ok (.ifCond .eq 15, 3) := by decide +kernel
theorem dX6_copy_61 : decode cX6_copy 61 = .ok (.aload 7, 2) := by decide +kernel
theorem dX6_copy_63 : decode cX6_copy 63 = .ok (.invokevirtual 72, 3) := by decide +kernel
theorem dX6_copy_66 : decode cX6_copy 66 = .ok (.ifCond .eq 7, 3) := by decide +kernel
theorem dX6_copy_69 : decode cX6_copy 69 = .ok (.iconst 1, 1) := by decide +kernel
theorem dX6_copy_70 : decode cX6_copy 70 = .ok (.goto 4, 3) := by decide +kernel
theorem dX6_copy_73 : decode cX6_copy 73 = .ok (.iconst 0, 1) := by decide +kernel
theorem dX6_copy_74 : decode cX6_copy 74 = .ok (.istore 8, 2) := by decide +kernel
theorem dX6_copy_76 : decode cX6_copy 76 = .ok (.iload 8, 2) := by decide +kernel
theorem dX6_copy_78 : decode cX6_copy 78 = .ok (.ifCond .eq 23, 3) := by decide +kernel
theorem dX6_copy_81 : decode cX6_copy 81 = .ok (.aload 6, 2) := by decide +kernel
theorem dX6_copy_83 : decode cX6_copy 83 = .ok (.getfield 91, 3) := by decide +kernel
theorem dX6_copy_86 : decode cX6_copy 86 = .ok (.aload 7, 2) := by decide +kernel
theorem dX6_copy_88 : decode cX6_copy 88 = .ok (.getfield 91, 3) := by decide +kernel
theorem dX6_copy_91 : decode cX6_copy 91 = .ok (.if_icmp .eq 10, 3) := by decide +kernel
theorem dX6_copy_94 : decode cX6_copy 94 = .ok (.aload_n 0, 1) := by decide +kernel
theorem dX6_copy_95 : decode cX6_copy 95 = .ok (.bipush (-2), 2) := by decide +kernel
theorem dX6_copy_97 : decode cX6_copy 97 = .ok (.invokevirtual 64, 3) := by decide +kernel
theorem dX6_copy_100 : decode cX6_copy 100 = .ok (.ireturn, 1) := by decide +kernel
theorem dX6_copy_101 : decode cX6_copy 101 = .ok (.iload 8, 2) := by decide +kernel
theorem dX6_copy_103 : decode cX6_copy 103 = .ok (.ifCond .ne 10, 3) := by decide +kernel
theorem dX6_copy_106 : decode cX6_copy 106 = .ok (.aload_n 0, 1) := by decide +kernel
theorem dX6_copy_107 : decode cX6_copy 107 = .ok (.bipush (-3), 2) := by decide +kernel
theorem dX6_copy_109 : decode cX6_copy 109 = .ok (.invokevirtual 64, 3) := by decide +kernel
theorem dX6_copy_112 : decode cX6_copy 112 = .ok (.ireturn, 1) := by decide +kernel
theorem dX6_copy_113 : decode cX6_copy 113 = .ok (.iload 5, 2) := by decide +kernel
theorem dX6_copy_115 : decode cX6_copy 115 = .ok (.ifCond .ge 10, 3) := by decide +kernel
theorem dX6_copy_118 : decode cX6_copy 118 = .ok (.aload_n 0, 1) := by decide +kernel
theorem dX6_copy_119 : decode cX6_copy 119 = .ok (.bipush (-4), 2) := by decide +kernel
theorem dX6_copy_121 : decode cX6_copy 121 = .ok (.invokevirtual 64, 3) := by decide +kernel
theorem dX6_copy_124 : decode cX6_copy 124 = .ok (.ireturn, 1) := by decide +kernel
theorem dX6_copy_125 : decode cX6_copy 125 = .ok (.iload_n 3, 1) := by decide +kernel
theorem dX6_copy_126 : decode cX6_copy 126 = .ok (.ifCond .lt 33, 3) := by decide +kernel
theorem dX6_copy_129 : decode cX6_copy 129 = .ok (.iload 4, 2) := by decide +kernel
theorem dX6_copy_131 : decode cX6_copy 131 = .ok (.ifCond .lt 28, 3) := by decide +kernel
theorem dX6_copy_134 : decode cX6_copy 134 = .ok (.iload_n 3, 1) := by decide +kernel
theorem dX6_copy_135 : decode cX6_copy 135 = .ok (.aload 6, 2) := by decide +kernel
theorem dX6_copy_137 : decode cX6_copy 137 = .ok (.getfield 80, 3) := by decide +kernel
theorem dX6_copy_140 : decode cX6_copy 140 = .ok (.iload 5, 2) := by decide +kernel
theorem dX6_copy_142 : decode cX6_copy 142 = .ok (.isub, 1) := by decide +kernel
theorem dX6_copy_143 : decode cX6_copy 143 = .ok (.if_icmp .gt 16, 3) := by decide +kernel
theorem dX6_copy_146 : decode cX6_copy 146 = .ok (.iload 4, 2) := by decide +kernel
theorem dX6_copy_148 : decode cX6_copy 148 = .ok (.aload 7, 2) := by decide +kernel
theorem dX6_copy_150 : decode cX6_copy 150 = .ok (.getfield 80, 3) := by decide +kernel
theorem dX6_copy_153 : decode cX6_copy 153 = .ok (.iload 5, 2) := by decide +kernel
theorem dX6_copy_155 : decode cX6_copy 155 = .ok (.isub, 1) := by decide +kernel
theorem dX6_copy_156 : decode cX6_copy 156 = .ok (.if_icmp .le 10, 3) := by decide +kernel
theorem dX6_copy_159 : decode cX6_copy 159 = .ok (.aload_n 0, 1) := by decide +kernel
theorem dX6_copy_160 : decode cX6_copy 160 = .ok (.bipush (-5), 2) := by decide +kernel
theorem dX6_copy_162 : decode cX6_copy 162 = .ok (.invokevirtual 64, 3) := by decide +kernel
theorem dX6_copy_165 : decode cX6_copy 165 = .ok (.ireturn, 1) := by decide +kernel
theorem dX6_copy_166 : decode cX6_copy 166 = .ok (.aload 7, 2) := by decide +kernel
theorem dX6_copy_168 : decode cX6_copy 168 = .ok (.aload 6, 2) := by decide +kernel
theorem dX6_copy_170 : decode cX6_copy 170 = .ok (.iload_n 3, 1) := by decide +kernel
theorem dX6_copy_171 : decode cX6_copy 171 = .ok (.iload 4, 2) := by decide +kernel
theorem dX6_copy_173 : decode cX6_copy 173 = .ok (.iload 5, 2) := by decide +kernel
theorem dX6_copy_175 : decode cX6_copy 175 = .ok (.invokevirtual 94, 3) := by decide +kernel
theorem dX6_copy_178 : decode cX6_copy 178 = .ok (.iconst 1, 1) := by decide +kernel
theorem dX6_copy_179 : decode cX6_copy 179 = .ok (.ireturn, 1) := by decide +kernel
theorem dX6_element_0 : decode cX6_element 0 = .ok (.aload_n 0, 1) := by decide +kernel
theorem dX6_element_1 : decode cX6_element 1 = .ok (.iload_n 1, 1) := by decide +kernel
theorem dX6_element_2 : decode cX6_element 2 = .ok (.invokevirtual 60, 3) := by decide +kernel
theorem dX6_element_5 : decode cX6_element 5 = .ok (.astore_n 3, 1) := by decide +kernel
theorem dX6_element_6 : decode cX6_element 6 = .ok (.aload_n 3, 1) := by decide +kernel
theorem dX6_element_7 : decode cX6_element 7 = .ok (.ifnonnull 7, 3) := by decide +kernel
theorem dX6_element_10 : decode cX6_element 10 = .ok (.lconst 0, 1) := by decide +kernel
theorem dX6_element_11 : decode cX6_element 11 = .ok (.goto 8, 3) := by decide +kernel
theorem dX6_element_14 : decode cX6_element 14 = .ok (.aload_n 3, 1) := by decide +kernel
theorem dX6_element_15 : decode cX6_element 15 = .ok (.iload_n 2, 1) := by decide +kernel
theorem dX6_element_16 : decode cX6_element 16 = .ok (.invokevirtual 98, 3) := by decide +kernel
theorem dX6_element_19 : decode cX6_element 19 = .ok (.lreturn, 1) := by decide +kernel
theorem dX6_show_0 : decode cX6_show 0 = .ok (.aload_n 0, 1) := by decide +kernel
theorem dX6_show_1 : decode cX6_show 1 = .ok (.iload_n 1, 1) := by decide +kernel
theorem dX6_show_2 : decode cX6_show 2 = .ok (.invokevirtual 60, 3) := by decide +kernel
theorem dX6_show_5 : decode cX6_show 5 = .ok (.astore_n 3, 1) := by decide +kernel
theorem dX6_show_6 : decode cX6_show 6 = .ok (.aload_n 3, 1) := by decide +kernel
theorem dX6_show_7 : decode cX6_show 7 = .ok (.ifnull 19, 3) := by decide +kernel
theorem dX6_show_10 : decode cX6_show 10 = .ok (.iload_n 2, 1) := by decide +kernel
theorem dX6_show_11 : decode cX6_show 11 = .ok (.iconst (-1), 1) := by decide +kernel
theorem dX6_show_12 : decode cX6_show 12 = .ok (.if_icmp .eq 20, 3) := by decide +kernel
theorem dX6_show_15 : decode cX6_show 15 = .ok (.aload_n 0, 1) := by decide +kernel
theorem dX6_show_16 : decode cX6_show 16 = .ok (.getfield 10, 3) := by decide +kernel
theorem dX6_show_19 : decode cX6_show 19 = .ok (.iload_n 2, 1) := by decide +kernel
theorem dX6_show_20 : decode cX6_show 20 = .ok (.invokevirtual 102, 3) := by decide +kernel
theorem dX6_show_23 : decode cX6_show 23 = .ok (.ifnonnull 9, 3) := by decide +kernel
theorem dX6_show_26 : decode cX6_show 26 = .ok (.aload_n 0, 1) := by decide +kernel
theorem dX6_show_27 : decode cX6_show 27 = .ok (.iconst (-1), 1) := by decide +kernel
theorem dX6_show_28 : decode cX6_show 28 = .ok (.invokevirtual 64, 3) := by decide +kernel
theorem dX6_show_31 : decode cX6_show 31 = .ok (.ireturn, 1) := by decide +kernel
theorem dX6_show_32 : decode cX6_show 32 = .ok (.iload_n 2, 1) := by decide +kernel
theorem dX6_show_33 : decode cX6_show 33 = .ok (.iconst (-1), 1) := by decide +kernel
theorem dX6_show_34 : decode cX6_show 34 = .ok (.if_icmp .ne 9, 3) := by decide +kernel
theorem dX6_show_37 : decode cX6_show 37 = .ok (.aload_n 3, 1) := by decide +kernel
theorem dX6_show_38 : decode cX6_show 38 = .ok (.invokevirtual 106, 3) := by decide +kernel
theorem dX6_show_41 : decode cX6_show 41 = .ok (.iconst 0, 1) := by decide +kernel
theorem dX6_show_42 : decode cX6_show 42 = .ok (.ireturn, 1) := by decide +kernel
theorem dX6_show_43 : decode cX6_show 43 = .ok (.aload_n 3, 1) := by decide +kernel
theorem dX6_show_44 : decode cX6_show 44 = .ok (.iload_n 2, 1) := by decide +kernel
theorem dX6_show_45 : decode cX6_show 45 = .ok (.invokevirtual 109, 3) := by decide +kernel
theorem dX6_show_48 : decode cX6_show 48 = .ok (.iconst 1, 1) := by decide +kernel
theorem dX6_show_49 : decode cX6_show 49 = .ok (.ireturn, 1) := by decide +kernel
theorem dX6_holds_0 : decode cX6_holds 0 = .ok (.aload_n 0, 1) := by decide +kernel
theorem dX6_holds_1 : decode cX6_holds 1 = .ok (.iload_n 1, 1) := by decide +kernel
theorem dX6_holds_2 : decode cX6_holds 2 = .ok (.invokevirtual 60, 3) := by decide +kernel
theorem dX6_holds_5 : decode cX6_holds 5 = .ok (.astore_n 2, 1) := by decide +kernel
theorem dX6_holds_6 : decode cX6_holds 6 = .ok (.aload_n 2, 1) := by decide +kernel
theorem dX6_holds_7 : decode cX6_holds 7 = .ok (.ifnonnull 7, 3) := by decide +kernel
theorem dX6_holds_10 : decode cX6_holds 10 = .ok (.iconst (-1), 1) := by decide +kernel
theorem dX6_holds_11 : decode cX6_holds 11 = .ok (.goto 7, 3) := by decide +kernel
theorem dX6_holds_14 : decode cX6_holds 14 = .ok (.aload_n 2, 1) := by decide +kernel
theorem dX6_holds_15 : decode cX6_holds 15 = .ok (.invokevirtual 113, 3) := by decide +kernel
theorem dX6_holds_18 : decode cX6_holds 18 = .ok (.ireturn, 1) := by decide +kernel
theorem dX6_says_0 : decode cX6_says 0 = .ok (.aload_n 0, 1) := by decide +kernel
theorem dX6_says_1 : decode cX6_says 1 = .ok (.iload_n 1, 1) := by decide +kernel
theorem dX6_says_2 : decode cX6_says 2 = .ok (.invokevirtual 60, 3) := by decide +kernel
theorem dX6_says_5 : decode cX6_says 5 = .ok (.astore_n 3, 1) := by decide +kernel
theorem dX6_says_6 : decode cX6_says 6 = .ok (.aload_n 3, 1) := by decide +kernel
theorem dX6_says_7 : decode cX6_says 7 = .ok (.ifnull 10, 3) := by decide +kernel
theorem dX6_says_10 : decode cX6_says 10 = .ok (.iload_n 2, 1) := by decide +kernel
theorem dX6_says_11 : decode cX6_says 11 = .ok (.invokestatic 117, 3) := by decide +kernel
theorem dX6_says_14 : decode cX6_says 14 = .ok (.ifCond .ne 9, 3) := by decide +kernel
theorem dX6_says_17 : decode cX6_says 17 = .ok (.aload_n 0, 1) := by decide +kernel
theorem dX6_says_18 : decode cX6_says 18 = .ok (.iconst (-1), 1) := by decide +kernel
theorem dX6_says_19 : decode cX6_says 19 = .ok (.invokevirtual 64, 3) := by decide +kernel
theorem dX6_says_22 : decode cX6_says 22 = .ok (.ireturn, 1) := by decide +kernel
theorem dX6_says_23 : decode cX6_says 23 = .ok (.aload_n 3, 1) := by decide +kernel
theorem dX6_says_24 : decode cX6_says 24 = .ok (.invokevirtual 72, 3) := by decide +kernel
theorem dX6_says_27 : decode cX6_says 27 = .ok (.ifCond .eq 10, 3) := by decide +kernel
theorem dX6_says_30 : decode cX6_says 30 = .ok (.aload_n 0, 1) := by decide +kernel
theorem dX6_says_31 : decode cX6_says 31 = .ok (.bipush (-2), 2) := by decide +kernel
theorem dX6_says_33 : decode cX6_says 33 = .ok (.invokevirtual 64, 3) := by decide +kernel
theorem dX6_says_36 : decode cX6_says 36 = .ok (.ireturn, 1) := by decide +kernel
theorem dX6_says_37 : decode cX6_says 37 = .ok (.aload_n 0, 1) := by decide +kernel
theorem dX6_says_38 : decode cX6_says 38 = .ok (.getfield 10, 3) := by decide +kernel
theorem dX6_says_41 : decode cX6_says 41 = .ok (.aload_n 3, 1) := by decide +kernel
theorem dX6_says_42 : decode cX6_says 42 = .ok (.getfield 123, 3) := by decide +kernel
theorem dX6_says_45 : decode cX6_says 45 = .ok (.invokevirtual 102, 3) := by decide +kernel
theorem dX6_says_48 : decode cX6_says 48 = .ok (.astore 4, 2) := by decide +kernel
theorem dX6_says_50 : decode cX6_says 50 = .ok (.aload_n 3, 1) := by decide +kernel
theorem dX6_says_51 : decode cX6_says 51 = .ok (.invokevirtual 88, 3) := by decide +kernel
theorem dX6_says_54 : decode cX6_says 54 = .ok (.ifCond .eq 8, 3) := by decide +kernel
theorem dX6_says_57 : decode cX6_says 57 = .ok (.aload 4, 2) := by decide +kernel
theorem dX6_says_59 : decode cX6_says 59 = .ok (.ifnonnull 10, 3) := by decide +kernel
theorem dX6_says_62 : decode cX6_says 62 = .ok (.aload_n 0, 1) := by decide +kernel
theorem dX6_says_63 : decode cX6_says 63 = .ok (.bipush (-3), 2) := by decide +kernel
theorem dX6_says_65 : decode cX6_says 65 = .ok (.invokevirtual 64, 3) := by decide +kernel
theorem dX6_says_68 : decode cX6_says 68 = .ok (.ireturn, 1) := by decide +kernel
theorem dX6_says_69 : decode cX6_says 69 = .ok (.aload 4, 2) := by decide +kernel
theorem dX6_says_71 : decode cX6_says 71 = .ok (.iload_n 2, 1) := by decide +kernel
theorem dX6_says_72 : decode cX6_says 72 = .ok (.invokevirtual 126, 3) := by decide +kernel
theorem dX6_says_75 : decode cX6_says 75 = .ok (.ifCond .ne 10, 3) := by decide +kernel
theorem dX6_says_78 : decode cX6_says 78 = .ok (.aload_n 0, 1) := by decide +kernel
theorem dX6_says_79 : decode cX6_says 79 = .ok (.bipush (-2), 2) := by decide +kernel
theorem dX6_says_81 : decode cX6_says 81 = .ok (.invokevirtual 64, 3) := by decide +kernel
theorem dX6_says_84 : decode cX6_says 84 = .ok (.ireturn, 1) := by decide +kernel
theorem dX6_says_85 : decode cX6_says 85 = .ok (.aload_n 0, 1) := by decide +kernel
theorem dX6_says_86 : decode cX6_says 86 = .ok (.aload 4, 2) := by decide +kernel
theorem dX6_says_88 : decode cX6_says 88 = .ok (.iload_n 2, 1) := by decide +kernel
theorem dX6_says_89 : decode cX6_says 89 = .ok (.invokevirtual 129, 3) := by decide +kernel
theorem dX6_says_92 : decode cX6_says 92 = .ok (.ireturn, 1) := by decide +kernel
theorem dX6_saidAs_0 : decode cX6_saidAs 0 = .ok (.iload_n 2, 1) := by decide +kernel
theorem dX6_saidAs_1 : decode cX6_saidAs 1 = .ok (.tableswitch 80 1 6 #[39, 44, 56, 61, 75, 56], 39) := by decide +kernel
theorem dX6_saidAs_40 : decode cX6_saidAs 40 = .ok (.aload_n 1, 1) := by decide +kernel
theorem dX6_saidAs_41 : decode cX6_saidAs 41 = .ok (.getfield 133, 3) := by decide +kernel
theorem dX6_saidAs_44 : decode cX6_saidAs 44 = .ok (.ireturn, 1) := by decide +kernel
theorem dX6_saidAs_45 : decode cX6_saidAs 45 = .ok (.aload_n 1, 1) := by decide +kernel
theorem dX6_saidAs_46 : decode cX6_saidAs 46 = .ok (.aload_n 0, 1) := by decide +kernel
theorem dX6_saidAs_47 : decode cX6_saidAs 47 = .ok (.getfield 10, 3) := by decide +kernel
theorem dX6_saidAs_50 : decode cX6_saidAs 50 = .ok (.getfield 136, 3) := by decide +kernel
theorem dX6_saidAs_53 : decode cX6_saidAs 53 = .ok (.invokevirtual 139, 3) := by decide +kernel
theorem dX6_saidAs_56 : decode cX6_saidAs 56 = .ok (.ireturn, 1) := by decide +kernel
theorem dX6_saidAs_57 : decode cX6_saidAs 57 = .ok (.aload_n 1, 1) := by decide +kernel
theorem dX6_saidAs_58 : decode cX6_saidAs 58 = .ok (.getfield 142, 3) := by decide +kernel
theorem dX6_saidAs_61 : decode cX6_saidAs 61 = .ok (.ireturn, 1) := by decide +kernel
theorem dX6_saidAs_62 : decode cX6_saidAs 62 = .ok (.aload_n 1, 1) := by decide +kernel
theorem dX6_saidAs_63 : decode cX6_saidAs 63 = .ok (.bipush 23, 2) := by decide +kernel
theorem dX6_saidAs_65 : decode cX6_saidAs 65 = .ok (.aload_n 0, 1) := by decide +kernel
theorem dX6_saidAs_66 : decode cX6_saidAs 66 = .ok (.getfield 10, 3) := by decide +kernel
theorem dX6_saidAs_69 : decode cX6_saidAs 69 = .ok (.getfield 145, 3) := by decide +kernel
theorem dX6_saidAs_72 : decode cX6_saidAs 72 = .ok (.invokevirtual 148, 3) := by decide +kernel
theorem dX6_saidAs_75 : decode cX6_saidAs 75 = .ok (.ireturn, 1) := by decide +kernel
theorem dX6_saidAs_76 : decode cX6_saidAs 76 = .ok (.aload_n 1, 1) := by decide +kernel
theorem dX6_saidAs_77 : decode cX6_saidAs 77 = .ok (.invokevirtual 152, 3) := by decide +kernel
theorem dX6_saidAs_80 : decode cX6_saidAs 80 = .ok (.ireturn, 1) := by decide +kernel
theorem dX6_saidAs_81 : decode cX6_saidAs 81 = .ok (.aload_n 1, 1) := by decide +kernel
theorem dX6_saidAs_82 : decode cX6_saidAs 82 = .ok (.aload_n 0, 1) := by decide +kernel
theorem dX6_saidAs_83 : decode cX6_saidAs 83 = .ok (.getfield 10, 3) := by decide +kernel
theorem dX6_saidAs_86 : decode cX6_saidAs 86 = .ok (.getfield 136, 3) := by decide +kernel
theorem dX6_saidAs_89 : decode cX6_saidAs 89 = .ok (.aload_n 0, 1) := by decide +kernel
theorem dX6_saidAs_90 : decode cX6_saidAs 90 = .ok (.getfield 10, 3) := by decide +kernel
theorem dX6_saidAs_93 : decode cX6_saidAs 93 = .ok (.getfield 155, 3) := by decide +kernel
theorem dX6_saidAs_96 : decode cX6_saidAs 96 = .ok (.invokevirtual 158, 3) := by decide +kernel
theorem dX6_saidAs_99 : decode cX6_saidAs 99 = .ok (.ireturn, 1) := by decide +kernel
theorem dX6_shelfAt_0 : decode cX6_shelfAt 0 = .ok (.iload_n 1, 1) := by decide +kernel
theorem dX6_shelfAt_1 : decode cX6_shelfAt 1 = .ok (.ifCond .lt 21, 3) := by decide +kernel
theorem dX6_shelfAt_4 : decode cX6_shelfAt 4 = .ok (.iload_n 1, 1) := by decide +kernel
theorem dX6_shelfAt_5 : decode cX6_shelfAt 5 = .ok (.aload_n 0, 1) := by decide +kernel
theorem dX6_shelfAt_6 : decode cX6_shelfAt 6 = .ok (.getfield 33, 3) := by decide +kernel
theorem dX6_shelfAt_9 : decode cX6_shelfAt 9 = .ok (.arraylength, 1) := by decide +kernel
theorem dX6_shelfAt_10 : decode cX6_shelfAt 10 = .ok (.if_icmp .ge 12, 3) := by decide +kernel
theorem dX6_shelfAt_13 : decode cX6_shelfAt 13 = .ok (.aload_n 0, 1) := by decide +kernel
theorem dX6_shelfAt_14 : decode cX6_shelfAt 14 = .ok (.getfield 33, 3) := by decide +kernel
theorem dX6_shelfAt_17 : decode cX6_shelfAt 17 = .ok (.iload_n 1, 1) := by decide +kernel
theorem dX6_shelfAt_18 : decode cX6_shelfAt 18 = .ok (.aaload, 1) := by decide +kernel
theorem dX6_shelfAt_19 : decode cX6_shelfAt 19 = .ok (.goto 4, 3) := by decide +kernel
theorem dX6_shelfAt_22 : decode cX6_shelfAt 22 = .ok (.aconst_null, 1) := by decide +kernel
theorem dX6_shelfAt_23 : decode cX6_shelfAt 23 = .ok (.areturn, 1) := by decide +kernel
theorem dX6_lackOfRow_0 : decode cX6_lackOfRow 0 = .ok (.aload_n 0, 1) := by decide +kernel
theorem dX6_lackOfRow_1 : decode cX6_lackOfRow 1 = .ok (.ifnonnull 5, 3) := by decide +kernel
theorem dX6_lackOfRow_4 : decode cX6_lackOfRow 4 = .ok (.iconst (-1), 1) := by decide +kernel
theorem dX6_lackOfRow_5 : decode cX6_lackOfRow 5 = .ok (.ireturn, 1) := by decide +kernel
theorem dX6_lackOfRow_6 : decode cX6_lackOfRow 6 = .ok (.aload_n 0, 1) := by decide +kernel
theorem dX6_lackOfRow_7 : decode cX6_lackOfRow 7 = .ok (.invokevirtual 88, 3) := by decide +kernel
theorem dX6_lackOfRow_10 : decode cX6_lackOfRow 10 = .ok (.ifCond .eq 8, 3) := by decide +kernel
theorem dX6_lackOfRow_13 : decode cX6_lackOfRow 13 = .ok (.bipush (-2), 2) := by decide +kernel
theorem dX6_lackOfRow_15 : decode cX6_lackOfRow 15 = .ok (.goto 5, 3) := by decide +kernel
theorem dX6_lackOfRow_18 : decode cX6_lackOfRow 18 = .ok (.bipush (-3), 2) := by decide +kernel
theorem dX6_lackOfRow_20 : decode cX6_lackOfRow 20 = .ok (.ireturn, 1) := by decide +kernel
theorem dX6_refuse_0 : decode cX6_refuse 0 = .ok (.iload_n 1, 1) := by decide +kernel
theorem dX6_refuse_1 : decode cX6_refuse 1 = .ok (.ineg, 1) := by decide +kernel
theorem dX6_refuse_2 : decode cX6_refuse 2 = .ok (.istore_n 2, 1) := by decide +kernel
theorem dX6_refuse_3 : decode cX6_refuse 3 = .ok (.iload_n 2, 1) := by decide +kernel
theorem dX6_refuse_4 : decode cX6_refuse 4 = .ok (.ifCond .lt 22, 3) := by decide +kernel
theorem dX6_refuse_7 : decode cX6_refuse 7 = .ok (.iload_n 2, 1) := by decide +kernel
theorem dX6_refuse_8 : decode cX6_refuse 8 = .ok (.aload_n 0, 1) := by decide +kernel
theorem dX6_refuse_9 : decode cX6_refuse 9 = .ok (.getfield 52, 3) := by decide +kernel
theorem dX6_refuse_12 : decode cX6_refuse 12 = .ok (.arraylength, 1) := by decide +kernel
theorem dX6_refuse_13 : decode cX6_refuse 13 = .ok (.if_icmp .ge 13, 3) := by decide +kernel
theorem dX6_refuse_16 : decode cX6_refuse 16 = .ok (.aload_n 0, 1) := by decide +kernel
theorem dX6_refuse_17 : decode cX6_refuse 17 = .ok (.getfield 52, 3) := by decide +kernel
theorem dX6_refuse_20 : decode cX6_refuse 20 = .ok (.iload_n 2, 1) := by decide +kernel
theorem dX6_refuse_21 : decode cX6_refuse 21 = .ok (.dup2, 1) := by decide +kernel
theorem dX6_refuse_22 : decode cX6_refuse 22 = .ok (.iaload, 1) := by decide +kernel
theorem dX6_refuse_23 : decode cX6_refuse 23 = .ok (.iconst 1, 1) := by decide +kernel
theorem dX6_refuse_24 : decode cX6_refuse 24 = .ok (.iadd, 1) := by decide +kernel
theorem dX6_refuse_25 : decode cX6_refuse 25 = .ok (.iastore, 1) := by decide +kernel
theorem dX6_refuse_26 : decode cX6_refuse 26 = .ok (.iload_n 1, 1) := by decide +kernel
theorem dX6_refuse_27 : decode cX6_refuse 27 = .ok (.ireturn, 1) := by decide +kernel
theorem dX6_refuseNobody_0 : decode cX6_refuseNobody 0 = .ok (.aload_n 0, 1) := by decide +kernel
theorem dX6_refuseNobody_1 : decode cX6_refuseNobody 1 = .ok (.iconst (-1), 1) := by decide +kernel
theorem dX6_refuseNobody_2 : decode cX6_refuseNobody 2 = .ok (.invokevirtual 64, 3) := by decide +kernel
theorem dX6_refuseNobody_5 : decode cX6_refuseNobody 5 = .ok (.pop, 1) := by decide +kernel
theorem dX6_refuseNobody_6 : decode cX6_refuseNobody 6 = .ok (.bipush (-11), 2) := by decide +kernel
theorem dX6_refuseNobody_8 : decode cX6_refuseNobody 8 = .ok (.ireturn, 1) := by decide +kernel
theorem dX6_refuseWrong_0 : decode cX6_refuseWrong 0 = .ok (.aload_n 0, 1) := by decide +kernel
theorem dX6_refuseWrong_1 : decode cX6_refuseWrong 1 = .ok (.bipush (-6), 2) := by decide +kernel
theorem dX6_refuseWrong_3 : decode cX6_refuseWrong 3 = .ok (.invokevirtual 64, 3) := by decide +kernel
theorem dX6_refuseWrong_6 : decode cX6_refuseWrong 6 = .ok (.pop, 1) := by decide +kernel
theorem dX6_refuseWrong_7 : decode cX6_refuseWrong 7 = .ok (.bipush (-16), 2) := by decide +kernel
theorem dX6_refuseWrong_9 : decode cX6_refuseWrong 9 = .ok (.ireturn, 1) := by decide +kernel
theorem dX6_isHour_0 : decode cX6_isHour 0 = .ok (.iload_n 0, 1) := by decide +kernel
theorem dX6_isHour_1 : decode cX6_isHour 1 = .ok (.ifCond .lt 13, 3) := by decide +kernel
theorem dX6_isHour_4 : decode cX6_isHour 4 = .ok (.iload_n 0, 1) := by decide +kernel
theorem dX6_isHour_5 : decode cX6_isHour 5 = .ok (.bipush 24, 2) := by decide +kernel
theorem dX6_isHour_7 : decode cX6_isHour 7 = .ok (.if_icmp .gt 7, 3) := by decide +kernel
theorem dX6_isHour_10 : decode cX6_isHour 10 = .ok (.iconst 1, 1) := by decide +kernel
theorem dX6_isHour_11 : decode cX6_isHour 11 = .ok (.goto 4, 3) := by decide +kernel
theorem dX6_isHour_14 : decode cX6_isHour 14 = .ok (.iconst 0, 1) := by decide +kernel
theorem dX6_isHour_15 : decode cX6_isHour 15 = .ok (.ireturn, 1) := by decide +kernel
theorem dX6_isCell_0 : decode cX6_isCell 0 = .ok (.iload_n 0, 1) := by decide +kernel
theorem dX6_isCell_1 : decode cX6_isCell 1 = .ok (.ifCond .lt 13, 3) := by decide +kernel
theorem dX6_isCell_4 : decode cX6_isCell 4 = .ok (.iload_n 0, 1) := by decide +kernel
theorem dX6_isCell_5 : decode cX6_isCell 5 = .ok (.bipush 16, 2) := by decide +kernel
theorem dX6_isCell_7 : decode cX6_isCell 7 = .ok (.if_icmp .ge 7, 3) := by decide +kernel
theorem dX6_isCell_10 : decode cX6_isCell 10 = .ok (.iconst 1, 1) := by decide +kernel
theorem dX6_isCell_11 : decode cX6_isCell 11 = .ok (.goto 4, 3) := by decide +kernel
theorem dX6_isCell_14 : decode cX6_isCell 14 = .ok (.iconst 0, 1) := by decide +kernel
theorem dX6_isCell_15 : decode cX6_isCell 15 = .ok (.ireturn, 1) := by decide +kernel
theorem dX6_isShape_0 : decode cX6_isShape 0 = .ok (.iload_n 0, 1) := by decide +kernel
theorem dX6_isShape_1 : decode cX6_isShape 1 = .ok (.ifCond .lt 13, 3) := by decide +kernel
theorem dX6_isShape_4 : decode cX6_isShape 4 = .ok (.iload_n 0, 1) := by decide +kernel
theorem dX6_isShape_5 : decode cX6_isShape 5 = .ok (.ldc 161, 2) := by decide +kernel
theorem dX6_isShape_7 : decode cX6_isShape 7 = .ok (.if_icmp .gt 7, 3) := by decide +kernel
theorem dX6_isShape_10 : decode cX6_isShape 10 = .ok (.iconst 1, 1) := by decide +kernel
theorem dX6_isShape_11 : decode cX6_isShape 11 = .ok (.goto 4, 3) := by decide +kernel
theorem dX6_isShape_14 : decode cX6_isShape 14 = .ok (.iconst 0, 1) := by decide +kernel
theorem dX6_isShape_15 : decode cX6_isShape 15 = .ok (.ireturn, 1) := by decide +kernel
theorem dX6_form_0 : decode cX6_form 0 = .ok (.iload_n 1, 1) := by decide +kernel
theorem dX6_form_1 : decode cX6_form 1 = .ok (.invokestatic 162, 3) := by decide +kernel
theorem dX6_form_4 : decode cX6_form 4 = .ok (.ifCond .ne 10, 3) := by decide +kernel
theorem dX6_form_7 : decode cX6_form 7 = .ok (.aload_n 0, 1) := by decide +kernel
theorem dX6_form_8 : decode cX6_form 8 = .ok (.bipush (-6), 2) := by decide +kernel
theorem dX6_form_10 : decode cX6_form 10 = .ok (.invokevirtual 64, 3) := by decide +kernel
theorem dX6_form_13 : decode cX6_form 13 = .ok (.ireturn, 1) := by decide +kernel
theorem dX6_form_14 : decode cX6_form 14 = .ok (.aload_n 0, 1) := by decide +kernel
theorem dX6_form_15 : decode cX6_form 15 = .ok (.getfield 10, 3) := by decide +kernel
theorem dX6_form_18 : decode cX6_form 18 = .ok (.invokevirtual 165, 3) := by decide +kernel
theorem dX6_form_21 : decode cX6_form 21 = .ok (.ifCond .ne 10, 3) := by decide +kernel
theorem dX6_form_24 : decode cX6_form 24 = .ok (.aload_n 0, 1) := by decide +kernel
theorem dX6_form_25 : decode cX6_form 25 = .ok (.bipush (-7), 2) := by decide +kernel
theorem dX6_form_27 : decode cX6_form 27 = .ok (.invokevirtual 64, 3) := by decide +kernel
theorem dX6_form_30 : decode cX6_form 30 = .ok (.ireturn, 1) := by decide +kernel
theorem dX6_form_31 : decode cX6_form 31 = .ok (.aload_n 0, 1) := by decide +kernel
theorem dX6_form_32 : decode cX6_form 32 = .ok (.getfield 10, 3) := by decide +kernel
theorem dX6_form_35 : decode cX6_form 35 = .ok (.iload_n 1, 1) := by decide +kernel
theorem dX6_form_36 : decode cX6_form 36 = .ok (.invokevirtual 168, 3) := by decide +kernel
theorem dX6_form_39 : decode cX6_form 39 = .ok (.ireturn, 1) := by decide +kernel
theorem dX6_formOf_0 : decode cX6_formOf 0 = .ok (.aload_n 0, 1) := by decide +kernel
theorem dX6_formOf_1 : decode cX6_formOf 1 = .ok (.getfield 10, 3) := by decide +kernel
theorem dX6_formOf_4 : decode cX6_formOf 4 = .ok (.iload_n 1, 1) := by decide +kernel
theorem dX6_formOf_5 : decode cX6_formOf 5 = .ok (.invokevirtual 171, 3) := by decide +kernel
theorem dX6_formOf_8 : decode cX6_formOf 8 = .ok (.ifCond .ne 9, 3) := by decide +kernel
theorem dX6_formOf_11 : decode cX6_formOf 11 = .ok (.aload_n 0, 1) := by decide +kernel
theorem dX6_formOf_12 : decode cX6_formOf 12 = .ok (.iconst (-1), 1) := by decide +kernel
theorem dX6_formOf_13 : decode cX6_formOf 13 = .ok (.invokevirtual 64, 3) := by decide +kernel
theorem dX6_formOf_16 : decode cX6_formOf 16 = .ok (.ireturn, 1) := by decide +kernel
theorem dX6_formOf_17 : decode cX6_formOf 17 = .ok (.aload_n 0, 1) := by decide +kernel
theorem dX6_formOf_18 : decode cX6_formOf 18 = .ok (.getfield 10, 3) := by decide +kernel
theorem dX6_formOf_21 : decode cX6_formOf 21 = .ok (.iload_n 1, 1) := by decide +kernel
theorem dX6_formOf_22 : decode cX6_formOf 22 = .ok (.invokevirtual 174, 3) := by decide +kernel
theorem dX6_formOf_25 : decode cX6_formOf 25 = .ok (.ireturn, 1) := by decide +kernel
theorem dX6_pane_0 : decode cX6_pane 0 = .ok (.iload_n 1, 1) := by decide +kernel
theorem dX6_pane_1 : decode cX6_pane 1 = .ok (.invokestatic 117, 3) := by decide +kernel
theorem dX6_pane_4 : decode cX6_pane 4 = .ok (.ifCond .ne 9, 3) := by decide +kernel
theorem dX6_pane_7 : decode cX6_pane 7 = .ok (.aload_n 0, 1) := by decide +kernel
theorem dX6_pane_8 : decode cX6_pane 8 = .ok (.iconst (-1), 1) := by decide +kernel
theorem dX6_pane_9 : decode cX6_pane 9 = .ok (.invokevirtual 64, 3) := by decide +kernel
theorem dX6_pane_12 : decode cX6_pane 12 = .ok (.ireturn, 1) := by decide +kernel
theorem dX6_pane_13 : decode cX6_pane 13 = .ok (.iload_n 2, 1) := by decide +kernel
theorem dX6_pane_14 : decode cX6_pane 14 = .ok (.ifCond .lt 19, 3) := by decide +kernel
theorem dX6_pane_17 : decode cX6_pane 17 = .ok (.iload_n 2, 1) := by decide +kernel
theorem dX6_pane_18 : decode cX6_pane 18 = .ok (.bipush 9, 2) := by decide +kernel
theorem dX6_pane_20 : decode cX6_pane 20 = .ok (.if_icmp .gt 13, 3) := by decide +kernel
theorem dX6_pane_23 : decode cX6_pane 23 = .ok (.iload_n 3, 1) := by decide +kernel
theorem dX6_pane_24 : decode cX6_pane 24 = .ok (.ifCond .lt 9, 3) := by decide +kernel
theorem dX6_pane_27 : decode cX6_pane 27 = .ok (.iload_n 3, 1) := by decide +kernel
theorem dX6_pane_28 : decode cX6_pane 28 = .ok (.bipush 9, 2) := by decide +kernel
theorem dX6_pane_30 : decode cX6_pane 30 = .ok (.if_icmp .le 10, 3) := by decide +kernel
theorem dX6_pane_33 : decode cX6_pane 33 = .ok (.aload_n 0, 1) := by decide +kernel
theorem dX6_pane_34 : decode cX6_pane 34 = .ok (.bipush (-6), 2) := by decide +kernel
theorem dX6_pane_36 : decode cX6_pane 36 = .ok (.invokevirtual 64, 3) := by decide +kernel
theorem dX6_pane_39 : decode cX6_pane 39 = .ok (.ireturn, 1) := by decide +kernel
theorem dX6_pane_40 : decode cX6_pane 40 = .ok (.aload_n 0, 1) := by decide +kernel
theorem dX6_pane_41 : decode cX6_pane 41 = .ok (.getfield 10, 3) := by decide +kernel
theorem dX6_pane_44 : decode cX6_pane 44 = .ok (.invokevirtual 177, 3) := by decide +kernel
theorem dX6_pane_47 : decode cX6_pane 47 = .ok (.ifCond .ne 10, 3) := by decide +kernel
theorem dX6_pane_50 : decode cX6_pane 50 = .ok (.aload_n 0, 1) := by decide +kernel
theorem dX6_pane_51 : decode cX6_pane 51 = .ok (.bipush (-7), 2) := by decide +kernel
theorem dX6_pane_53 : decode cX6_pane 53 = .ok (.invokevirtual 64, 3) := by decide +kernel
theorem dX6_pane_56 : decode cX6_pane 56 = .ok (.ireturn, 1) := by decide +kernel
theorem dX6_pane_57 : decode cX6_pane 57 = .ok (.aload_n 0, 1) := by decide +kernel
theorem dX6_pane_58 : decode cX6_pane 58 = .ok (.getfield 10, 3) := by decide +kernel
theorem dX6_pane_61 : decode cX6_pane 61 = .ok (.iload_n 1, 1) := by decide +kernel
theorem dX6_pane_62 : decode cX6_pane 62 = .ok (.iload_n 2, 1) := by decide +kernel
theorem dX6_pane_63 : decode cX6_pane 63 = .ok (.iload_n 3, 1) := by decide +kernel
theorem dX6_pane_64 : decode cX6_pane 64 = .ok (.invokevirtual 180, 3) := by decide +kernel
theorem dX6_pane_67 : decode cX6_pane 67 = .ok (.ireturn, 1) := by decide +kernel
theorem dX6_paneOf_0 : decode cX6_paneOf 0 = .ok (.aload_n 0, 1) := by decide +kernel
theorem dX6_paneOf_1 : decode cX6_paneOf 1 = .ok (.getfield 10, 3) := by decide +kernel
theorem dX6_paneOf_4 : decode cX6_paneOf 4 = .ok (.iload_n 1, 1) := by decide +kernel
theorem dX6_paneOf_5 : decode cX6_paneOf 5 = .ok (.invokevirtual 102, 3) := by decide +kernel
theorem dX6_paneOf_8 : decode cX6_paneOf 8 = .ok (.astore_n 3, 1) := by decide +kernel
theorem dX6_paneOf_9 : decode cX6_paneOf 9 = .ok (.aload_n 3, 1) := by decide +kernel
theorem dX6_paneOf_10 : decode cX6_paneOf 10 = .ok (.ifnonnull 10, 3) := by decide +kernel
theorem dX6_paneOf_13 : decode cX6_paneOf 13 = .ok (.aload_n 0, 1) := by decide +kernel
theorem dX6_paneOf_14 : decode cX6_paneOf 14 = .ok (.bipush (-5), 2) := by decide +kernel
theorem dX6_paneOf_16 : decode cX6_paneOf 16 = .ok (.invokevirtual 64, 3) := by decide +kernel
theorem dX6_paneOf_19 : decode cX6_paneOf 19 = .ok (.ireturn, 1) := by decide +kernel
theorem dX6_paneOf_20 : decode cX6_paneOf 20 = .ok (.iload_n 2, 1) := by decide +kernel
theorem dX6_paneOf_21 : decode cX6_paneOf 21 = .ok (.tableswitch 74 0 4 #[35, 40, 45, 50, 69], 35) := by decide +kernel
theorem dX6_paneOf_56 : decode cX6_paneOf 56 = .ok (.aload_n 3, 1) := by decide +kernel
theorem dX6_paneOf_57 : decode cX6_paneOf 57 = .ok (.getfield 184, 3) := by decide +kernel
theorem dX6_paneOf_60 : decode cX6_paneOf 60 = .ok (.ireturn, 1) := by decide +kernel
theorem dX6_paneOf_61 : decode cX6_paneOf 61 = .ok (.aload_n 3, 1) := by decide +kernel
theorem dX6_paneOf_62 : decode cX6_paneOf 62 = .ok (.getfield 142, 3) := by decide +kernel
theorem dX6_paneOf_65 : decode cX6_paneOf 65 = .ok (.ireturn, 1) := by decide +kernel
theorem dX6_paneOf_66 : decode cX6_paneOf 66 = .ok (.aload_n 3, 1) := by decide +kernel
theorem dX6_paneOf_67 : decode cX6_paneOf 67 = .ok (.getfield 133, 3) := by decide +kernel
theorem dX6_paneOf_70 : decode cX6_paneOf 70 = .ok (.ireturn, 1) := by decide +kernel
theorem dX6_paneOf_71 : decode cX6_paneOf 71 = .ok (.aload_n 3, 1) := by decide +kernel
theorem dX6_paneOf_72 : decode cX6_paneOf 72 = .ok (.aload_n 0, 1) := by decide +kernel
theorem dX6_paneOf_73 : decode cX6_paneOf 73 = .ok (.getfield 10, 3) := by decide +kernel
theorem dX6_paneOf_76 : decode cX6_paneOf 76 = .ok (.getfield 136, 3) := by decide +kernel
theorem dX6_paneOf_79 : decode cX6_paneOf 79 = .ok (.aload_n 0, 1) := by decide +kernel
theorem dX6_paneOf_80 : decode cX6_paneOf 80 = .ok (.getfield 10, 3) := by decide +kernel
theorem dX6_paneOf_83 : decode cX6_paneOf 83 = .ok (.getfield 155, 3) := by decide +kernel
theorem dX6_paneOf_86 : decode cX6_paneOf 86 = .ok (.invokevirtual 158, 3) := by decide +kernel
theorem dX6_paneOf_89 : decode cX6_paneOf 89 = .ok (.ireturn, 1) := by decide +kernel
theorem dX6_paneOf_90 : decode cX6_paneOf 90 = .ok (.aload_n 3, 1) := by decide +kernel
theorem dX6_paneOf_91 : decode cX6_paneOf 91 = .ok (.getfield 187, 3) := by decide +kernel
theorem dX6_paneOf_94 : decode cX6_paneOf 94 = .ok (.ireturn, 1) := by decide +kernel
theorem dX6_paneOf_95 : decode cX6_paneOf 95 = .ok (.aload_n 0, 1) := by decide +kernel
theorem dX6_paneOf_96 : decode cX6_paneOf 96 = .ok (.bipush (-5), 2) := by decide +kernel
theorem dX6_paneOf_98 : decode cX6_paneOf 98 = .ok (.invokevirtual 64, 3) := by decide +kernel
theorem dX6_paneOf_101 : decode cX6_paneOf 101 = .ok (.ireturn, 1) := by decide +kernel
theorem dX6_hang_0 : decode cX6_hang 0 = .ok (.aload_n 0, 1) := by decide +kernel
theorem dX6_hang_1 : decode cX6_hang 1 = .ok (.getfield 10, 3) := by decide +kernel
theorem dX6_hang_4 : decode cX6_hang 4 = .ok (.iload_n 1, 1) := by decide +kernel
theorem dX6_hang_5 : decode cX6_hang 5 = .ok (.invokevirtual 102, 3) := by decide +kernel
theorem dX6_hang_8 : decode cX6_hang 8 = .ok (.astore_n 3, 1) := by decide +kernel
theorem dX6_hang_9 : decode cX6_hang 9 = .ok (.aload_n 3, 1) := by decide +kernel
theorem dX6_hang_10 : decode cX6_hang 10 = .ok (.ifnull 14, 3) := by decide +kernel
theorem dX6_hang_13 : decode cX6_hang 13 = .ok (.aload_n 0, 1) := by decide +kernel
theorem dX6_hang_14 : decode cX6_hang 14 = .ok (.getfield 10, 3) := by decide +kernel
theorem dX6_hang_17 : decode cX6_hang 17 = .ok (.iload_n 2, 1) := by decide +kernel
theorem dX6_hang_18 : decode cX6_hang 18 = .ok (.invokevirtual 190, 3) := by decide +kernel
theorem dX6_hang_21 : decode cX6_hang 21 = .ok (.ifCond .ne 9, 3) := by decide +kernel
theorem dX6_hang_24 : decode cX6_hang 24 = .ok (.aload_n 0, 1) := by decide +kernel
theorem dX6_hang_25 : decode cX6_hang 25 = .ok (.iconst (-1), 1) := by decide +kernel
theorem dX6_hang_26 : decode cX6_hang 26 = .ok (.invokevirtual 64, 3) := by decide +kernel
theorem dX6_hang_29 : decode cX6_hang 29 = .ok (.ireturn, 1) := by decide +kernel
theorem dX6_hang_30 : decode cX6_hang 30 = .ok (.aload_n 3, 1) := by decide +kernel
theorem dX6_hang_31 : decode cX6_hang 31 = .ok (.iload_n 2, 1) := by decide +kernel
theorem dX6_hang_32 : decode cX6_hang 32 = .ok (.putfield 193, 3) := by decide +kernel
theorem dX6_hang_35 : decode cX6_hang 35 = .ok (.iload_n 2, 1) := by decide +kernel
theorem dX6_hang_36 : decode cX6_hang 36 = .ok (.iconst (-1), 1) := by decide +kernel
theorem dX6_hang_37 : decode cX6_hang 37 = .ok (.if_icmp .ne 7, 3) := by decide +kernel
theorem dX6_hang_40 : decode cX6_hang 40 = .ok (.iconst 0, 1) := by decide +kernel
theorem dX6_hang_41 : decode cX6_hang 41 = .ok (.goto 4, 3) := by decide +kernel
theorem dX6_hang_44 : decode cX6_hang 44 = .ok (.iconst 1, 1) := by decide +kernel
theorem dX6_hang_45 : decode cX6_hang 45 = .ok (.ireturn, 1) := by decide +kernel
theorem dX6_hangs_0 : decode cX6_hangs 0 = .ok (.aload_n 0, 1) := by decide +kernel
theorem dX6_hangs_1 : decode cX6_hangs 1 = .ok (.getfield 10, 3) := by decide +kernel
theorem dX6_hangs_4 : decode cX6_hangs 4 = .ok (.iload_n 1, 1) := by decide +kernel
theorem dX6_hangs_5 : decode cX6_hangs 5 = .ok (.invokevirtual 102, 3) := by decide +kernel
theorem dX6_hangs_8 : decode cX6_hangs 8 = .ok (.astore_n 2, 1) := by decide +kernel
theorem dX6_hangs_9 : decode cX6_hangs 9 = .ok (.aload_n 2, 1) := by decide +kernel
theorem dX6_hangs_10 : decode cX6_hangs 10 = .ok (.ifnonnull 10, 3) := by decide +kernel
theorem dX6_hangs_13 : decode cX6_hangs 13 = .ok (.aload_n 0, 1) := by decide +kernel
theorem dX6_hangs_14 : decode cX6_hangs 14 = .ok (.invokevirtual 196, 3) := by decide +kernel
theorem dX6_hangs_17 : decode cX6_hangs 17 = .ok (.goto 7, 3) := by decide +kernel
theorem dX6_hangs_20 : decode cX6_hangs 20 = .ok (.aload_n 2, 1) := by decide +kernel
theorem dX6_hangs_21 : decode cX6_hangs 21 = .ok (.getfield 193, 3) := by decide +kernel
theorem dX6_hangs_24 : decode cX6_hangs 24 = .ok (.ireturn, 1) := by decide +kernel
theorem dX6_ask_0 : decode cX6_ask 0 = .ok (.iload_n 1, 1) := by decide +kernel
theorem dX6_ask_1 : decode cX6_ask 1 = .ok (.iload_n 2, 1) := by decide +kernel
theorem dX6_ask_2 : decode cX6_ask 2 = .ok (.invokestatic 199, 3) := by decide +kernel
theorem dX6_ask_5 : decode cX6_ask 5 = .ok (.ifCond .ne 10, 3) := by decide +kernel
theorem dX6_ask_8 : decode cX6_ask 8 = .ok (.aload_n 0, 1) := by decide +kernel
theorem dX6_ask_9 : decode cX6_ask 9 = .ok (.bipush (-6), 2) := by decide +kernel
theorem dX6_ask_11 : decode cX6_ask 11 = .ok (.invokevirtual 64, 3) := by decide +kernel
theorem dX6_ask_14 : decode cX6_ask 14 = .ok (.ireturn, 1) := by decide +kernel
theorem dX6_ask_15 : decode cX6_ask 15 = .ok (.aload_n 0, 1) := by decide +kernel
theorem dX6_ask_16 : decode cX6_ask 16 = .ok (.getfield 10, 3) := by decide +kernel
theorem dX6_ask_19 : decode cX6_ask 19 = .ok (.iload_n 1, 1) := by decide +kernel
theorem dX6_ask_20 : decode cX6_ask 20 = .ok (.iload_n 2, 1) := by decide +kernel
theorem dX6_ask_21 : decode cX6_ask 21 = .ok (.invokevirtual 203, 3) := by decide +kernel
theorem dX6_ask_24 : decode cX6_ask 24 = .ok (.ireturn, 1) := by decide +kernel
theorem dX6_room_0 : decode cX6_room 0 = .ok (.aload_n 0, 1) := by decide +kernel
theorem dX6_room_1 : decode cX6_room 1 = .ok (.getfield 10, 3) := by decide +kernel
theorem dX6_room_4 : decode cX6_room 4 = .ok (.iload_n 1, 1) := by decide +kernel
theorem dX6_room_5 : decode cX6_room 5 = .ok (.invokevirtual 102, 3) := by decide +kernel
theorem dX6_room_8 : decode cX6_room 8 = .ok (.astore_n 3, 1) := by decide +kernel
theorem dX6_room_9 : decode cX6_room 9 = .ok (.aload_n 3, 1) := by decide +kernel
theorem dX6_room_10 : decode cX6_room 10 = .ok (.ifnonnull 9, 3) := by decide +kernel
theorem dX6_room_13 : decode cX6_room 13 = .ok (.aload_n 0, 1) := by decide +kernel
theorem dX6_room_14 : decode cX6_room 14 = .ok (.iconst (-1), 1) := by decide +kernel
theorem dX6_room_15 : decode cX6_room 15 = .ok (.invokevirtual 64, 3) := by decide +kernel
theorem dX6_room_18 : decode cX6_room 18 = .ok (.ireturn, 1) := by decide +kernel
theorem dX6_room_19 : decode cX6_room 19 = .ok (.iload_n 2, 1) := by decide +kernel
theorem dX6_room_20 : decode cX6_room 20 = .ok (.ifCond .lt 9, 3) := by decide +kernel
theorem dX6_room_23 : decode cX6_room 23 = .ok (.iload_n 2, 1) := by decide +kernel
theorem dX6_room_24 : decode cX6_room 24 = .ok (.bipush 9, 2) := by decide +kernel
theorem dX6_room_26 : decode cX6_room 26 = .ok (.if_icmp .le 10, 3) := by decide +kernel
theorem dX6_room_29 : decode cX6_room 29 = .ok (.aload_n 0, 1) := by decide +kernel
theorem dX6_room_30 : decode cX6_room 30 = .ok (.bipush (-6), 2) := by decide +kernel
theorem dX6_room_32 : decode cX6_room 32 = .ok (.invokevirtual 64, 3) := by decide +kernel
theorem dX6_room_35 : decode cX6_room 35 = .ok (.ireturn, 1) := by decide +kernel
theorem dX6_room_36 : decode cX6_room 36 = .ok (.aload_n 3, 1) := by decide +kernel
theorem dX6_room_37 : decode cX6_room 37 = .ok (.getfield 142, 3) := by decide +kernel
theorem dX6_room_40 : decode cX6_room 40 = .ok (.istore 4, 2) := by decide +kernel
theorem dX6_room_42 : decode cX6_room 42 = .ok (.aload_n 3, 1) := by decide +kernel
theorem dX6_room_43 : decode cX6_room 43 = .ok (.iload_n 2, 1) := by decide +kernel
theorem dX6_room_44 : decode cX6_room 44 = .ok (.putfield 142, 3) := by decide +kernel
theorem dX6_room_47 : decode cX6_room 47 = .ok (.iload 4, 2) := by decide +kernel
theorem dX6_room_49 : decode cX6_room 49 = .ok (.ireturn, 1) := by decide +kernel
theorem dX6_press_0 : decode cX6_press 0 = .ok (.aload_n 0, 1) := by decide +kernel
theorem dX6_press_1 : decode cX6_press 1 = .ok (.iload_n 1, 1) := by decide +kernel
theorem dX6_press_2 : decode cX6_press 2 = .ok (.invokevirtual 60, 3) := by decide +kernel
theorem dX6_press_5 : decode cX6_press 5 = .ok (.astore_n 2, 1) := by decide +kernel
theorem dX6_press_6 : decode cX6_press 6 = .ok (.aload_n 2, 1) := by decide +kernel
theorem dX6_press_7 : decode cX6_press 7 = .ok (.ifnull 10, 3) := by decide +kernel
theorem dX6_press_10 : decode cX6_press 10 = .ok (.aload_n 2, 1) := by decide +kernel
theorem dX6_press_11 : decode cX6_press 11 = .ok (.invokevirtual 72, 3) := by decide +kernel
theorem dX6_press_14 : decode cX6_press 14 = .ok (.ifCond .ne 12, 3) := by decide +kernel
theorem dX6_press_17 : decode cX6_press 17 = .ok (.aload_n 0, 1) := by decide +kernel
theorem dX6_press_18 : decode cX6_press 18 = .ok (.aload_n 2, 1) := by decide +kernel
theorem dX6_press_19 : decode cX6_press 19 = .ok (.invokestatic 76, 3) := by decide +kernel
theorem dX6_press_22 : decode cX6_press 22 = .ok (.invokevirtual 64, 3) := by decide +kernel
theorem dX6_press_25 : decode cX6_press 25 = .ok (.ireturn, 1) := by decide +kernel
theorem dX6_press_26 : decode cX6_press 26 = .ok (.aload_n 0, 1) := by decide +kernel
theorem dX6_press_27 : decode cX6_press 27 = .ok (.getfield 19, 3) := by decide +kernel
theorem dX6_press_30 : decode cX6_press 30 = .ok (.aload_n 0, 1) := by decide +kernel
theorem dX6_press_31 : decode cX6_press 31 = .ok (.getfield 10, 3) := by decide +kernel
theorem dX6_press_34 : decode cX6_press 34 = .ok (.invokevirtual 206, 3) := by decide +kernel
theorem dX6_press_37 : decode cX6_press 37 = .ok (.aload_n 0, 1) := by decide +kernel
theorem dX6_press_38 : decode cX6_press 38 = .ok (.getfield 41, 3) := by decide +kernel
theorem dX6_press_41 : decode cX6_press 41 = .ok (.aload_n 2, 1) := by decide +kernel
theorem dX6_press_42 : decode cX6_press 42 = .ok (.aload_n 0, 1) := by decide +kernel
theorem dX6_press_43 : decode cX6_press 43 = .ok (.getfield 19, 3) := by decide +kernel
theorem dX6_press_46 : decode cX6_press 46 = .ok (.invokevirtual 209, 3) := by decide +kernel
theorem dX6_press_49 : decode cX6_press 49 = .ok (.istore_n 3, 1) := by decide +kernel
theorem dX6_press_50 : decode cX6_press 50 = .ok (.iload_n 3, 1) := by decide +kernel
theorem dX6_press_51 : decode cX6_press 51 = .ok (.iconst (-1), 1) := by decide +kernel
theorem dX6_press_52 : decode cX6_press 52 = .ok (.if_icmp .ne 10, 3) := by decide +kernel
theorem dX6_press_55 : decode cX6_press 55 = .ok (.aload_n 0, 1) := by decide +kernel
theorem dX6_press_56 : decode cX6_press 56 = .ok (.bipush (-6), 2) := by decide +kernel
theorem dX6_press_58 : decode cX6_press 58 = .ok (.invokevirtual 64, 3) := by decide +kernel
theorem dX6_press_61 : decode cX6_press 61 = .ok (.ireturn, 1) := by decide +kernel
theorem dX6_press_62 : decode cX6_press 62 = .ok (.aload_n 0, 1) := by decide +kernel
theorem dX6_press_63 : decode cX6_press 63 = .ok (.getfield 10, 3) := by decide +kernel
theorem dX6_press_66 : decode cX6_press 66 = .ok (.aload_n 0, 1) := by decide +kernel
theorem dX6_press_67 : decode cX6_press 67 = .ok (.getfield 19, 3) := by decide +kernel
theorem dX6_press_70 : decode cX6_press 70 = .ok (.invokevirtual 206, 3) := by decide +kernel
theorem dX6_press_73 : decode cX6_press 73 = .ok (.iload_n 3, 1) := by decide +kernel
theorem dX6_press_74 : decode cX6_press 74 = .ok (.ireturn, 1) := by decide +kernel
theorem dX6_fault_0 : decode cX6_fault 0 = .ok (.aload_n 0, 1) := by decide +kernel
theorem dX6_fault_1 : decode cX6_fault 1 = .ok (.getfield 41, 3) := by decide +kernel
theorem dX6_fault_4 : decode cX6_fault 4 = .ok (.getfield 213, 3) := by decide +kernel
theorem dX6_fault_7 : decode cX6_fault 7 = .ok (.ireturn, 1) := by decide +kernel
theorem dX6_melt_0 : decode cX6_melt 0 = .ok (.aload_n 0, 1) := by decide +kernel
theorem dX6_melt_1 : decode cX6_melt 1 = .ok (.getfield 10, 3) := by decide +kernel
theorem dX6_melt_4 : decode cX6_melt 4 = .ok (.iload_n 1, 1) := by decide +kernel
theorem dX6_melt_5 : decode cX6_melt 5 = .ok (.invokevirtual 102, 3) := by decide +kernel
theorem dX6_melt_8 : decode cX6_melt 8 = .ok (.astore_n 3, 1) := by decide +kernel
theorem dX6_melt_9 : decode cX6_melt 9 = .ok (.aload_n 3, 1) := by decide +kernel
theorem dX6_melt_10 : decode cX6_melt 10 = .ok (.ifnonnull 9, 3) := by decide +kernel
theorem dX6_melt_13 : decode cX6_melt 13 = .ok (.aload_n 0, 1) := by decide +kernel
theorem dX6_melt_14 : decode cX6_melt 14 = .ok (.iconst (-1), 1) := by decide +kernel
theorem dX6_melt_15 : decode cX6_melt 15 = .ok (.invokevirtual 64, 3) := by decide +kernel
theorem dX6_melt_18 : decode cX6_melt 18 = .ok (.ireturn, 1) := by decide +kernel
theorem dX6_melt_19 : decode cX6_melt 19 = .ok (.iload_n 2, 1) := by decide +kernel
theorem dX6_melt_20 : decode cX6_melt 20 = .ok (.ifCond .lt 9, 3) := by decide +kernel
theorem dX6_melt_23 : decode cX6_melt 23 = .ok (.iload_n 2, 1) := by decide +kernel
theorem dX6_melt_24 : decode cX6_melt 24 = .ok (.bipush 24, 2) := by decide +kernel
theorem dX6_melt_26 : decode cX6_melt 26 = .ok (.if_icmp .lt 10, 3) := by decide +kernel
theorem dX6_melt_29 : decode cX6_melt 29 = .ok (.aload_n 0, 1) := by decide +kernel
theorem dX6_melt_30 : decode cX6_melt 30 = .ok (.bipush (-6), 2) := by decide +kernel
theorem dX6_melt_32 : decode cX6_melt 32 = .ok (.invokevirtual 64, 3) := by decide +kernel
theorem dX6_melt_35 : decode cX6_melt 35 = .ok (.ireturn, 1) := by decide +kernel
theorem dX6_melt_36 : decode cX6_melt 36 = .ok (.aload_n 3, 1) := by decide +kernel
theorem dX6_melt_37 : decode cX6_melt 37 = .ok (.iload_n 2, 1) := by decide +kernel
theorem dX6_melt_38 : decode cX6_melt 38 = .ok (.aload_n 0, 1) := by decide +kernel
theorem dX6_melt_39 : decode cX6_melt 39 = .ok (.getfield 10, 3) := by decide +kernel
theorem dX6_melt_42 : decode cX6_melt 42 = .ok (.getfield 145, 3) := by decide +kernel
theorem dX6_melt_45 : decode cX6_melt 45 = .ok (.invokevirtual 148, 3) := by decide +kernel
theorem dX6_melt_48 : decode cX6_melt 48 = .ok (.ireturn, 1) := by decide +kernel
theorem dX6_ice_0 : decode cX6_ice 0 = .ok (.aload_n 0, 1) := by decide +kernel
theorem dX6_ice_1 : decode cX6_ice 1 = .ok (.getfield 10, 3) := by decide +kernel
theorem dX6_ice_4 : decode cX6_ice 4 = .ok (.iload_n 1, 1) := by decide +kernel
theorem dX6_ice_5 : decode cX6_ice 5 = .ok (.invokevirtual 102, 3) := by decide +kernel
theorem dX6_ice_8 : decode cX6_ice 8 = .ok (.astore 5, 2) := by decide +kernel
theorem dX6_ice_10 : decode cX6_ice 10 = .ok (.aload 5, 2) := by decide +kernel
theorem dX6_ice_12 : decode cX6_ice 12 = .ok (.ifnull 14, 3) := by decide +kernel
theorem dX6_ice_15 : decode cX6_ice 15 = .ok (.aload_n 0, 1) := by decide +kernel
theorem dX6_ice_16 : decode cX6_ice 16 = .ok (.getfield 10, 3) := by decide +kernel
theorem dX6_ice_19 : decode cX6_ice 19 = .ok (.iload_n 2, 1) := by decide +kernel
theorem dX6_ice_20 : decode cX6_ice 20 = .ok (.invokevirtual 190, 3) := by decide +kernel
theorem dX6_ice_23 : decode cX6_ice 23 = .ok (.ifCond .ne 9, 3) := by decide +kernel
theorem dX6_ice_26 : decode cX6_ice 26 = .ok (.aload_n 0, 1) := by decide +kernel
theorem dX6_ice_27 : decode cX6_ice 27 = .ok (.iconst (-1), 1) := by decide +kernel
theorem dX6_ice_28 : decode cX6_ice 28 = .ok (.invokevirtual 64, 3) := by decide +kernel
theorem dX6_ice_31 : decode cX6_ice 31 = .ok (.ireturn, 1) := by decide +kernel
theorem dX6_ice_32 : decode cX6_ice 32 = .ok (.iload 4, 2) := by decide +kernel
theorem dX6_ice_34 : decode cX6_ice 34 = .ok (.invokestatic 216, 3) := by decide +kernel
theorem dX6_ice_37 : decode cX6_ice 37 = .ok (.ifCond .ne 10, 3) := by decide +kernel
theorem dX6_ice_40 : decode cX6_ice 40 = .ok (.aload_n 0, 1) := by decide +kernel
theorem dX6_ice_41 : decode cX6_ice 41 = .ok (.bipush (-5), 2) := by decide +kernel
theorem dX6_ice_43 : decode cX6_ice 43 = .ok (.invokevirtual 64, 3) := by decide +kernel
theorem dX6_ice_46 : decode cX6_ice 46 = .ok (.ireturn, 1) := by decide +kernel
theorem dX6_ice_47 : decode cX6_ice 47 = .ok (.iload_n 3, 1) := by decide +kernel
theorem dX6_ice_48 : decode cX6_ice 48 = .ok (.invokestatic 219, 3) := by decide +kernel
theorem dX6_ice_51 : decode cX6_ice 51 = .ok (.ifCond .ne 10, 3) := by decide +kernel
theorem dX6_ice_54 : decode cX6_ice 54 = .ok (.aload_n 0, 1) := by decide +kernel
theorem dX6_ice_55 : decode cX6_ice 55 = .ok (.bipush (-6), 2) := by decide +kernel
theorem dX6_ice_57 : decode cX6_ice 57 = .ok (.invokevirtual 64, 3) := by decide +kernel
theorem dX6_ice_60 : decode cX6_ice 60 = .ok (.ireturn, 1) := by decide +kernel
theorem dX6_ice_61 : decode cX6_ice 61 = .ok (.aload_n 0, 1) := by decide +kernel
theorem dX6_ice_62 : decode cX6_ice 62 = .ok (.getfield 27, 3) := by decide +kernel
theorem dX6_ice_65 : decode cX6_ice 65 = .ok (.aload 5, 2) := by decide +kernel
theorem dX6_ice_67 : decode cX6_ice 67 = .ok (.iload_n 2, 1) := by decide +kernel
theorem dX6_ice_68 : decode cX6_ice 68 = .ok (.iload_n 3, 1) := by decide +kernel
theorem dX6_ice_69 : decode cX6_ice 69 = .ok (.iload 4, 2) := by decide +kernel
theorem dX6_ice_71 : decode cX6_ice 71 = .ok (.invokevirtual 222, 3) := by decide +kernel
theorem dX6_ice_74 : decode cX6_ice 74 = .ok (.ireturn, 1) := by decide +kernel
theorem dX6_shape_0 : decode cX6_shape 0 = .ok (.aload_n 0, 1) := by decide +kernel
theorem dX6_shape_1 : decode cX6_shape 1 = .ok (.getfield 10, 3) := by decide +kernel
theorem dX6_shape_4 : decode cX6_shape 4 = .ok (.iload_n 1, 1) := by decide +kernel
theorem dX6_shape_5 : decode cX6_shape 5 = .ok (.invokevirtual 102, 3) := by decide +kernel
theorem dX6_shape_8 : decode cX6_shape 8 = .ok (.astore 4, 2) := by decide +kernel
theorem dX6_shape_10 : decode cX6_shape 10 = .ok (.aload 4, 2) := by decide +kernel
theorem dX6_shape_12 : decode cX6_shape 12 = .ok (.ifnull 14, 3) := by decide +kernel
theorem dX6_shape_15 : decode cX6_shape 15 = .ok (.aload_n 0, 1) := by decide +kernel
theorem dX6_shape_16 : decode cX6_shape 16 = .ok (.getfield 10, 3) := by decide +kernel
theorem dX6_shape_19 : decode cX6_shape 19 = .ok (.iload_n 2, 1) := by decide +kernel
theorem dX6_shape_20 : decode cX6_shape 20 = .ok (.invokevirtual 190, 3) := by decide +kernel
theorem dX6_shape_23 : decode cX6_shape 23 = .ok (.ifCond .ne 9, 3) := by decide +kernel
theorem dX6_shape_26 : decode cX6_shape 26 = .ok (.aload_n 0, 1) := by decide +kernel
theorem dX6_shape_27 : decode cX6_shape 27 = .ok (.iconst (-1), 1) := by decide +kernel
theorem dX6_shape_28 : decode cX6_shape 28 = .ok (.invokevirtual 64, 3) := by decide +kernel
theorem dX6_shape_31 : decode cX6_shape 31 = .ok (.ireturn, 1) := by decide +kernel
theorem dX6_shape_32 : decode cX6_shape 32 = .ok (.iload_n 3, 1) := by decide +kernel
theorem dX6_shape_33 : decode cX6_shape 33 = .ok (.invokestatic 219, 3) := by decide +kernel
theorem dX6_shape_36 : decode cX6_shape 36 = .ok (.ifCond .ne 10, 3) := by decide +kernel
theorem dX6_shape_39 : decode cX6_shape 39 = .ok (.aload_n 0, 1) := by decide +kernel
theorem dX6_shape_40 : decode cX6_shape 40 = .ok (.bipush (-6), 2) := by decide +kernel
theorem dX6_shape_42 : decode cX6_shape 42 = .ok (.invokevirtual 64, 3) := by decide +kernel
theorem dX6_shape_45 : decode cX6_shape 45 = .ok (.ireturn, 1) := by decide +kernel
theorem dX6_shape_46 : decode cX6_shape 46 = .ok (.aload_n 0, 1) := by decide +kernel
theorem dX6_shape_47 : decode cX6_shape 47 = .ok (.getfield 27, 3) := by decide +kernel
theorem dX6_shape_50 : decode cX6_shape 50 = .ok (.aload 4, 2) := by decide +kernel
theorem dX6_shape_52 : decode cX6_shape 52 = .ok (.iload_n 2, 1) := by decide +kernel
theorem dX6_shape_53 : decode cX6_shape 53 = .ok (.iload_n 3, 1) := by decide +kernel
theorem dX6_shape_54 : decode cX6_shape 54 = .ok (.invokevirtual 226, 3) := by decide +kernel
theorem dX6_shape_57 : decode cX6_shape 57 = .ok (.ireturn, 1) := by decide +kernel
theorem dX6_reads_0 : decode cX6_reads 0 = .ok (.iload_n 1, 1) := by decide +kernel
theorem dX6_reads_1 : decode cX6_reads 1 = .ok (.invokestatic 162, 3) := by decide +kernel
theorem dX6_reads_4 : decode cX6_reads 4 = .ok (.ifCond .ne 8, 3) := by decide +kernel
theorem dX6_reads_7 : decode cX6_reads 7 = .ok (.aload_n 0, 1) := by decide +kernel
theorem dX6_reads_8 : decode cX6_reads 8 = .ok (.invokevirtual 230, 3) := by decide +kernel
theorem dX6_reads_11 : decode cX6_reads 11 = .ok (.ireturn, 1) := by decide +kernel
theorem dX6_reads_12 : decode cX6_reads 12 = .ok (.aload_n 0, 1) := by decide +kernel
theorem dX6_reads_13 : decode cX6_reads 13 = .ok (.getfield 10, 3) := by decide +kernel
theorem dX6_reads_16 : decode cX6_reads 16 = .ok (.iload_n 1, 1) := by decide +kernel
theorem dX6_reads_17 : decode cX6_reads 17 = .ok (.invokevirtual 233, 3) := by decide +kernel
theorem dX6_reads_20 : decode cX6_reads 20 = .ok (.ireturn, 1) := by decide +kernel
theorem dX6_readsAs_0 : decode cX6_readsAs 0 = .ok (.aload_n 0, 1) := by decide +kernel
theorem dX6_readsAs_1 : decode cX6_readsAs 1 = .ok (.getfield 10, 3) := by decide +kernel
theorem dX6_readsAs_4 : decode cX6_readsAs 4 = .ok (.iload_n 1, 1) := by decide +kernel
theorem dX6_readsAs_5 : decode cX6_readsAs 5 = .ok (.invokevirtual 102, 3) := by decide +kernel
theorem dX6_readsAs_8 : decode cX6_readsAs 8 = .ok (.astore 4, 2) := by decide +kernel
theorem dX6_readsAs_10 : decode cX6_readsAs 10 = .ok (.aload 4, 2) := by decide +kernel
theorem dX6_readsAs_12 : decode cX6_readsAs 12 = .ok (.ifnull 14, 3) := by decide +kernel
theorem dX6_readsAs_15 : decode cX6_readsAs 15 = .ok (.aload_n 0, 1) := by decide +kernel
theorem dX6_readsAs_16 : decode cX6_readsAs 16 = .ok (.getfield 10, 3) := by decide +kernel
theorem dX6_readsAs_19 : decode cX6_readsAs 19 = .ok (.iload_n 2, 1) := by decide +kernel
theorem dX6_readsAs_20 : decode cX6_readsAs 20 = .ok (.invokevirtual 190, 3) := by decide +kernel
theorem dX6_readsAs_23 : decode cX6_readsAs 23 = .ok (.ifCond .ne 8, 3) := by decide +kernel
theorem dX6_readsAs_26 : decode cX6_readsAs 26 = .ok (.aload_n 0, 1) := by decide +kernel
theorem dX6_readsAs_27 : decode cX6_readsAs 27 = .ok (.invokevirtual 196, 3) := by decide +kernel
theorem dX6_readsAs_30 : decode cX6_readsAs 30 = .ok (.ireturn, 1) := by decide +kernel
theorem dX6_readsAs_31 : decode cX6_readsAs 31 = .ok (.iload_n 3, 1) := by decide +kernel
theorem dX6_readsAs_32 : decode cX6_readsAs 32 = .ok (.invokestatic 219, 3) := by decide +kernel
theorem dX6_readsAs_35 : decode cX6_readsAs 35 = .ok (.ifCond .ne 8, 3) := by decide +kernel
theorem dX6_readsAs_38 : decode cX6_readsAs 38 = .ok (.aload_n 0, 1) := by decide +kernel
theorem dX6_readsAs_39 : decode cX6_readsAs 39 = .ok (.invokevirtual 230, 3) := by decide +kernel
theorem dX6_readsAs_42 : decode cX6_readsAs 42 = .ok (.ireturn, 1) := by decide +kernel
theorem dX6_readsAs_43 : decode cX6_readsAs 43 = .ok (.aload_n 0, 1) := by decide +kernel
theorem dX6_readsAs_44 : decode cX6_readsAs 44 = .ok (.getfield 10, 3) := by decide +kernel
theorem dX6_readsAs_47 : decode cX6_readsAs 47 = .ok (.aload_n 0, 1) := by decide +kernel
theorem dX6_readsAs_48 : decode cX6_readsAs 48 = .ok (.getfield 27, 3) := by decide +kernel
theorem dX6_readsAs_51 : decode cX6_readsAs 51 = .ok (.aload 4, 2) := by decide +kernel
theorem dX6_readsAs_53 : decode cX6_readsAs 53 = .ok (.iload_n 2, 1) := by decide +kernel
theorem dX6_readsAs_54 : decode cX6_readsAs 54 = .ok (.iload_n 3, 1) := by decide +kernel
theorem dX6_readsAs_55 : decode cX6_readsAs 55 = .ok (.invokevirtual 226, 3) := by decide +kernel
theorem dX6_readsAs_58 : decode cX6_readsAs 58 = .ok (.invokevirtual 233, 3) := by decide +kernel
theorem dX6_readsAs_61 : decode cX6_readsAs 61 = .ok (.ireturn, 1) := by decide +kernel
theorem dX6_lasts_0 : decode cX6_lasts 0 = .ok (.aload_n 0, 1) := by decide +kernel
theorem dX6_lasts_1 : decode cX6_lasts 1 = .ok (.getfield 10, 3) := by decide +kernel
theorem dX6_lasts_4 : decode cX6_lasts 4 = .ok (.iload_n 1, 1) := by decide +kernel
theorem dX6_lasts_5 : decode cX6_lasts 5 = .ok (.invokevirtual 102, 3) := by decide +kernel
theorem dX6_lasts_8 : decode cX6_lasts 8 = .ok (.astore_n 3, 1) := by decide +kernel
theorem dX6_lasts_9 : decode cX6_lasts 9 = .ok (.aload_n 3, 1) := by decide +kernel
theorem dX6_lasts_10 : decode cX6_lasts 10 = .ok (.ifnull 14, 3) := by decide +kernel
theorem dX6_lasts_13 : decode cX6_lasts 13 = .ok (.aload_n 0, 1) := by decide +kernel
theorem dX6_lasts_14 : decode cX6_lasts 14 = .ok (.getfield 10, 3) := by decide +kernel
theorem dX6_lasts_17 : decode cX6_lasts 17 = .ok (.iload_n 2, 1) := by decide +kernel
theorem dX6_lasts_18 : decode cX6_lasts 18 = .ok (.invokevirtual 171, 3) := by decide +kernel
theorem dX6_lasts_21 : decode cX6_lasts 21 = .ok (.ifCond .ne 8, 3) := by decide +kernel
theorem dX6_lasts_24 : decode cX6_lasts 24 = .ok (.aload_n 0, 1) := by decide +kernel
theorem dX6_lasts_25 : decode cX6_lasts 25 = .ok (.invokevirtual 196, 3) := by decide +kernel
theorem dX6_lasts_28 : decode cX6_lasts 28 = .ok (.ireturn, 1) := by decide +kernel
theorem dX6_lasts_29 : decode cX6_lasts 29 = .ok (.aload_n 0, 1) := by decide +kernel
theorem dX6_lasts_30 : decode cX6_lasts 30 = .ok (.getfield 27, 3) := by decide +kernel
theorem dX6_lasts_33 : decode cX6_lasts 33 = .ok (.aload_n 3, 1) := by decide +kernel
theorem dX6_lasts_34 : decode cX6_lasts 34 = .ok (.iload_n 2, 1) := by decide +kernel
theorem dX6_lasts_35 : decode cX6_lasts 35 = .ok (.invokevirtual 236, 3) := by decide +kernel
theorem dX6_lasts_38 : decode cX6_lasts 38 = .ok (.ireturn, 1) := by decide +kernel
theorem dX6_page_0 : decode cX6_page 0 = .ok (.iload_n 1, 1) := by decide +kernel
theorem dX6_page_1 : decode cX6_page 1 = .ok (.invokestatic 219, 3) := by decide +kernel
theorem dX6_page_4 : decode cX6_page 4 = .ok (.ifCond .ne 10, 3) := by decide +kernel
theorem dX6_page_7 : decode cX6_page 7 = .ok (.aload_n 0, 1) := by decide +kernel
theorem dX6_page_8 : decode cX6_page 8 = .ok (.bipush (-6), 2) := by decide +kernel
theorem dX6_page_10 : decode cX6_page 10 = .ok (.invokevirtual 64, 3) := by decide +kernel
theorem dX6_page_13 : decode cX6_page 13 = .ok (.ireturn, 1) := by decide +kernel
theorem dX6_page_14 : decode cX6_page 14 = .ok (.aload_n 0, 1) := by decide +kernel
theorem dX6_page_15 : decode cX6_page 15 = .ok (.getfield 27, 3) := by decide +kernel
theorem dX6_page_18 : decode cX6_page 18 = .ok (.iload_n 1, 1) := by decide +kernel
theorem dX6_page_19 : decode cX6_page 19 = .ok (.invokevirtual 239, 3) := by decide +kernel
theorem dX6_page_22 : decode cX6_page 22 = .ok (.ireturn, 1) := by decide +kernel
theorem dX6_prints_0 : decode cX6_prints 0 = .ok (.aload_n 0, 1) := by decide +kernel
theorem dX6_prints_1 : decode cX6_prints 1 = .ok (.iload_n 1, 1) := by decide +kernel
theorem dX6_prints_2 : decode cX6_prints 2 = .ok (.invokevirtual 60, 3) := by decide +kernel
theorem dX6_prints_5 : decode cX6_prints 5 = .ok (.astore 5, 2) := by decide +kernel
theorem dX6_prints_7 : decode cX6_prints 7 = .ok (.aload 5, 2) := by decide +kernel
theorem dX6_prints_9 : decode cX6_prints 9 = .ok (.ifnull 11, 3) := by decide +kernel
theorem dX6_prints_12 : decode cX6_prints 12 = .ok (.aload 5, 2) := by decide +kernel
theorem dX6_prints_14 : decode cX6_prints 14 = .ok (.invokevirtual 72, 3) := by decide +kernel
theorem dX6_prints_17 : decode cX6_prints 17 = .ok (.ifCond .ne 13, 3) := by decide +kernel
theorem dX6_prints_20 : decode cX6_prints 20 = .ok (.aload_n 0, 1) := by decide +kernel
theorem dX6_prints_21 : decode cX6_prints 21 = .ok (.aload 5, 2) := by decide +kernel
theorem dX6_prints_23 : decode cX6_prints 23 = .ok (.invokestatic 76, 3) := by decide +kernel
theorem dX6_prints_26 : decode cX6_prints 26 = .ok (.invokevirtual 64, 3) := by decide +kernel
theorem dX6_prints_29 : decode cX6_prints 29 = .ok (.ireturn, 1) := by decide +kernel
theorem dX6_prints_30 : decode cX6_prints 30 = .ok (.iload_n 2, 1) := by decide +kernel
theorem dX6_prints_31 : decode cX6_prints 31 = .ok (.ifCond .ge 10, 3) := by decide +kernel
theorem dX6_prints_34 : decode cX6_prints 34 = .ok (.aload_n 0, 1) := by decide +kernel
theorem dX6_prints_35 : decode cX6_prints 35 = .ok (.bipush (-4), 2) := by decide +kernel
theorem dX6_prints_37 : decode cX6_prints 37 = .ok (.invokevirtual 64, 3) := by decide +kernel
theorem dX6_prints_40 : decode cX6_prints 40 = .ok (.ireturn, 1) := by decide +kernel
theorem dX6_prints_41 : decode cX6_prints 41 = .ok (.iload_n 2, 1) := by decide +kernel
theorem dX6_prints_42 : decode cX6_prints 42 = .ok (.aload 5, 2) := by decide +kernel
theorem dX6_prints_44 : decode cX6_prints 44 = .ok (.getfield 80, 3) := by decide +kernel
theorem dX6_prints_47 : decode cX6_prints 47 = .ok (.if_icmp .gt 15, 3) := by decide +kernel
theorem dX6_prints_50 : decode cX6_prints 50 = .ok (.iload 4, 2) := by decide +kernel
theorem dX6_prints_52 : decode cX6_prints 52 = .ok (.iconst (-1), 1) := by decide +kernel
theorem dX6_prints_53 : decode cX6_prints 53 = .ok (.if_icmp .lt 9, 3) := by decide +kernel
theorem dX6_prints_56 : decode cX6_prints 56 = .ok (.iload 4, 2) := by decide +kernel
theorem dX6_prints_58 : decode cX6_prints 58 = .ok (.iload_n 2, 1) := by decide +kernel
theorem dX6_prints_59 : decode cX6_prints 59 = .ok (.if_icmp .lt 10, 3) := by decide +kernel
theorem dX6_prints_62 : decode cX6_prints 62 = .ok (.aload_n 0, 1) := by decide +kernel
theorem dX6_prints_63 : decode cX6_prints 63 = .ok (.bipush (-5), 2) := by decide +kernel
theorem dX6_prints_65 : decode cX6_prints 65 = .ok (.invokevirtual 64, 3) := by decide +kernel
theorem dX6_prints_68 : decode cX6_prints 68 = .ok (.ireturn, 1) := by decide +kernel
theorem dX6_prints_69 : decode cX6_prints 69 = .ok (.iload_n 3, 1) := by decide +kernel
theorem dX6_prints_70 : decode cX6_prints 70 = .ok (.invokestatic 219, 3) := by decide +kernel
theorem dX6_prints_73 : decode cX6_prints 73 = .ok (.ifCond .eq 13, 3) := by decide +kernel
theorem dX6_prints_76 : decode cX6_prints 76 = .ok (.aload_n 0, 1) := by decide +kernel
theorem dX6_prints_77 : decode cX6_prints 77 = .ok (.aload 5, 2) := by decide +kernel
theorem dX6_prints_79 : decode cX6_prints 79 = .ok (.iload_n 2, 1) := by decide +kernel
theorem dX6_prints_80 : decode cX6_prints 80 = .ok (.invokevirtual 242, 3) := by decide +kernel
theorem dX6_prints_83 : decode cX6_prints 83 = .ok (.ifCond .ne 10, 3) := by decide +kernel
theorem dX6_prints_86 : decode cX6_prints 86 = .ok (.aload_n 0, 1) := by decide +kernel
theorem dX6_prints_87 : decode cX6_prints 87 = .ok (.bipush (-6), 2) := by decide +kernel
theorem dX6_prints_89 : decode cX6_prints 89 = .ok (.invokevirtual 64, 3) := by decide +kernel
theorem dX6_prints_92 : decode cX6_prints 92 = .ok (.ireturn, 1) := by decide +kernel
theorem dX6_prints_93 : decode cX6_prints 93 = .ok (.iload_n 2, 1) := by decide +kernel
theorem dX6_prints_94 : decode cX6_prints 94 = .ok (.aload_n 0, 1) := by decide +kernel
theorem dX6_prints_95 : decode cX6_prints 95 = .ok (.getfield 10, 3) := by decide +kernel
theorem dX6_prints_98 : decode cX6_prints 98 = .ok (.getfield 246, 3) := by decide +kernel
theorem dX6_prints_101 : decode cX6_prints 101 = .ok (.if_icmp .le 10, 3) := by decide +kernel
theorem dX6_prints_104 : decode cX6_prints 104 = .ok (.aload_n 0, 1) := by decide +kernel
theorem dX6_prints_105 : decode cX6_prints 105 = .ok (.bipush (-7), 2) := by decide +kernel
theorem dX6_prints_107 : decode cX6_prints 107 = .ok (.invokevirtual 64, 3) := by decide +kernel
theorem dX6_prints_110 : decode cX6_prints 110 = .ok (.ireturn, 1) := by decide +kernel
theorem dX6_prints_111 : decode cX6_prints 111 = .ok (.aload_n 0, 1) := by decide +kernel
theorem dX6_prints_112 : decode cX6_prints 112 = .ok (.getfield 27, 3) := by decide +kernel
theorem dX6_prints_115 : decode cX6_prints 115 = .ok (.aload 5, 2) := by decide +kernel
theorem dX6_prints_117 : decode cX6_prints 117 = .ok (.iload_n 2, 1) := by decide +kernel
theorem dX6_prints_118 : decode cX6_prints 118 = .ok (.iload_n 3, 1) := by decide +kernel
theorem dX6_prints_119 : decode cX6_prints 119 = .ok (.invokevirtual 249, 3) := by decide +kernel
theorem dX6_prints_122 : decode cX6_prints 122 = .ok (.aload_n 0, 1) := by decide +kernel
theorem dX6_prints_123 : decode cX6_prints 123 = .ok (.getfield 27, 3) := by decide +kernel
theorem dX6_prints_126 : decode cX6_prints 126 = .ok (.aload 5, 2) := by decide +kernel
theorem dX6_prints_128 : decode cX6_prints 128 = .ok (.iload_n 2, 1) := by decide +kernel
theorem dX6_prints_129 : decode cX6_prints 129 = .ok (.invokevirtual 253, 3) := by decide +kernel
theorem dX6_prints_132 : decode cX6_prints 132 = .ok (.iload 4, 2) := by decide +kernel
theorem dX6_prints_134 : decode cX6_prints 134 = .ok (.iconst (-1), 1) := by decide +kernel
theorem dX6_prints_135 : decode cX6_prints 135 = .ok (.if_icmp .ne 13, 3) := by decide +kernel
theorem dX6_prints_138 : decode cX6_prints 138 = .ok (.aload_n 0, 1) := by decide +kernel
theorem dX6_prints_139 : decode cX6_prints 139 = .ok (.getfield 27, 3) := by decide +kernel
theorem dX6_prints_142 : decode cX6_prints 142 = .ok (.getfield 257, 3) := by decide +kernel
theorem dX6_prints_145 : decode cX6_prints 145 = .ok (.goto 12, 3) := by decide +kernel
theorem dX6_prints_148 : decode cX6_prints 148 = .ok (.aload_n 0, 1) := by decide +kernel
theorem dX6_prints_149 : decode cX6_prints 149 = .ok (.getfield 27, 3) := by decide +kernel
theorem dX6_prints_152 : decode cX6_prints 152 = .ok (.iload 4, 2) := by decide +kernel
theorem dX6_prints_154 : decode cX6_prints 154 = .ok (.invokevirtual 260, 3) := by decide +kernel
theorem dX6_prints_157 : decode cX6_prints 157 = .ok (.ireturn, 1) := by decide +kernel
theorem dX6_areLetters_0 : decode cX6_areLetters 0 = .ok (.iconst 0, 1) := by decide +kernel
theorem dX6_areLetters_1 : decode cX6_areLetters 1 = .ok (.istore_n 3, 1) := by decide +kernel
theorem dX6_areLetters_2 : decode cX6_areLetters 2 = .ok (.iload_n 3, 1) := by decide +kernel
theorem dX6_areLetters_3 : decode cX6_areLetters 3 = .ok (.iload_n 2, 1) := by decide +kernel
theorem dX6_areLetters_4 : decode cX6_areLetters 4 = .ok (.if_icmp .ge 26, 3) := by decide +kernel
theorem dX6_areLetters_7 : decode cX6_areLetters 7 = .ok (.aload_n 0, 1) := by decide +kernel
theorem dX6_areLetters_8 : decode cX6_areLetters 8 = .ok (.getfield 10, 3) := by decide +kernel
theorem dX6_areLetters_11 : decode cX6_areLetters 11 = .ok (.aload_n 1, 1) := by decide +kernel
theorem dX6_areLetters_12 : decode cX6_areLetters 12 = .ok (.iload_n 3, 1) := by decide +kernel
theorem dX6_areLetters_13 : decode cX6_areLetters 13 = .ok (.invokevirtual 263, 3) := by decide +kernel
theorem dX6_areLetters_16 : decode cX6_areLetters 16 = .ok (.invokevirtual 171, 3) := by decide +kernel
theorem dX6_areLetters_19 : decode cX6_areLetters 19 = .ok (.ifCond .ne 5, 3) := by decide +kernel
theorem dX6_areLetters_22 : decode cX6_areLetters 22 = .ok (.iconst 0, 1) := by decide +kernel
theorem dX6_areLetters_23 : decode cX6_areLetters 23 = .ok (.ireturn, 1) := by decide +kernel
theorem dX6_areLetters_24 : decode cX6_areLetters 24 = .ok (.iinc 3 1, 3) := by decide +kernel
theorem dX6_areLetters_27 : decode cX6_areLetters 27 = .ok (.goto (-25), 3) := by decide +kernel
theorem dX6_areLetters_30 : decode cX6_areLetters 30 = .ok (.iconst 1, 1) := by decide +kernel
theorem dX6_areLetters_31 : decode cX6_areLetters 31 = .ok (.ireturn, 1) := by decide +kernel
theorem dX6_becomes_0 : decode cX6_becomes 0 = .ok (.aload_n 0, 1) := by decide +kernel
theorem dX6_becomes_1 : decode cX6_becomes 1 = .ok (.getfield 10, 3) := by decide +kernel
theorem dX6_becomes_4 : decode cX6_becomes 4 = .ok (.iload_n 1, 1) := by decide +kernel
theorem dX6_becomes_5 : decode cX6_becomes 5 = .ok (.invokevirtual 171, 3) := by decide +kernel
theorem dX6_becomes_8 : decode cX6_becomes 8 = .ok (.ifCond .ne 9, 3) := by decide +kernel
theorem dX6_becomes_11 : decode cX6_becomes 11 = .ok (.aload_n 0, 1) := by decide +kernel
theorem dX6_becomes_12 : decode cX6_becomes 12 = .ok (.iconst (-1), 1) := by decide +kernel
theorem dX6_becomes_13 : decode cX6_becomes 13 = .ok (.invokevirtual 64, 3) := by decide +kernel
theorem dX6_becomes_16 : decode cX6_becomes 16 = .ok (.ireturn, 1) := by decide +kernel
theorem dX6_becomes_17 : decode cX6_becomes 17 = .ok (.aload_n 0, 1) := by decide +kernel
theorem dX6_becomes_18 : decode cX6_becomes 18 = .ok (.getfield 27, 3) := by decide +kernel
theorem dX6_becomes_21 : decode cX6_becomes 21 = .ok (.iload_n 1, 1) := by decide +kernel
theorem dX6_becomes_22 : decode cX6_becomes 22 = .ok (.invokevirtual 266, 3) := by decide +kernel
theorem dX6_becomes_25 : decode cX6_becomes 25 = .ok (.ireturn, 1) := by decide +kernel
theorem dX6_turns_0 : decode cX6_turns 0 = .ok (.aload_n 0, 1) := by decide +kernel
theorem dX6_turns_1 : decode cX6_turns 1 = .ok (.getfield 10, 3) := by decide +kernel
theorem dX6_turns_4 : decode cX6_turns 4 = .ok (.iload_n 1, 1) := by decide +kernel
theorem dX6_turns_5 : decode cX6_turns 5 = .ok (.invokevirtual 102, 3) := by decide +kernel
theorem dX6_turns_8 : decode cX6_turns 8 = .ok (.astore 4, 2) := by decide +kernel
theorem dX6_turns_10 : decode cX6_turns 10 = .ok (.aload 4, 2) := by decide +kernel
theorem dX6_turns_12 : decode cX6_turns 12 = .ok (.ifnull 25, 3) := by decide +kernel
theorem dX6_turns_15 : decode cX6_turns 15 = .ok (.aload_n 0, 1) := by decide +kernel
theorem dX6_turns_16 : decode cX6_turns 16 = .ok (.getfield 10, 3) := by decide +kernel
theorem dX6_turns_19 : decode cX6_turns 19 = .ok (.iload_n 2, 1) := by decide +kernel
theorem dX6_turns_20 : decode cX6_turns 20 = .ok (.invokevirtual 171, 3) := by decide +kernel
theorem dX6_turns_23 : decode cX6_turns 23 = .ok (.ifCond .eq 14, 3) := by decide +kernel
theorem dX6_turns_26 : decode cX6_turns 26 = .ok (.aload_n 0, 1) := by decide +kernel
theorem dX6_turns_27 : decode cX6_turns 27 = .ok (.getfield 10, 3) := by decide +kernel
theorem dX6_turns_30 : decode cX6_turns 30 = .ok (.iload_n 3, 1) := by decide +kernel
theorem dX6_turns_31 : decode cX6_turns 31 = .ok (.invokevirtual 171, 3) := by decide +kernel
theorem dX6_turns_34 : decode cX6_turns 34 = .ok (.ifCond .ne 8, 3) := by decide +kernel
theorem dX6_turns_37 : decode cX6_turns 37 = .ok (.aload_n 0, 1) := by decide +kernel
theorem dX6_turns_38 : decode cX6_turns 38 = .ok (.invokevirtual 196, 3) := by decide +kernel
theorem dX6_turns_41 : decode cX6_turns 41 = .ok (.ireturn, 1) := by decide +kernel
theorem dX6_turns_42 : decode cX6_turns 42 = .ok (.aload_n 0, 1) := by decide +kernel
theorem dX6_turns_43 : decode cX6_turns 43 = .ok (.getfield 27, 3) := by decide +kernel
theorem dX6_turns_46 : decode cX6_turns 46 = .ok (.aload 4, 2) := by decide +kernel
theorem dX6_turns_48 : decode cX6_turns 48 = .ok (.iload_n 2, 1) := by decide +kernel
theorem dX6_turns_49 : decode cX6_turns 49 = .ok (.iload_n 3, 1) := by decide +kernel
theorem dX6_turns_50 : decode cX6_turns 50 = .ok (.invokevirtual 269, 3) := by decide +kernel
theorem dX6_turns_53 : decode cX6_turns 53 = .ok (.ireturn, 1) := by decide +kernel
theorem dX6_could_0 : decode cX6_could 0 = .ok (.aload_n 0, 1) := by decide +kernel
theorem dX6_could_1 : decode cX6_could 1 = .ok (.getfield 10, 3) := by decide +kernel
theorem dX6_could_4 : decode cX6_could 4 = .ok (.iload_n 1, 1) := by decide +kernel
theorem dX6_could_5 : decode cX6_could 5 = .ok (.invokevirtual 102, 3) := by decide +kernel
theorem dX6_could_8 : decode cX6_could 8 = .ok (.astore 4, 2) := by decide +kernel
theorem dX6_could_10 : decode cX6_could 10 = .ok (.aload 4, 2) := by decide +kernel
theorem dX6_could_12 : decode cX6_could 12 = .ok (.ifnonnull 9, 3) := by decide +kernel
theorem dX6_could_15 : decode cX6_could 15 = .ok (.aload_n 0, 1) := by decide +kernel
theorem dX6_could_16 : decode cX6_could 16 = .ok (.iconst (-1), 1) := by decide +kernel
theorem dX6_could_17 : decode cX6_could 17 = .ok (.invokevirtual 64, 3) := by decide +kernel
theorem dX6_could_20 : decode cX6_could 20 = .ok (.ireturn, 1) := by decide +kernel
theorem dX6_could_21 : decode cX6_could 21 = .ok (.iload_n 2, 1) := by decide +kernel
theorem dX6_could_22 : decode cX6_could 22 = .ok (.invokestatic 162, 3) := by decide +kernel
theorem dX6_could_25 : decode cX6_could 25 = .ok (.ifCond .eq 10, 3) := by decide +kernel
theorem dX6_could_28 : decode cX6_could 28 = .ok (.iload_n 3, 1) := by decide +kernel
theorem dX6_could_29 : decode cX6_could 29 = .ok (.invokestatic 219, 3) := by decide +kernel
theorem dX6_could_32 : decode cX6_could 32 = .ok (.ifCond .ne 10, 3) := by decide +kernel
theorem dX6_could_35 : decode cX6_could 35 = .ok (.aload_n 0, 1) := by decide +kernel
theorem dX6_could_36 : decode cX6_could 36 = .ok (.bipush (-6), 2) := by decide +kernel
theorem dX6_could_38 : decode cX6_could 38 = .ok (.invokevirtual 64, 3) := by decide +kernel
theorem dX6_could_41 : decode cX6_could 41 = .ok (.ireturn, 1) := by decide +kernel
theorem dX6_could_42 : decode cX6_could 42 = .ok (.aload_n 0, 1) := by decide +kernel
theorem dX6_could_43 : decode cX6_could 43 = .ok (.getfield 27, 3) := by decide +kernel
theorem dX6_could_46 : decode cX6_could 46 = .ok (.aload 4, 2) := by decide +kernel
theorem dX6_could_48 : decode cX6_could 48 = .ok (.iload_n 2, 1) := by decide +kernel
theorem dX6_could_49 : decode cX6_could 49 = .ok (.iload_n 3, 1) := by decide +kernel
theorem dX6_could_50 : decode cX6_could 50 = .ok (.invokevirtual 272, 3) := by decide +kernel
theorem dX6_could_53 : decode cX6_could 53 = .ok (.ireturn, 1) := by decide +kernel
theorem dX6_unlike_0 : decode cX6_unlike 0 = .ok (.aload_n 0, 1) := by decide +kernel
theorem dX6_unlike_1 : decode cX6_unlike 1 = .ok (.getfield 10, 3) := by decide +kernel
theorem dX6_unlike_4 : decode cX6_unlike 4 = .ok (.iload_n 1, 1) := by decide +kernel
theorem dX6_unlike_5 : decode cX6_unlike 5 = .ok (.invokevirtual 171, 3) := by decide +kernel
theorem dX6_unlike_8 : decode cX6_unlike 8 = .ok (.ifCond .eq 14, 3) := by decide +kernel
theorem dX6_unlike_11 : decode cX6_unlike 11 = .ok (.aload_n 0, 1) := by decide +kernel
theorem dX6_unlike_12 : decode cX6_unlike 12 = .ok (.getfield 10, 3) := by decide +kernel
theorem dX6_unlike_15 : decode cX6_unlike 15 = .ok (.iload_n 2, 1) := by decide +kernel
theorem dX6_unlike_16 : decode cX6_unlike 16 = .ok (.invokevirtual 171, 3) := by decide +kernel
theorem dX6_unlike_19 : decode cX6_unlike 19 = .ok (.ifCond .ne 9, 3) := by decide +kernel
theorem dX6_unlike_22 : decode cX6_unlike 22 = .ok (.aload_n 0, 1) := by decide +kernel
theorem dX6_unlike_23 : decode cX6_unlike 23 = .ok (.iconst (-1), 1) := by decide +kernel
theorem dX6_unlike_24 : decode cX6_unlike 24 = .ok (.invokevirtual 64, 3) := by decide +kernel
theorem dX6_unlike_27 : decode cX6_unlike 27 = .ok (.ireturn, 1) := by decide +kernel
theorem dX6_unlike_28 : decode cX6_unlike 28 = .ok (.aload_n 0, 1) := by decide +kernel
theorem dX6_unlike_29 : decode cX6_unlike 29 = .ok (.getfield 10, 3) := by decide +kernel
theorem dX6_unlike_32 : decode cX6_unlike 32 = .ok (.iload_n 1, 1) := by decide +kernel
theorem dX6_unlike_33 : decode cX6_unlike 33 = .ok (.iload_n 2, 1) := by decide +kernel
theorem dX6_unlike_34 : decode cX6_unlike 34 = .ok (.invokevirtual 275, 3) := by decide +kernel
theorem dX6_unlike_37 : decode cX6_unlike 37 = .ok (.ireturn, 1) := by decide +kernel
theorem dX6_closest_0 : decode cX6_closest 0 = .ok (.aload_n 0, 1) := by decide +kernel
theorem dX6_closest_1 : decode cX6_closest 1 = .ok (.getfield 10, 3) := by decide +kernel
theorem dX6_closest_4 : decode cX6_closest 4 = .ok (.getfield 278, 3) := by decide +kernel
theorem dX6_closest_7 : decode cX6_closest 7 = .ok (.iconst 2, 1) := by decide +kernel
theorem dX6_closest_8 : decode cX6_closest 8 = .ok (.if_icmp .ge 10, 3) := by decide +kernel
theorem dX6_closest_11 : decode cX6_closest 11 = .ok (.aload_n 0, 1) := by decide +kernel
theorem dX6_closest_12 : decode cX6_closest 12 = .ok (.bipush (-5), 2) := by decide +kernel
theorem dX6_closest_14 : decode cX6_closest 14 = .ok (.invokevirtual 64, 3) := by decide +kernel
theorem dX6_closest_17 : decode cX6_closest 17 = .ok (.ireturn, 1) := by decide +kernel
theorem dX6_closest_18 : decode cX6_closest 18 = .ok (.aload_n 0, 1) := by decide +kernel
theorem dX6_closest_19 : decode cX6_closest 19 = .ok (.getfield 10, 3) := by decide +kernel
theorem dX6_closest_22 : decode cX6_closest 22 = .ok (.invokevirtual 281, 3) := by decide +kernel
theorem dX6_closest_25 : decode cX6_closest 25 = .ok (.ireturn, 1) := by decide +kernel
theorem dX6_mend_0 : decode cX6_mend 0 = .ok (.aload_n 0, 1) := by decide +kernel
theorem dX6_mend_1 : decode cX6_mend 1 = .ok (.getfield 10, 3) := by decide +kernel
theorem dX6_mend_4 : decode cX6_mend 4 = .ok (.iload_n 1, 1) := by decide +kernel
theorem dX6_mend_5 : decode cX6_mend 5 = .ok (.invokevirtual 171, 3) := by decide +kernel
theorem dX6_mend_8 : decode cX6_mend 8 = .ok (.ifCond .ne 9, 3) := by decide +kernel
theorem dX6_mend_11 : decode cX6_mend 11 = .ok (.aload_n 0, 1) := by decide +kernel
theorem dX6_mend_12 : decode cX6_mend 12 = .ok (.iconst (-1), 1) := by decide +kernel
theorem dX6_mend_13 : decode cX6_mend 13 = .ok (.invokevirtual 64, 3) := by decide +kernel
theorem dX6_mend_16 : decode cX6_mend 16 = .ok (.ireturn, 1) := by decide +kernel
theorem dX6_mend_17 : decode cX6_mend 17 = .ok (.aload_n 0, 1) := by decide +kernel
theorem dX6_mend_18 : decode cX6_mend 18 = .ok (.getfield 10, 3) := by decide +kernel
theorem dX6_mend_21 : decode cX6_mend 21 = .ok (.getfield 278, 3) := by decide +kernel
theorem dX6_mend_24 : decode cX6_mend 24 = .ok (.iconst 2, 1) := by decide +kernel
theorem dX6_mend_25 : decode cX6_mend 25 = .ok (.if_icmp .ge 10, 3) := by decide +kernel
theorem dX6_mend_28 : decode cX6_mend 28 = .ok (.aload_n 0, 1) := by decide +kernel
theorem dX6_mend_29 : decode cX6_mend 29 = .ok (.bipush (-5), 2) := by decide +kernel
theorem dX6_mend_31 : decode cX6_mend 31 = .ok (.invokevirtual 64, 3) := by decide +kernel
theorem dX6_mend_34 : decode cX6_mend 34 = .ok (.ireturn, 1) := by decide +kernel
theorem dX6_mend_35 : decode cX6_mend 35 = .ok (.aload_n 0, 1) := by decide +kernel
theorem dX6_mend_36 : decode cX6_mend 36 = .ok (.getfield 10, 3) := by decide +kernel
theorem dX6_mend_39 : decode cX6_mend 39 = .ok (.iload_n 1, 1) := by decide +kernel
theorem dX6_mend_40 : decode cX6_mend 40 = .ok (.invokevirtual 284, 3) := by decide +kernel
theorem dX6_mend_43 : decode cX6_mend 43 = .ok (.ireturn, 1) := by decide +kernel
theorem dX6_stove_0 : decode cX6_stove 0 = .ok (.aload_n 0, 1) := by decide +kernel
theorem dX6_stove_1 : decode cX6_stove 1 = .ok (.getfield 10, 3) := by decide +kernel
theorem dX6_stove_4 : decode cX6_stove 4 = .ok (.iload_n 1, 1) := by decide +kernel
theorem dX6_stove_5 : decode cX6_stove 5 = .ok (.invokevirtual 102, 3) := by decide +kernel
theorem dX6_stove_8 : decode cX6_stove 8 = .ok (.astore 4, 2) := by decide +kernel
theorem dX6_stove_10 : decode cX6_stove 10 = .ok (.aload 4, 2) := by decide +kernel
theorem dX6_stove_12 : decode cX6_stove 12 = .ok (.ifnull 14, 3) := by decide +kernel
theorem dX6_stove_15 : decode cX6_stove 15 = .ok (.aload_n 0, 1) := by decide +kernel
theorem dX6_stove_16 : decode cX6_stove 16 = .ok (.getfield 10, 3) := by decide +kernel
theorem dX6_stove_19 : decode cX6_stove 19 = .ok (.iload_n 2, 1) := by decide +kernel
theorem dX6_stove_20 : decode cX6_stove 20 = .ok (.invokevirtual 171, 3) := by decide +kernel
theorem dX6_stove_23 : decode cX6_stove 23 = .ok (.ifCond .ne 8, 3) := by decide +kernel
theorem dX6_stove_26 : decode cX6_stove 26 = .ok (.aload_n 0, 1) := by decide +kernel
theorem dX6_stove_27 : decode cX6_stove 27 = .ok (.invokevirtual 196, 3) := by decide +kernel
theorem dX6_stove_30 : decode cX6_stove 30 = .ok (.ireturn, 1) := by decide +kernel
theorem dX6_stove_31 : decode cX6_stove 31 = .ok (.iload_n 3, 1) := by decide +kernel
theorem dX6_stove_32 : decode cX6_stove 32 = .ok (.invokestatic 219, 3) := by decide +kernel
theorem dX6_stove_35 : decode cX6_stove 35 = .ok (.ifCond .ne 8, 3) := by decide +kernel
theorem dX6_stove_38 : decode cX6_stove 38 = .ok (.aload_n 0, 1) := by decide +kernel
theorem dX6_stove_39 : decode cX6_stove 39 = .ok (.invokevirtual 230, 3) := by decide +kernel
theorem dX6_stove_42 : decode cX6_stove 42 = .ok (.ireturn, 1) := by decide +kernel
theorem dX6_stove_43 : decode cX6_stove 43 = .ok (.aload_n 0, 1) := by decide +kernel
theorem dX6_stove_44 : decode cX6_stove 44 = .ok (.getfield 27, 3) := by decide +kernel
theorem dX6_stove_47 : decode cX6_stove 47 = .ok (.aload 4, 2) := by decide +kernel
theorem dX6_stove_49 : decode cX6_stove 49 = .ok (.iload_n 2, 1) := by decide +kernel
theorem dX6_stove_50 : decode cX6_stove 50 = .ok (.iload_n 3, 1) := by decide +kernel
theorem dX6_stove_51 : decode cX6_stove 51 = .ok (.invokevirtual 287, 3) := by decide +kernel
theorem dX6_stove_54 : decode cX6_stove 54 = .ok (.ireturn, 1) := by decide +kernel
theorem dX6_chill_0 : decode cX6_chill 0 = .ok (.aload_n 0, 1) := by decide +kernel
theorem dX6_chill_1 : decode cX6_chill 1 = .ok (.getfield 10, 3) := by decide +kernel
theorem dX6_chill_4 : decode cX6_chill 4 = .ok (.iload_n 1, 1) := by decide +kernel
theorem dX6_chill_5 : decode cX6_chill 5 = .ok (.invokevirtual 102, 3) := by decide +kernel
theorem dX6_chill_8 : decode cX6_chill 8 = .ok (.astore 4, 2) := by decide +kernel
theorem dX6_chill_10 : decode cX6_chill 10 = .ok (.aload 4, 2) := by decide +kernel
theorem dX6_chill_12 : decode cX6_chill 12 = .ok (.ifnull 14, 3) := by decide +kernel
theorem dX6_chill_15 : decode cX6_chill 15 = .ok (.aload_n 0, 1) := by decide +kernel
theorem dX6_chill_16 : decode cX6_chill 16 = .ok (.getfield 10, 3) := by decide +kernel
theorem dX6_chill_19 : decode cX6_chill 19 = .ok (.iload_n 2, 1) := by decide +kernel
theorem dX6_chill_20 : decode cX6_chill 20 = .ok (.invokevirtual 171, 3) := by decide +kernel
theorem dX6_chill_23 : decode cX6_chill 23 = .ok (.ifCond .ne 8, 3) := by decide +kernel
theorem dX6_chill_26 : decode cX6_chill 26 = .ok (.aload_n 0, 1) := by decide +kernel
theorem dX6_chill_27 : decode cX6_chill 27 = .ok (.invokevirtual 196, 3) := by decide +kernel
theorem dX6_chill_30 : decode cX6_chill 30 = .ok (.ireturn, 1) := by decide +kernel
theorem dX6_chill_31 : decode cX6_chill 31 = .ok (.iload_n 3, 1) := by decide +kernel
theorem dX6_chill_32 : decode cX6_chill 32 = .ok (.invokestatic 219, 3) := by decide +kernel
theorem dX6_chill_35 : decode cX6_chill 35 = .ok (.ifCond .ne 8, 3) := by decide +kernel
theorem dX6_chill_38 : decode cX6_chill 38 = .ok (.aload_n 0, 1) := by decide +kernel
theorem dX6_chill_39 : decode cX6_chill 39 = .ok (.invokevirtual 230, 3) := by decide +kernel
theorem dX6_chill_42 : decode cX6_chill 42 = .ok (.ireturn, 1) := by decide +kernel
theorem dX6_chill_43 : decode cX6_chill 43 = .ok (.aload_n 0, 1) := by decide +kernel
theorem dX6_chill_44 : decode cX6_chill 44 = .ok (.getfield 27, 3) := by decide +kernel
theorem dX6_chill_47 : decode cX6_chill 47 = .ok (.aload 4, 2) := by decide +kernel
theorem dX6_chill_49 : decode cX6_chill 49 = .ok (.iload_n 2, 1) := by decide +kernel
theorem dX6_chill_50 : decode cX6_chill 50 = .ok (.iload_n 3, 1) := by decide +kernel
theorem dX6_chill_51 : decode cX6_chill 51 = .ok (.invokevirtual 290, 3) := by decide +kernel
theorem dX6_chill_54 : decode cX6_chill 54 = .ok (.ireturn, 1) := by decide +kernel
theorem dX6_mistaken_0 : decode cX6_mistaken 0 = .ok (.aload_n 0, 1) := by decide +kernel
theorem dX6_mistaken_1 : decode cX6_mistaken 1 = .ok (.getfield 27, 3) := by decide +kernel
theorem dX6_mistaken_4 : decode cX6_mistaken 4 = .ok (.invokevirtual 293, 3) := by decide +kernel
theorem dX6_mistaken_7 : decode cX6_mistaken 7 = .ok (.ireturn, 1) := by decide +kernel
theorem dX6_let_0 : decode cX6_let 0 = .ok (.aload_n 0, 1) := by decide +kernel
theorem dX6_let_1 : decode cX6_let 1 = .ok (.getfield 27, 3) := by decide +kernel
theorem dX6_let_4 : decode cX6_let 4 = .ok (.invokevirtual 296, 3) := by decide +kernel
theorem dX6_let_7 : decode cX6_let 7 = .ok (.ireturn, 1) := by decide +kernel
theorem dX6_night_0 : decode cX6_night 0 = .ok (.aload_n 0, 1) := by decide +kernel
theorem dX6_night_1 : decode cX6_night 1 = .ok (.getfield 10, 3) := by decide +kernel
theorem dX6_night_4 : decode cX6_night 4 = .ok (.invokevirtual 299, 3) := by decide +kernel
theorem dX6_night_7 : decode cX6_night 7 = .ok (.ireturn, 1) := by decide +kernel
theorem dX6_hours_0 : decode cX6_hours 0 = .ok (.iload_n 1, 1) := by decide +kernel
theorem dX6_hours_1 : decode cX6_hours 1 = .ok (.iconst 1, 1) := by decide +kernel
theorem dX6_hours_2 : decode cX6_hours 2 = .ok (.if_icmp .lt 9, 3) := by decide +kernel
theorem dX6_hours_5 : decode cX6_hours 5 = .ok (.iload_n 1, 1) := by decide +kernel
theorem dX6_hours_6 : decode cX6_hours 6 = .ok (.bipush 24, 2) := by decide +kernel
theorem dX6_hours_8 : decode cX6_hours 8 = .ok (.if_icmp .le 10, 3) := by decide +kernel
theorem dX6_hours_11 : decode cX6_hours 11 = .ok (.aload_n 0, 1) := by decide +kernel
theorem dX6_hours_12 : decode cX6_hours 12 = .ok (.bipush (-6), 2) := by decide +kernel
theorem dX6_hours_14 : decode cX6_hours 14 = .ok (.invokevirtual 64, 3) := by decide +kernel
theorem dX6_hours_17 : decode cX6_hours 17 = .ok (.ireturn, 1) := by decide +kernel
theorem dX6_hours_18 : decode cX6_hours 18 = .ok (.aload_n 0, 1) := by decide +kernel
theorem dX6_hours_19 : decode cX6_hours 19 = .ok (.getfield 10, 3) := by decide +kernel
theorem dX6_hours_22 : decode cX6_hours 22 = .ok (.getfield 302, 3) := by decide +kernel
theorem dX6_hours_25 : decode cX6_hours 25 = .ok (.bipush 24, 2) := by decide +kernel
theorem dX6_hours_27 : decode cX6_hours 27 = .ok (.iload_n 1, 1) := by decide +kernel
theorem dX6_hours_28 : decode cX6_hours 28 = .ok (.isub, 1) := by decide +kernel
theorem dX6_hours_29 : decode cX6_hours 29 = .ok (.if_icmp .le 10, 3) := by decide +kernel
theorem dX6_hours_32 : decode cX6_hours 32 = .ok (.aload_n 0, 1) := by decide +kernel
theorem dX6_hours_33 : decode cX6_hours 33 = .ok (.bipush (-7), 2) := by decide +kernel
theorem dX6_hours_35 : decode cX6_hours 35 = .ok (.invokevirtual 64, 3) := by decide +kernel
theorem dX6_hours_38 : decode cX6_hours 38 = .ok (.ireturn, 1) := by decide +kernel
theorem dX6_hours_39 : decode cX6_hours 39 = .ok (.aload_n 0, 1) := by decide +kernel
theorem dX6_hours_40 : decode cX6_hours 40 = .ok (.getfield 10, 3) := by decide +kernel
theorem dX6_hours_43 : decode cX6_hours 43 = .ok (.iload_n 1, 1) := by decide +kernel
theorem dX6_hours_44 : decode cX6_hours 44 = .ok (.invokevirtual 305, 3) := by decide +kernel
theorem dX6_hours_47 : decode cX6_hours 47 = .ok (.ireturn, 1) := by decide +kernel
theorem dX6_truth_0 : decode cX6_truth 0 = .ok (.aload_n 0, 1) := by decide +kernel
theorem dX6_truth_1 : decode cX6_truth 1 = .ok (.getfield 10, 3) := by decide +kernel
theorem dX6_truth_4 : decode cX6_truth 4 = .ok (.iload_n 1, 1) := by decide +kernel
theorem dX6_truth_5 : decode cX6_truth 5 = .ok (.invokevirtual 102, 3) := by decide +kernel
theorem dX6_truth_8 : decode cX6_truth 8 = .ok (.astore_n 3, 1) := by decide +kernel
theorem dX6_truth_9 : decode cX6_truth 9 = .ok (.aload_n 3, 1) := by decide +kernel
theorem dX6_truth_10 : decode cX6_truth 10 = .ok (.ifnonnull 9, 3) := by decide +kernel
theorem dX6_truth_13 : decode cX6_truth 13 = .ok (.aload_n 0, 1) := by decide +kernel
theorem dX6_truth_14 : decode cX6_truth 14 = .ok (.iconst (-1), 1) := by decide +kernel
theorem dX6_truth_15 : decode cX6_truth 15 = .ok (.invokevirtual 64, 3) := by decide +kernel
theorem dX6_truth_18 : decode cX6_truth 18 = .ok (.ireturn, 1) := by decide +kernel
theorem dX6_truth_19 : decode cX6_truth 19 = .ok (.iload_n 2, 1) := by decide +kernel
theorem dX6_truth_20 : decode cX6_truth 20 = .ok (.bipush 16, 2) := by decide +kernel
theorem dX6_truth_22 : decode cX6_truth 22 = .ok (.if_icmp .ne 8, 3) := by decide +kernel
theorem dX6_truth_25 : decode cX6_truth 25 = .ok (.aload_n 3, 1) := by decide +kernel
theorem dX6_truth_26 : decode cX6_truth 26 = .ok (.invokevirtual 308, 3) := by decide +kernel
theorem dX6_truth_29 : decode cX6_truth 29 = .ok (.ireturn, 1) := by decide +kernel
theorem dX6_truth_30 : decode cX6_truth 30 = .ok (.iload_n 2, 1) := by decide +kernel
theorem dX6_truth_31 : decode cX6_truth 31 = .ok (.invokestatic 216, 3) := by decide +kernel
theorem dX6_truth_34 : decode cX6_truth 34 = .ok (.ifCond .ne 10, 3) := by decide +kernel
theorem dX6_truth_37 : decode cX6_truth 37 = .ok (.aload_n 0, 1) := by decide +kernel
theorem dX6_truth_38 : decode cX6_truth 38 = .ok (.bipush (-5), 2) := by decide +kernel
theorem dX6_truth_40 : decode cX6_truth 40 = .ok (.invokevirtual 64, 3) := by decide +kernel
theorem dX6_truth_43 : decode cX6_truth 43 = .ok (.ireturn, 1) := by decide +kernel
theorem dX6_truth_44 : decode cX6_truth 44 = .ok (.aload_n 3, 1) := by decide +kernel
theorem dX6_truth_45 : decode cX6_truth 45 = .ok (.iload_n 2, 1) := by decide +kernel
theorem dX6_truth_46 : decode cX6_truth 46 = .ok (.invokevirtual 311, 3) := by decide +kernel
theorem dX6_truth_49 : decode cX6_truth 49 = .ok (.ireturn, 1) := by decide +kernel
theorem dX6_readOf_0 : decode cX6_readOf 0 = .ok (.aload_n 0, 1) := by decide +kernel
theorem dX6_readOf_1 : decode cX6_readOf 1 = .ok (.getfield 10, 3) := by decide +kernel
theorem dX6_readOf_4 : decode cX6_readOf 4 = .ok (.iload_n 1, 1) := by decide +kernel
theorem dX6_readOf_5 : decode cX6_readOf 5 = .ok (.invokevirtual 102, 3) := by decide +kernel
theorem dX6_readOf_8 : decode cX6_readOf 8 = .ok (.astore_n 2, 1) := by decide +kernel
theorem dX6_readOf_9 : decode cX6_readOf 9 = .ok (.aload_n 2, 1) := by decide +kernel
theorem dX6_readOf_10 : decode cX6_readOf 10 = .ok (.ifnonnull 10, 3) := by decide +kernel
theorem dX6_readOf_13 : decode cX6_readOf 13 = .ok (.aload_n 0, 1) := by decide +kernel
theorem dX6_readOf_14 : decode cX6_readOf 14 = .ok (.invokevirtual 196, 3) := by decide +kernel
theorem dX6_readOf_17 : decode cX6_readOf 17 = .ok (.goto 14, 3) := by decide +kernel
theorem dX6_readOf_20 : decode cX6_readOf 20 = .ok (.aload_n 0, 1) := by decide +kernel
theorem dX6_readOf_21 : decode cX6_readOf 21 = .ok (.getfield 10, 3) := by decide +kernel
theorem dX6_readOf_24 : decode cX6_readOf 24 = .ok (.aload_n 2, 1) := by decide +kernel
theorem dX6_readOf_25 : decode cX6_readOf 25 = .ok (.invokevirtual 308, 3) := by decide +kernel
theorem dX6_readOf_28 : decode cX6_readOf 28 = .ok (.invokevirtual 233, 3) := by decide +kernel
theorem dX6_readOf_31 : decode cX6_readOf 31 = .ok (.ireturn, 1) := by decide +kernel
theorem dX6_breath_0 : decode cX6_breath 0 = .ok (.aload_n 0, 1) := by decide +kernel
theorem dX6_breath_1 : decode cX6_breath 1 = .ok (.getfield 10, 3) := by decide +kernel
theorem dX6_breath_4 : decode cX6_breath 4 = .ok (.iload_n 1, 1) := by decide +kernel
theorem dX6_breath_5 : decode cX6_breath 5 = .ok (.invokevirtual 102, 3) := by decide +kernel
theorem dX6_breath_8 : decode cX6_breath 8 = .ok (.astore_n 3, 1) := by decide +kernel
theorem dX6_breath_9 : decode cX6_breath 9 = .ok (.aload_n 3, 1) := by decide +kernel
theorem dX6_breath_10 : decode cX6_breath 10 = .ok (.ifnonnull 9, 3) := by decide +kernel
theorem dX6_breath_13 : decode cX6_breath 13 = .ok (.aload_n 0, 1) := by decide +kernel
theorem dX6_breath_14 : decode cX6_breath 14 = .ok (.iconst (-1), 1) := by decide +kernel
theorem dX6_breath_15 : decode cX6_breath 15 = .ok (.invokevirtual 64, 3) := by decide +kernel
theorem dX6_breath_18 : decode cX6_breath 18 = .ok (.ireturn, 1) := by decide +kernel
theorem dX6_breath_19 : decode cX6_breath 19 = .ok (.iload_n 2, 1) := by decide +kernel
theorem dX6_breath_20 : decode cX6_breath 20 = .ok (.invokestatic 216, 3) := by decide +kernel
theorem dX6_breath_23 : decode cX6_breath 23 = .ok (.ifCond .ne 10, 3) := by decide +kernel
theorem dX6_breath_26 : decode cX6_breath 26 = .ok (.aload_n 0, 1) := by decide +kernel
theorem dX6_breath_27 : decode cX6_breath 27 = .ok (.bipush (-5), 2) := by decide +kernel
theorem dX6_breath_29 : decode cX6_breath 29 = .ok (.invokevirtual 64, 3) := by decide +kernel
theorem dX6_breath_32 : decode cX6_breath 32 = .ok (.ireturn, 1) := by decide +kernel
theorem dX6_breath_33 : decode cX6_breath 33 = .ok (.aload_n 3, 1) := by decide +kernel
theorem dX6_breath_34 : decode cX6_breath 34 = .ok (.iload_n 2, 1) := by decide +kernel
theorem dX6_breath_35 : decode cX6_breath 35 = .ok (.invokevirtual 314, 3) := by decide +kernel
theorem dX6_breath_38 : decode cX6_breath 38 = .ok (.ireturn, 1) := by decide +kernel
theorem dX6_scratch_0 : decode cX6_scratch 0 = .ok (.aload_n 0, 1) := by decide +kernel
theorem dX6_scratch_1 : decode cX6_scratch 1 = .ok (.getfield 10, 3) := by decide +kernel
theorem dX6_scratch_4 : decode cX6_scratch 4 = .ok (.iload_n 1, 1) := by decide +kernel
theorem dX6_scratch_5 : decode cX6_scratch 5 = .ok (.invokevirtual 102, 3) := by decide +kernel
theorem dX6_scratch_8 : decode cX6_scratch 8 = .ok (.astore_n 3, 1) := by decide +kernel
theorem dX6_scratch_9 : decode cX6_scratch 9 = .ok (.aload_n 3, 1) := by decide +kernel
theorem dX6_scratch_10 : decode cX6_scratch 10 = .ok (.ifnonnull 9, 3) := by decide +kernel
theorem dX6_scratch_13 : decode cX6_scratch 13 = .ok (.aload_n 0, 1) := by decide +kernel
theorem dX6_scratch_14 : decode cX6_scratch 14 = .ok (.iconst (-1), 1) := by decide +kernel
theorem dX6_scratch_15 : decode cX6_scratch 15 = .ok (.invokevirtual 64, 3) := by decide +kernel
theorem dX6_scratch_18 : decode cX6_scratch 18 = .ok (.ireturn, 1) := by decide +kernel
theorem dX6_scratch_19 : decode cX6_scratch 19 = .ok (.iload_n 2, 1) := by decide +kernel
theorem dX6_scratch_20 : decode cX6_scratch 20 = .ok (.invokestatic 216, 3) := by decide +kernel
theorem dX6_scratch_23 : decode cX6_scratch 23 = .ok (.ifCond .ne 10, 3) := by decide +kernel
theorem dX6_scratch_26 : decode cX6_scratch 26 = .ok (.aload_n 0, 1) := by decide +kernel
theorem dX6_scratch_27 : decode cX6_scratch 27 = .ok (.bipush (-5), 2) := by decide +kernel
theorem dX6_scratch_29 : decode cX6_scratch 29 = .ok (.invokevirtual 64, 3) := by decide +kernel
theorem dX6_scratch_32 : decode cX6_scratch 32 = .ok (.ireturn, 1) := by decide +kernel
theorem dX6_scratch_33 : decode cX6_scratch 33 = .ok (.aload_n 3, 1) := by decide +kernel
theorem dX6_scratch_34 : decode cX6_scratch 34 = .ok (.iload_n 2, 1) := by decide +kernel
theorem dX6_scratch_35 : decode cX6_scratch 35 = .ok (.invokevirtual 317, 3) := by decide +kernel
theorem dX6_scratch_38 : decode cX6_scratch 38 = .ok (.ifCond .eq 10, 3) := by decide +kernel
theorem dX6_scratch_41 : decode cX6_scratch 41 = .ok (.aload_n 0, 1) := by decide +kernel
theorem dX6_scratch_42 : decode cX6_scratch 42 = .ok (.bipush (-6), 2) := by decide +kernel
theorem dX6_scratch_44 : decode cX6_scratch 44 = .ok (.invokevirtual 64, 3) := by decide +kernel
theorem dX6_scratch_47 : decode cX6_scratch 47 = .ok (.ireturn, 1) := by decide +kernel
theorem dX6_scratch_48 : decode cX6_scratch 48 = .ok (.aload_n 3, 1) := by decide +kernel
theorem dX6_scratch_49 : decode cX6_scratch 49 = .ok (.iload_n 2, 1) := by decide +kernel
theorem dX6_scratch_50 : decode cX6_scratch 50 = .ok (.invokevirtual 320, 3) := by decide +kernel
theorem dX6_scratch_53 : decode cX6_scratch 53 = .ok (.ireturn, 1) := by decide +kernel
theorem dX6_winter_0 : decode cX6_winter 0 = .ok (.iload_n 1, 1) := by decide +kernel
theorem dX6_winter_1 : decode cX6_winter 1 = .ok (.iconst 1, 1) := by decide +kernel
theorem dX6_winter_2 : decode cX6_winter 2 = .ok (.if_icmp .lt 9, 3) := by decide +kernel
theorem dX6_winter_5 : decode cX6_winter 5 = .ok (.iload_n 1, 1) := by decide +kernel
theorem dX6_winter_6 : decode cX6_winter 6 = .ok (.bipush 40, 2) := by decide +kernel
theorem dX6_winter_8 : decode cX6_winter 8 = .ok (.if_icmp .le 10, 3) := by decide +kernel
theorem dX6_winter_11 : decode cX6_winter 11 = .ok (.aload_n 0, 1) := by decide +kernel
theorem dX6_winter_12 : decode cX6_winter 12 = .ok (.bipush (-6), 2) := by decide +kernel
theorem dX6_winter_14 : decode cX6_winter 14 = .ok (.invokevirtual 64, 3) := by decide +kernel
theorem dX6_winter_17 : decode cX6_winter 17 = .ok (.ireturn, 1) := by decide +kernel
theorem dX6_winter_18 : decode cX6_winter 18 = .ok (.aload_n 0, 1) := by decide +kernel
theorem dX6_winter_19 : decode cX6_winter 19 = .ok (.getfield 10, 3) := by decide +kernel
theorem dX6_winter_22 : decode cX6_winter 22 = .ok (.iload_n 1, 1) := by decide +kernel
theorem dX6_winter_23 : decode cX6_winter 23 = .ok (.invokevirtual 323, 3) := by decide +kernel
theorem dX6_winter_26 : decode cX6_winter 26 = .ok (.ireturn, 1) := by decide +kernel
theorem dX6_seed_0 : decode cX6_seed 0 = .ok (.aload_n 0, 1) := by decide +kernel
theorem dX6_seed_1 : decode cX6_seed 1 = .ok (.getfield 10, 3) := by decide +kernel
theorem dX6_seed_4 : decode cX6_seed 4 = .ok (.getfield 326, 3) := by decide +kernel
theorem dX6_seed_7 : decode cX6_seed 7 = .ok (.istore_n 2, 1) := by decide +kernel
theorem dX6_seed_8 : decode cX6_seed 8 = .ok (.aload_n 0, 1) := by decide +kernel
theorem dX6_seed_9 : decode cX6_seed 9 = .ok (.getfield 10, 3) := by decide +kernel
theorem dX6_seed_12 : decode cX6_seed 12 = .ok (.iload_n 1, 1) := by decide +kernel
theorem dX6_seed_13 : decode cX6_seed 13 = .ok (.putfield 326, 3) := by decide +kernel
theorem dX6_seed_16 : decode cX6_seed 16 = .ok (.iload_n 2, 1) := by decide +kernel
theorem dX6_seed_17 : decode cX6_seed 17 = .ok (.ireturn, 1) := by decide +kernel
theorem dX6_act_0 : decode cX6_act 0 = .ok (.aload_n 0, 1) := by decide +kernel
theorem dX6_act_1 : decode cX6_act 1 = .ok (.getfield 48, 3) := by decide +kernel
theorem dX6_act_4 : decode cX6_act 4 = .ok (.invokevirtual 329, 3) := by decide +kernel
theorem dX6_act_7 : decode cX6_act 7 = .ok (.aload_n 0, 1) := by decide +kernel
theorem dX6_act_8 : decode cX6_act 8 = .ok (.getfield 10, 3) := by decide +kernel
theorem dX6_act_11 : decode cX6_act 11 = .ok (.iload_n 1, 1) := by decide +kernel
theorem dX6_act_12 : decode cX6_act 12 = .ok (.invokevirtual 102, 3) := by decide +kernel
theorem dX6_act_15 : decode cX6_act 15 = .ok (.astore 4, 2) := by decide +kernel
theorem dX6_act_17 : decode cX6_act 17 = .ok (.aload 4, 2) := by decide +kernel
theorem dX6_act_19 : decode cX6_act 19 = .ok (.ifnull 10, 3) := by decide +kernel
theorem dX6_act_22 : decode cX6_act 22 = .ok (.iload_n 2, 1) := by decide +kernel
theorem dX6_act_23 : decode cX6_act 23 = .ok (.invokestatic 332, 3) := by decide +kernel
theorem dX6_act_26 : decode cX6_act 26 = .ok (.ifCond .ne 5, 3) := by decide +kernel
theorem dX6_act_29 : decode cX6_act 29 = .ok (.iconst 0, 1) := by decide +kernel
theorem dX6_act_30 : decode cX6_act 30 = .ok (.ireturn, 1) := by decide +kernel
theorem dX6_act_31 : decode cX6_act 31 = .ok (.aload_n 0, 1) := by decide +kernel
theorem dX6_act_32 : decode cX6_act 32 = .ok (.getfield 48, 3) := by decide +kernel
theorem dX6_act_35 : decode cX6_act 35 = .ok (.aload 4, 2) := by decide +kernel
theorem dX6_act_37 : decode cX6_act 37 = .ok (.iload_n 1, 1) := by decide +kernel
theorem dX6_act_38 : decode cX6_act 38 = .ok (.iload_n 2, 1) := by decide +kernel
theorem dX6_act_39 : decode cX6_act 39 = .ok (.iload_n 3, 1) := by decide +kernel
theorem dX6_act_40 : decode cX6_act 40 = .ok (.invokevirtual 335, 3) := by decide +kernel
theorem dX6_act_43 : decode cX6_act 43 = .ok (.ireturn, 1) := by decide +kernel
theorem dX6_trace_0 : decode cX6_trace 0 = .ok (.aload_n 0, 1) := by decide +kernel
theorem dX6_trace_1 : decode cX6_trace 1 = .ok (.getfield 48, 3) := by decide +kernel
theorem dX6_trace_4 : decode cX6_trace 4 = .ok (.iload_n 1, 1) := by decide +kernel
theorem dX6_trace_5 : decode cX6_trace 5 = .ok (.invokevirtual 338, 3) := by decide +kernel
theorem dX6_trace_8 : decode cX6_trace 8 = .ok (.ireturn, 1) := by decide +kernel
theorem dX6_image_0 : decode cX6_image 0 = .ok (.aload_n 0, 1) := by decide +kernel
theorem dX6_image_1 : decode cX6_image 1 = .ok (.getfield 16, 3) := by decide +kernel
theorem dX6_image_4 : decode cX6_image 4 = .ok (.aload_n 0, 1) := by decide +kernel
theorem dX6_image_5 : decode cX6_image 5 = .ok (.getfield 10, 3) := by decide +kernel
theorem dX6_image_8 : decode cX6_image 8 = .ok (.invokevirtual 206, 3) := by decide +kernel
theorem dX6_image_11 : decode cX6_image 11 = .ok (.aload_n 0, 1) := by decide +kernel
theorem dX6_image_12 : decode cX6_image 12 = .ok (.iconst 1, 1) := by decide +kernel
theorem dX6_image_13 : decode cX6_image 13 = .ok (.putfield 56, 3) := by decide +kernel
theorem dX6_image_16 : decode cX6_image 16 = .ok (.aload_n 0, 1) := by decide +kernel
theorem dX6_image_17 : decode cX6_image 17 = .ok (.getfield 10, 3) := by decide +kernel
theorem dX6_image_20 : decode cX6_image 20 = .ok (.getfield 246, 3) := by decide +kernel
theorem dX6_image_23 : decode cX6_image 23 = .ok (.ireturn, 1) := by decide +kernel
theorem dX6_restore_0 : decode cX6_restore 0 = .ok (.aload_n 0, 1) := by decide +kernel
theorem dX6_restore_1 : decode cX6_restore 1 = .ok (.getfield 56, 3) := by decide +kernel
theorem dX6_restore_4 : decode cX6_restore 4 = .ok (.ifCond .ne 10, 3) := by decide +kernel
theorem dX6_restore_7 : decode cX6_restore 7 = .ok (.aload_n 0, 1) := by decide +kernel
theorem dX6_restore_8 : decode cX6_restore 8 = .ok (.bipush (-6), 2) := by decide +kernel
theorem dX6_restore_10 : decode cX6_restore 10 = .ok (.invokevirtual 64, 3) := by decide +kernel
theorem dX6_restore_13 : decode cX6_restore 13 = .ok (.ireturn, 1) := by decide +kernel
theorem dX6_restore_14 : decode cX6_restore 14 = .ok (.aload_n 0, 1) := by decide +kernel
theorem dX6_restore_15 : decode cX6_restore 15 = .ok (.getfield 10, 3) := by decide +kernel
theorem dX6_restore_18 : decode cX6_restore 18 = .ok (.aload_n 0, 1) := by decide +kernel
theorem dX6_restore_19 : decode cX6_restore 19 = .ok (.getfield 16, 3) := by decide +kernel
theorem dX6_restore_22 : decode cX6_restore 22 = .ok (.invokevirtual 206, 3) := by decide +kernel
theorem dX6_restore_25 : decode cX6_restore 25 = .ok (.iconst 0, 1) := by decide +kernel
theorem dX6_restore_26 : decode cX6_restore 26 = .ok (.istore_n 1, 1) := by decide +kernel
theorem dX6_restore_27 : decode cX6_restore 27 = .ok (.iload_n 1, 1) := by decide +kernel
theorem dX6_restore_28 : decode cX6_restore 28 = .ok (.aload_n 0, 1) := by decide +kernel
theorem dX6_restore_29 : decode cX6_restore 29 = .ok (.getfield 33, 3) := by decide +kernel
theorem dX6_restore_32 : decode cX6_restore 32 = .ok (.arraylength, 1) := by decide +kernel
theorem dX6_restore_33 : decode cX6_restore 33 = .ok (.if_icmp .ge 45, 3) := by decide +kernel
theorem dX6_restore_36 : decode cX6_restore 36 = .ok (.aload_n 0, 1) := by decide +kernel
theorem dX6_restore_37 : decode cX6_restore 37 = .ok (.getfield 33, 3) := by decide +kernel
theorem dX6_restore_40 : decode cX6_restore 40 = .ok (.iload_n 1, 1) := by decide +kernel
theorem dX6_restore_41 : decode cX6_restore 41 = .ok (.aaload, 1) := by decide +kernel
theorem dX6_restore_42 : decode cX6_restore 42 = .ok (.astore_n 2, 1) := by decide +kernel
theorem dX6_restore_43 : decode cX6_restore 43 = .ok (.aload_n 2, 1) := by decide +kernel
theorem dX6_restore_44 : decode cX6_restore 44 = .ok (.ifnull 28, 3) := by decide +kernel
theorem dX6_restore_47 : decode cX6_restore 47 = .ok (.aload_n 2, 1) := by decide +kernel
theorem dX6_restore_48 : decode cX6_restore 48 = .ok (.invokevirtual 88, 3) := by decide +kernel
theorem dX6_restore_51 : decode cX6_restore 51 = .ok (.ifCond .eq 21, 3) := by decide +kernel
theorem dX6_restore_54 : decode cX6_restore 54 = .ok (.aload_n 0, 1) := by decide +kernel
theorem dX6_restore_55 : decode cX6_restore 55 = .ok (.getfield 10, 3) := by decide +kernel
theorem dX6_restore_58 : decode cX6_restore 58 = .ok (.aload_n 2, 1) := by decide +kernel
theorem dX6_restore_59 : decode cX6_restore 59 = .ok (.getfield 123, 3) := by decide +kernel
theorem dX6_restore_62 : decode cX6_restore 62 = .ok (.invokevirtual 102, 3) := by decide +kernel
theorem dX6_restore_65 : decode cX6_restore 65 = .ok (.ifnonnull 7, 3) := by decide +kernel
theorem dX6_restore_68 : decode cX6_restore 68 = .ok (.aload_n 2, 1) := by decide +kernel
theorem dX6_restore_69 : decode cX6_restore 69 = .ok (.invokevirtual 106, 3) := by decide +kernel
theorem dX6_restore_72 : decode cX6_restore 72 = .ok (.iinc 1 1, 3) := by decide +kernel
theorem dX6_restore_75 : decode cX6_restore 75 = .ok (.goto (-48), 3) := by decide +kernel
theorem dX6_restore_78 : decode cX6_restore 78 = .ok (.aload_n 0, 1) := by decide +kernel
theorem dX6_restore_79 : decode cX6_restore 79 = .ok (.getfield 10, 3) := by decide +kernel
theorem dX6_restore_82 : decode cX6_restore 82 = .ok (.getfield 246, 3) := by decide +kernel
theorem dX6_restore_85 : decode cX6_restore 85 = .ok (.ireturn, 1) := by decide +kernel
theorem dX6_status_0 : decode cX6_status 0 = .ok (.iload_n 1, 1) := by decide +kernel
theorem dX6_status_1 : decode cX6_status 1 = .ok (.tableswitch 123 0 8 #[51, 59, 67, 75, 83, 91, 99, 107, 115], 51) := by decide +kernel
theorem dX6_status_52 : decode cX6_status 52 = .ok (.aload_n 0, 1) := by decide +kernel
theorem dX6_status_53 : decode cX6_status 53 = .ok (.getfield 10, 3) := by decide +kernel
theorem dX6_status_56 : decode cX6_status 56 = .ok (.getfield 278, 3) := by decide +kernel
theorem dX6_status_59 : decode cX6_status 59 = .ok (.ireturn, 1) := by decide +kernel
theorem dX6_status_60 : decode cX6_status 60 = .ok (.aload_n 0, 1) := by decide +kernel
theorem dX6_status_61 : decode cX6_status 61 = .ok (.getfield 10, 3) := by decide +kernel
theorem dX6_status_64 : decode cX6_status 64 = .ok (.getfield 246, 3) := by decide +kernel
theorem dX6_status_67 : decode cX6_status 67 = .ok (.ireturn, 1) := by decide +kernel
theorem dX6_status_68 : decode cX6_status 68 = .ok (.aload_n 0, 1) := by decide +kernel
theorem dX6_status_69 : decode cX6_status 69 = .ok (.getfield 10, 3) := by decide +kernel
theorem dX6_status_72 : decode cX6_status 72 = .ok (.getfield 136, 3) := by decide +kernel
theorem dX6_status_75 : decode cX6_status 75 = .ok (.ireturn, 1) := by decide +kernel
theorem dX6_status_76 : decode cX6_status 76 = .ok (.aload_n 0, 1) := by decide +kernel
theorem dX6_status_77 : decode cX6_status 77 = .ok (.getfield 10, 3) := by decide +kernel
theorem dX6_status_80 : decode cX6_status 80 = .ok (.getfield 155, 3) := by decide +kernel
theorem dX6_status_83 : decode cX6_status 83 = .ok (.ireturn, 1) := by decide +kernel
theorem dX6_status_84 : decode cX6_status 84 = .ok (.aload_n 0, 1) := by decide +kernel
theorem dX6_status_85 : decode cX6_status 85 = .ok (.getfield 10, 3) := by decide +kernel
theorem dX6_status_88 : decode cX6_status 88 = .ok (.getfield 145, 3) := by decide +kernel
theorem dX6_status_91 : decode cX6_status 91 = .ok (.ireturn, 1) := by decide +kernel
theorem dX6_status_92 : decode cX6_status 92 = .ok (.aload_n 0, 1) := by decide +kernel
theorem dX6_status_93 : decode cX6_status 93 = .ok (.getfield 10, 3) := by decide +kernel
theorem dX6_status_96 : decode cX6_status 96 = .ok (.getfield 302, 3) := by decide +kernel
theorem dX6_status_99 : decode cX6_status 99 = .ok (.ireturn, 1) := by decide +kernel
theorem dX6_status_100 : decode cX6_status 100 = .ok (.aload_n 0, 1) := by decide +kernel
theorem dX6_status_101 : decode cX6_status 101 = .ok (.getfield 10, 3) := by decide +kernel
theorem dX6_status_104 : decode cX6_status 104 = .ok (.getfield 341, 3) := by decide +kernel
theorem dX6_status_107 : decode cX6_status 107 = .ok (.ireturn, 1) := by decide +kernel
theorem dX6_status_108 : decode cX6_status 108 = .ok (.aload_n 0, 1) := by decide +kernel
theorem dX6_status_109 : decode cX6_status 109 = .ok (.getfield 10, 3) := by decide +kernel
theorem dX6_status_112 : decode cX6_status 112 = .ok (.getfield 326, 3) := by decide +kernel
theorem dX6_status_115 : decode cX6_status 115 = .ok (.ireturn, 1) := by decide +kernel
theorem dX6_status_116 : decode cX6_status 116 = .ok (.aload_n 0, 1) := by decide +kernel
theorem dX6_status_117 : decode cX6_status 117 = .ok (.getfield 48, 3) := by decide +kernel
theorem dX6_status_120 : decode cX6_status 120 = .ok (.getfield 344, 3) := by decide +kernel
theorem dX6_status_123 : decode cX6_status 123 = .ok (.ireturn, 1) := by decide +kernel
theorem dX6_status_124 : decode cX6_status 124 = .ok (.aload_n 0, 1) := by decide +kernel
theorem dX6_status_125 : decode cX6_status 125 = .ok (.iload_n 1, 1) := by decide +kernel
theorem dX6_status_126 : decode cX6_status 126 = .ok (.bipush 10, 2) := by decide +kernel
theorem dX6_status_128 : decode cX6_status 128 = .ok (.isub, 1) := by decide +kernel
theorem dX6_status_129 : decode cX6_status 129 = .ok (.invokevirtual 347, 3) := by decide +kernel
theorem dX6_status_132 : decode cX6_status 132 = .ok (.ireturn, 1) := by decide +kernel
theorem dX6_refusalsOf_0 : decode cX6_refusalsOf 0 = .ok (.iload_n 1, 1) := by decide +kernel
theorem dX6_refusalsOf_1 : decode cX6_refusalsOf 1 = .ok (.iconst 1, 1) := by decide +kernel
theorem dX6_refusalsOf_2 : decode cX6_refusalsOf 2 = .ok (.if_icmp .lt 21, 3) := by decide +kernel
theorem dX6_refusalsOf_5 : decode cX6_refusalsOf 5 = .ok (.iload_n 1, 1) := by decide +kernel
theorem dX6_refusalsOf_6 : decode cX6_refusalsOf 6 = .ok (.aload_n 0, 1) := by decide +kernel
theorem dX6_refusalsOf_7 : decode cX6_refusalsOf 7 = .ok (.getfield 52, 3) := by decide +kernel
theorem dX6_refusalsOf_10 : decode cX6_refusalsOf 10 = .ok (.arraylength, 1) := by decide +kernel
theorem dX6_refusalsOf_11 : decode cX6_refusalsOf 11 = .ok (.if_icmp .ge 12, 3) := by decide +kernel
theorem dX6_refusalsOf_14 : decode cX6_refusalsOf 14 = .ok (.aload_n 0, 1) := by decide +kernel
theorem dX6_refusalsOf_15 : decode cX6_refusalsOf 15 = .ok (.getfield 52, 3) := by decide +kernel
theorem dX6_refusalsOf_18 : decode cX6_refusalsOf 18 = .ok (.iload_n 1, 1) := by decide +kernel
theorem dX6_refusalsOf_19 : decode cX6_refusalsOf 19 = .ok (.iaload, 1) := by decide +kernel
theorem dX6_refusalsOf_20 : decode cX6_refusalsOf 20 = .ok (.goto 4, 3) := by decide +kernel
theorem dX6_refusalsOf_23 : decode cX6_refusalsOf 23 = .ok (.iconst (-1), 1) := by decide +kernel
theorem dX6_refusalsOf_24 : decode cX6_refusalsOf 24 = .ok (.ireturn, 1) := by decide +kernel
theorem dX7_init_0 : decode cX7_init 0 = .ok (.aload_n 0, 1) := by decide +kernel
theorem dX7_init_1 : decode cX7_init 1 = .ok (.invokespecial 1, 3) := by decide +kernel
theorem dX7_init_4 : decode cX7_init 4 = .ok (.aload_n 0, 1) := by decide +kernel
theorem dX7_init_5 : decode cX7_init 5 = .ok (.bipush 8, 2) := by decide +kernel
theorem dX7_init_7 : decode cX7_init 7 = .ok (.newarray .int, 2) := by decide +kernel
theorem dX7_init_9 : decode cX7_init 9 = .ok (.putfield 7, 3) := by decide +kernel
theorem dX7_init_12 : decode cX7_init 12 = .ok (.aload_n 0, 1) := by decide +kernel
theorem dX7_init_13 : decode cX7_init 13 = .ok (.bipush 8, 2) := by decide +kernel
theorem dX7_init_15 : decode cX7_init 15 = .ok (.newarray .int, 2) := by decide +kernel
theorem dX7_init_17 : decode cX7_init 17 = .ok (.putfield 13, 3) := by decide +kernel
theorem dX7_init_20 : decode cX7_init 20 = .ok (.aload_n 0, 1) := by decide +kernel
theorem dX7_init_21 : decode cX7_init 21 = .ok (.sipush 1280, 3) := by decide +kernel
theorem dX7_init_24 : decode cX7_init 24 = .ok (.newarray .long, 2) := by decide +kernel
theorem dX7_init_26 : decode cX7_init 26 = .ok (.putfield 16, 3) := by decide +kernel
theorem dX7_init_29 : decode cX7_init 29 = .ok (.aload_n 0, 1) := by decide +kernel
theorem dX7_init_30 : decode cX7_init 30 = .ok (.bipush 8, 2) := by decide +kernel
theorem dX7_init_32 : decode cX7_init 32 = .ok (.newarray .int, 2) := by decide +kernel
theorem dX7_init_34 : decode cX7_init 34 = .ok (.putfield 20, 3) := by decide +kernel
theorem dX7_init_37 : decode cX7_init 37 = .ok (.aload_n 0, 1) := by decide +kernel
theorem dX7_init_38 : decode cX7_init 38 = .ok (.bipush 8, 2) := by decide +kernel
theorem dX7_init_40 : decode cX7_init 40 = .ok (.newarray .int, 2) := by decide +kernel
theorem dX7_init_42 : decode cX7_init 42 = .ok (.putfield 23, 3) := by decide +kernel
theorem dX7_init_45 : decode cX7_init 45 = .ok (.aload_n 0, 1) := by decide +kernel
theorem dX7_init_46 : decode cX7_init 46 = .ok (.bipush 8, 2) := by decide +kernel
theorem dX7_init_48 : decode cX7_init 48 = .ok (.newarray .int, 2) := by decide +kernel
theorem dX7_init_50 : decode cX7_init 50 = .ok (.putfield 26, 3) := by decide +kernel
theorem dX7_init_53 : decode cX7_init 53 = .ok (.aload_n 0, 1) := by decide +kernel
theorem dX7_init_54 : decode cX7_init 54 = .ok (.bipush 8, 2) := by decide +kernel
theorem dX7_init_56 : decode cX7_init 56 = .ok (.newarray .int, 2) := by decide +kernel
theorem dX7_init_58 : decode cX7_init 58 = .ok (.putfield 29, 3) := by decide +kernel
theorem dX7_init_61 : decode cX7_init 61 = .ok (.aload_n 0, 1) := by decide +kernel
theorem dX7_init_62 : decode cX7_init 62 = .ok (.bipush 8, 2) := by decide +kernel
theorem dX7_init_64 : decode cX7_init 64 = .ok (.newarray .int, 2) := by decide +kernel
theorem dX7_init_66 : decode cX7_init 66 = .ok (.putfield 32, 3) := by decide +kernel
theorem dX7_init_69 : decode cX7_init 69 = .ok (.aload_n 0, 1) := by decide +kernel
theorem dX7_init_70 : decode cX7_init 70 = .ok (.bipush 8, 2) := by decide +kernel
theorem dX7_init_72 : decode cX7_init 72 = .ok (.newarray .int, 2) := by decide +kernel
theorem dX7_init_74 : decode cX7_init 74 = .ok (.putfield 35, 3) := by decide +kernel
theorem dX7_init_77 : decode cX7_init 77 = .ok (.aload_n 0, 1) := by decide +kernel
theorem dX7_init_78 : decode cX7_init 78 = .ok (.sipush 128, 3) := by decide +kernel
theorem dX7_init_81 : decode cX7_init 81 = .ok (.newarray .int, 2) := by decide +kernel
theorem dX7_init_83 : decode cX7_init 83 = .ok (.putfield 38, 3) := by decide +kernel
theorem dX7_init_86 : decode cX7_init 86 = .ok (.aload_n 0, 1) := by decide +kernel
theorem dX7_init_87 : decode cX7_init 87 = .ok (.bipush 8, 2) := by decide +kernel
theorem dX7_init_89 : decode cX7_init 89 = .ok (.newarray .int, 2) := by decide +kernel
theorem dX7_init_91 : decode cX7_init 91 = .ok (.putfield 41, 3) := by decide +kernel
theorem dX7_init_94 : decode cX7_init 94 = .ok (.aload_n 0, 1) := by decide +kernel
theorem dX7_init_95 : decode cX7_init 95 = .ok (.bipush 20, 2) := by decide +kernel
theorem dX7_init_97 : decode cX7_init 97 = .ok (.newarray .int, 2) := by decide +kernel
theorem dX7_init_99 : decode cX7_init 99 = .ok (.putfield 44, 3) := by decide +kernel
theorem dX7_init_102 : decode cX7_init 102 = .ok (.aload_n 0, 1) := by decide +kernel
theorem dX7_init_103 : decode cX7_init 103 = .ok (.sipush 184, 3) := by decide +kernel
theorem dX7_init_106 : decode cX7_init 106 = .ok (.newarray .int, 2) := by decide +kernel
theorem dX7_init_108 : decode cX7_init 108 = .ok (.putfield 47, 3) := by decide +kernel
theorem dX7_init_111 : decode cX7_init 111 = .ok (.aload_n 0, 1) := by decide +kernel
theorem dX7_init_112 : decode cX7_init 112 = .ok (.bipush 16, 2) := by decide +kernel
theorem dX7_init_114 : decode cX7_init 114 = .ok (.newarray .int, 2) := by decide +kernel
theorem dX7_init_116 : decode cX7_init 116 = .ok (.putfield 50, 3) := by decide +kernel
theorem dX7_init_119 : decode cX7_init 119 = .ok (.aload_n 0, 1) := by decide +kernel
theorem dX7_init_120 : decode cX7_init 120 = .ok (.bipush 16, 2) := by decide +kernel
theorem dX7_init_122 : decode cX7_init 122 = .ok (.newarray .int, 2) := by decide +kernel
theorem dX7_init_124 : decode cX7_init 124 = .ok (.putfield 53, 3) := by decide +kernel
theorem dX7_init_127 : decode cX7_init 127 = .ok (.aload_n 0, 1) := by decide +kernel
theorem dX7_init_128 : decode cX7_init 128 = .ok (.iconst 3, 1) := by decide +kernel
theorem dX7_init_129 : decode cX7_init 129 = .ok (.newarray .int, 2) := by decide +kernel
theorem dX7_init_131 : decode cX7_init 131 = .ok (.putfield 56, 3) := by decide +kernel
theorem dX7_init_134 : decode cX7_init 134 = .ok (.aload_n 0, 1) := by decide +kernel
theorem dX7_init_135 : decode cX7_init 135 = .ok (.bipush 8, 2) := by decide +kernel
theorem dX7_init_137 : decode cX7_init 137 = .ok (.newarray .int, 2) := by decide +kernel
theorem dX7_init_139 : decode cX7_init 139 = .ok (.putfield 59, 3) := by decide +kernel
theorem dX7_init_142 : decode cX7_init 142 = .ok (.aload_n 0, 1) := by decide +kernel
theorem dX7_init_143 : decode cX7_init 143 = .ok (.bipush 8, 2) := by decide +kernel
theorem dX7_init_145 : decode cX7_init 145 = .ok (.newarray .int, 2) := by decide +kernel
theorem dX7_init_147 : decode cX7_init 147 = .ok (.putfield 62, 3) := by decide +kernel
theorem dX7_init_150 : decode cX7_init 150 = .ok (.iconst 0, 1) := by decide +kernel
theorem dX7_init_151 : decode cX7_init 151 = .ok (.istore_n 1, 1) := by decide +kernel
theorem dX7_init_152 : decode cX7_init 152 = .ok (.iload_n 1, 1) := by decide +kernel
theorem dX7_init_153 : decode cX7_init 153 = .ok (.bipush 8, 2) := by decide +kernel
theorem dX7_init_155 : decode cX7_init 155 = .ok (.if_icmp .ge 16, 3) := by decide +kernel
theorem dX7_init_158 : decode cX7_init 158 = .ok (.aload_n 0, 1) := by decide +kernel
theorem dX7_init_159 : decode cX7_init 159 = .ok (.getfield 7, 3) := by decide +kernel
theorem dX7_init_162 : decode cX7_init 162 = .ok (.iload_n 1, 1) := by decide +kernel
theorem dX7_init_163 : decode cX7_init 163 = .ok (.iconst (-1), 1) := by decide +kernel
theorem dX7_init_164 : decode cX7_init 164 = .ok (.iastore, 1) := by decide +kernel
theorem dX7_init_165 : decode cX7_init 165 = .ok (.iinc 1 1, 3) := by decide +kernel
theorem dX7_init_168 : decode cX7_init 168 = .ok (.goto (-16), 3) := by decide +kernel
theorem dX7_init_171 : decode cX7_init 171 = .ok (.aload_n 0, 1) := by decide +kernel
theorem dX7_init_172 : decode cX7_init 172 = .ok (.bipush 20, 2) := by decide +kernel
theorem dX7_init_174 : decode cX7_init 174 = .ok (.putfield 65, 3) := by decide +kernel
theorem dX7_init_177 : decode cX7_init 177 = .ok (.aload_n 0, 1) := by decide +kernel
theorem dX7_init_178 : decode cX7_init 178 = .ok (.iconst 5, 1) := by decide +kernel
theorem dX7_init_179 : decode cX7_init 179 = .ok (.putfield 69, 3) := by decide +kernel
theorem dX7_init_182 : decode cX7_init 182 = .ok (.aload_n 0, 1) := by decide +kernel
theorem dX7_init_183 : decode cX7_init 183 = .ok (.iconst 1, 1) := by decide +kernel
theorem dX7_init_184 : decode cX7_init 184 = .ok (.putfield 72, 3) := by decide +kernel
theorem dX7_init_187 : decode cX7_init 187 = .ok (.aload_n 0, 1) := by decide +kernel
theorem dX7_init_188 : decode cX7_init 188 = .ok (.bipush 24, 2) := by decide +kernel
theorem dX7_init_190 : decode cX7_init 190 = .ok (.putfield 75, 3) := by decide +kernel
theorem dX7_init_193 : decode cX7_init 193 = .ok (.aload_n 0, 1) := by decide +kernel
theorem dX7_init_194 : decode cX7_init 194 = .ok (.iconst 1, 1) := by decide +kernel
theorem dX7_init_195 : decode cX7_init 195 = .ok (.putfield 78, 3) := by decide +kernel
theorem dX7_init_198 : decode cX7_init 198 = .ok (.aload_n 0, 1) := by decide +kernel
theorem dX7_init_199 : decode cX7_init 199 = .ok (.iconst (-1), 1) := by decide +kernel
theorem dX7_init_200 : decode cX7_init 200 = .ok (.putfield 81, 3) := by decide +kernel
theorem dX7_init_203 : decode cX7_init 203 = .ok (.return_, 1) := by decide +kernel
theorem dX7_no_0 : decode cX7_no 0 = .ok (.aload_n 0, 1) := by decide +kernel
theorem dX7_no_1 : decode cX7_no 1 = .ok (.getfield 41, 3) := by decide +kernel
theorem dX7_no_4 : decode cX7_no 4 = .ok (.iload_n 1, 1) := by decide +kernel
theorem dX7_no_5 : decode cX7_no 5 = .ok (.ineg, 1) := by decide +kernel
theorem dX7_no_6 : decode cX7_no 6 = .ok (.dup2, 1) := by decide +kernel
theorem dX7_no_7 : decode cX7_no 7 = .ok (.iaload, 1) := by decide +kernel
theorem dX7_no_8 : decode cX7_no 8 = .ok (.iconst 1, 1) := by decide +kernel
theorem dX7_no_9 : decode cX7_no 9 = .ok (.iadd, 1) := by decide +kernel
theorem dX7_no_10 : decode cX7_no 10 = .ok (.iastore, 1) := by decide +kernel
theorem dX7_no_11 : decode cX7_no 11 = .ok (.iload_n 1, 1) := by decide +kernel
theorem dX7_no_12 : decode cX7_no 12 = .ok (.ireturn, 1) := by decide +kernel
theorem dX7_no10_0 : decode cX7_no10 0 = .ok (.aload_n 0, 1) := by decide +kernel
theorem dX7_no10_1 : decode cX7_no10 1 = .ok (.getfield 41, 3) := by decide +kernel
theorem dX7_no10_4 : decode cX7_no10 4 = .ok (.iload_n 1, 1) := by decide +kernel
theorem dX7_no10_5 : decode cX7_no10 5 = .ok (.ineg, 1) := by decide +kernel
theorem dX7_no10_6 : decode cX7_no10 6 = .ok (.dup2, 1) := by decide +kernel
theorem dX7_no10_7 : decode cX7_no10 7 = .ok (.iaload, 1) := by decide +kernel
theorem dX7_no10_8 : decode cX7_no10 8 = .ok (.iconst 1, 1) := by decide +kernel
theorem dX7_no10_9 : decode cX7_no10 9 = .ok (.iadd, 1) := by decide +kernel
theorem dX7_no10_10 : decode cX7_no10 10 = .ok (.iastore, 1) := by decide +kernel
theorem dX7_no10_11 : decode cX7_no10 11 = .ok (.iload_n 1, 1) := by decide +kernel
theorem dX7_no10_12 : decode cX7_no10 12 = .ok (.bipush 10, 2) := by decide +kernel
theorem dX7_no10_14 : decode cX7_no10 14 = .ok (.isub, 1) := by decide +kernel
theorem dX7_no10_15 : decode cX7_no10 15 = .ok (.ireturn, 1) := by decide +kernel
theorem dX7_within_0 : decode cX7_within 0 = .ok (.iload_n 0, 1) := by decide +kernel
theorem dX7_within_1 : decode cX7_within 1 = .ok (.iload_n 1, 1) := by decide +kernel
theorem dX7_within_2 : decode cX7_within 2 = .ok (.if_icmp .lt 12, 3) := by decide +kernel
theorem dX7_within_5 : decode cX7_within 5 = .ok (.iload_n 0, 1) := by decide +kernel
theorem dX7_within_6 : decode cX7_within 6 = .ok (.iload_n 2, 1) := by decide +kernel
theorem dX7_within_7 : decode cX7_within 7 = .ok (.if_icmp .gt 7, 3) := by decide +kernel
theorem dX7_within_10 : decode cX7_within 10 = .ok (.iconst 1, 1) := by decide +kernel
theorem dX7_within_11 : decode cX7_within 11 = .ok (.goto 4, 3) := by decide +kernel
theorem dX7_within_14 : decode cX7_within 14 = .ok (.iconst 0, 1) := by decide +kernel
theorem dX7_within_15 : decode cX7_within 15 = .ok (.ireturn, 1) := by decide +kernel
theorem dX7_isPane_0 : decode cX7_isPane 0 = .ok (.iload_n 1, 1) := by decide +kernel
theorem dX7_isPane_1 : decode cX7_isPane 1 = .ok (.iconst 0, 1) := by decide +kernel
theorem dX7_isPane_2 : decode cX7_isPane 2 = .ok (.aload_n 0, 1) := by decide +kernel
theorem dX7_isPane_3 : decode cX7_isPane 3 = .ok (.getfield 84, 3) := by decide +kernel
theorem dX7_isPane_6 : decode cX7_isPane 6 = .ok (.iconst 1, 1) := by decide +kernel
theorem dX7_isPane_7 : decode cX7_isPane 7 = .ok (.isub, 1) := by decide +kernel
theorem dX7_isPane_8 : decode cX7_isPane 8 = .ok (.invokestatic 87, 3) := by decide +kernel
theorem dX7_isPane_11 : decode cX7_isPane 11 = .ok (.ireturn, 1) := by decide +kernel
theorem dX7_isLetter_0 : decode cX7_isLetter 0 = .ok (.iload_n 1, 1) := by decide +kernel
theorem dX7_isLetter_1 : decode cX7_isLetter 1 = .ok (.iconst 0, 1) := by decide +kernel
theorem dX7_isLetter_2 : decode cX7_isLetter 2 = .ok (.aload_n 0, 1) := by decide +kernel
theorem dX7_isLetter_3 : decode cX7_isLetter 3 = .ok (.getfield 91, 3) := by decide +kernel
theorem dX7_isLetter_6 : decode cX7_isLetter 6 = .ok (.iconst 1, 1) := by decide +kernel
theorem dX7_isLetter_7 : decode cX7_isLetter 7 = .ok (.isub, 1) := by decide +kernel
theorem dX7_isLetter_8 : decode cX7_isLetter 8 = .ok (.invokestatic 87, 3) := by decide +kernel
theorem dX7_isLetter_11 : decode cX7_isLetter 11 = .ok (.ireturn, 1) := by decide +kernel
theorem dX7_isRow_0 : decode cX7_isRow 0 = .ok (.aload_n 0, 1) := by decide +kernel
theorem dX7_isRow_1 : decode cX7_isRow 1 = .ok (.getfield 7, 3) := by decide +kernel
theorem dX7_isRow_4 : decode cX7_isRow 4 = .ok (.iload_n 1, 1) := by decide +kernel
theorem dX7_isRow_5 : decode cX7_isRow 5 = .ok (.iaload, 1) := by decide +kernel
theorem dX7_isRow_6 : decode cX7_isRow 6 = .ok (.bipush 100, 2) := by decide +kernel
theorem dX7_isRow_8 : decode cX7_isRow 8 = .ok (.if_icmp .lt 7, 3) := by decide +kernel
theorem dX7_isRow_11 : decode cX7_isRow 11 = .ok (.iconst 1, 1) := by decide +kernel
theorem dX7_isRow_12 : decode cX7_isRow 12 = .ok (.goto 4, 3) := by decide +kernel
theorem dX7_isRow_15 : decode cX7_isRow 15 = .ok (.iconst 0, 1) := by decide +kernel
theorem dX7_isRow_16 : decode cX7_isRow 16 = .ok (.ireturn, 1) := by decide +kernel
theorem dX7_row_0 : decode cX7_row 0 = .ok (.iload_n 1, 1) := by decide +kernel
theorem dX7_row_1 : decode cX7_row 1 = .ok (.iconst 0, 1) := by decide +kernel
theorem dX7_row_2 : decode cX7_row 2 = .ok (.bipush 7, 2) := by decide +kernel
theorem dX7_row_4 : decode cX7_row 4 = .ok (.invokestatic 87, 3) := by decide +kernel
theorem dX7_row_7 : decode cX7_row 7 = .ok (.ifCond .ne 9, 3) := by decide +kernel
theorem dX7_row_10 : decode cX7_row 10 = .ok (.aload_n 0, 1) := by decide +kernel
theorem dX7_row_11 : decode cX7_row 11 = .ok (.iconst (-1), 1) := by decide +kernel
theorem dX7_row_12 : decode cX7_row 12 = .ok (.invokevirtual 94, 3) := by decide +kernel
theorem dX7_row_15 : decode cX7_row 15 = .ok (.ireturn, 1) := by decide +kernel
theorem dX7_row_16 : decode cX7_row 16 = .ok (.iload_n 3, 1) := by decide +kernel
theorem dX7_row_17 : decode cX7_row 17 = .ok (.ifCond .ge 10, 3) := by decide +kernel
theorem dX7_row_20 : decode cX7_row 20 = .ok (.aload_n 0, 1) := by decide +kernel
theorem dX7_row_21 : decode cX7_row 21 = .ok (.bipush (-4), 2) := by decide +kernel
theorem dX7_row_23 : decode cX7_row 23 = .ok (.invokevirtual 94, 3) := by decide +kernel
theorem dX7_row_26 : decode cX7_row 26 = .ok (.ireturn, 1) := by decide +kernel
theorem dX7_row_27 : decode cX7_row 27 = .ok (.iload_n 2, 1) := by decide +kernel
theorem dX7_row_28 : decode cX7_row 28 = .ok (.iconst 0, 1) := by decide +kernel
theorem dX7_row_29 : decode cX7_row 29 = .ok (.iconst 3, 1) := by decide +kernel
theorem dX7_row_30 : decode cX7_row 30 = .ok (.invokestatic 87, 3) := by decide +kernel
theorem dX7_row_33 : decode cX7_row 33 = .ok (.ifCond .ne 10, 3) := by decide +kernel
theorem dX7_row_36 : decode cX7_row 36 = .ok (.aload_n 0, 1) := by decide +kernel
theorem dX7_row_37 : decode cX7_row 37 = .ok (.bipush (-6), 2) := by decide +kernel
theorem dX7_row_39 : decode cX7_row 39 = .ok (.invokevirtual 94, 3) := by decide +kernel
theorem dX7_row_42 : decode cX7_row 42 = .ok (.ireturn, 1) := by decide +kernel
theorem dX7_row_43 : decode cX7_row 43 = .ok (.iload_n 3, 1) := by decide +kernel
theorem dX7_row_44 : decode cX7_row 44 = .ok (.sipush 160, 3) := by decide +kernel
theorem dX7_row_47 : decode cX7_row 47 = .ok (.if_icmp .le 10, 3) := by decide +kernel
theorem dX7_row_50 : decode cX7_row 50 = .ok (.aload_n 0, 1) := by decide +kernel
theorem dX7_row_51 : decode cX7_row 51 = .ok (.bipush (-7), 2) := by decide +kernel
theorem dX7_row_53 : decode cX7_row 53 = .ok (.invokevirtual 94, 3) := by decide +kernel
theorem dX7_row_56 : decode cX7_row 56 = .ok (.ireturn, 1) := by decide +kernel
theorem dX7_row_57 : decode cX7_row 57 = .ok (.aload_n 0, 1) := by decide +kernel
theorem dX7_row_58 : decode cX7_row 58 = .ok (.getfield 7, 3) := by decide +kernel
theorem dX7_row_61 : decode cX7_row 61 = .ok (.iload_n 1, 1) := by decide +kernel
theorem dX7_row_62 : decode cX7_row 62 = .ok (.bipush 100, 2) := by decide +kernel
theorem dX7_row_64 : decode cX7_row 64 = .ok (.iload_n 2, 1) := by decide +kernel
theorem dX7_row_65 : decode cX7_row 65 = .ok (.iadd, 1) := by decide +kernel
theorem dX7_row_66 : decode cX7_row 66 = .ok (.iastore, 1) := by decide +kernel
theorem dX7_row_67 : decode cX7_row 67 = .ok (.aload_n 0, 1) := by decide +kernel
theorem dX7_row_68 : decode cX7_row 68 = .ok (.getfield 13, 3) := by decide +kernel
theorem dX7_row_71 : decode cX7_row 71 = .ok (.iload_n 1, 1) := by decide +kernel
theorem dX7_row_72 : decode cX7_row 72 = .ok (.iload_n 3, 1) := by decide +kernel
theorem dX7_row_73 : decode cX7_row 73 = .ok (.iastore, 1) := by decide +kernel
theorem dX7_row_74 : decode cX7_row 74 = .ok (.iconst 0, 1) := by decide +kernel
theorem dX7_row_75 : decode cX7_row 75 = .ok (.istore 4, 2) := by decide +kernel
theorem dX7_row_77 : decode cX7_row 77 = .ok (.iload 4, 2) := by decide +kernel
theorem dX7_row_79 : decode cX7_row 79 = .ok (.sipush 160, 3) := by decide +kernel
theorem dX7_row_82 : decode cX7_row 82 = .ok (.if_icmp .ge 23, 3) := by decide +kernel
theorem dX7_row_85 : decode cX7_row 85 = .ok (.aload_n 0, 1) := by decide +kernel
theorem dX7_row_86 : decode cX7_row 86 = .ok (.getfield 16, 3) := by decide +kernel
theorem dX7_row_89 : decode cX7_row 89 = .ok (.sipush 160, 3) := by decide +kernel
theorem dX7_row_92 : decode cX7_row 92 = .ok (.iload_n 1, 1) := by decide +kernel
theorem dX7_row_93 : decode cX7_row 93 = .ok (.imul, 1) := by decide +kernel
theorem dX7_row_94 : decode cX7_row 94 = .ok (.iload 4, 2) := by decide +kernel
theorem dX7_row_96 : decode cX7_row 96 = .ok (.iadd, 1) := by decide +kernel
theorem dX7_row_97 : decode cX7_row 97 = .ok (.lconst 0, 1) := by decide +kernel
theorem dX7_row_98 : decode cX7_row 98 = .ok (.lastore, 1) := by decide +kernel
theorem dX7_row_99 : decode cX7_row 99 = .ok (.iinc 4 1, 3) := by decide +kernel
theorem dX7_row_102 : decode cX7_row 102 = .ok (.goto (-25), 3) := by decide +kernel
theorem dX7_row_105 : decode cX7_row 105 = .ok (.iconst 1, 1) := by decide +kernel
theorem dX7_row_106 : decode cX7_row 106 = .ok (.ireturn, 1) := by decide +kernel
theorem dX7_noRow_0 : decode cX7_noRow 0 = .ok (.iload_n 1, 1) := by decide +kernel
theorem dX7_noRow_1 : decode cX7_noRow 1 = .ok (.iconst 0, 1) := by decide +kernel
theorem dX7_noRow_2 : decode cX7_noRow 2 = .ok (.bipush 7, 2) := by decide +kernel
theorem dX7_noRow_4 : decode cX7_noRow 4 = .ok (.invokestatic 87, 3) := by decide +kernel
theorem dX7_noRow_7 : decode cX7_noRow 7 = .ok (.ifCond .ne 5, 3) := by decide +kernel
theorem dX7_noRow_10 : decode cX7_noRow 10 = .ok (.iconst (-1), 1) := by decide +kernel
theorem dX7_noRow_11 : decode cX7_noRow 11 = .ok (.ireturn, 1) := by decide +kernel
theorem dX7_noRow_12 : decode cX7_noRow 12 = .ok (.aload_n 0, 1) := by decide +kernel
theorem dX7_noRow_13 : decode cX7_noRow 13 = .ok (.getfield 7, 3) := by decide +kernel
theorem dX7_noRow_16 : decode cX7_noRow 16 = .ok (.iload_n 1, 1) := by decide +kernel
theorem dX7_noRow_17 : decode cX7_noRow 17 = .ok (.iaload, 1) := by decide +kernel
theorem dX7_noRow_18 : decode cX7_noRow 18 = .ok (.ifCond .lt 14, 3) := by decide +kernel
theorem dX7_noRow_21 : decode cX7_noRow 21 = .ok (.aload_n 0, 1) := by decide +kernel
theorem dX7_noRow_22 : decode cX7_noRow 22 = .ok (.iload_n 1, 1) := by decide +kernel
theorem dX7_noRow_23 : decode cX7_noRow 23 = .ok (.invokevirtual 98, 3) := by decide +kernel
theorem dX7_noRow_26 : decode cX7_noRow 26 = .ok (.ifCond .ne 6, 3) := by decide +kernel
theorem dX7_noRow_29 : decode cX7_noRow 29 = .ok (.bipush (-2), 2) := by decide +kernel
theorem dX7_noRow_31 : decode cX7_noRow 31 = .ok (.ireturn, 1) := by decide +kernel
theorem dX7_noRow_32 : decode cX7_noRow 32 = .ok (.aload_n 0, 1) := by decide +kernel
theorem dX7_noRow_33 : decode cX7_noRow 33 = .ok (.getfield 7, 3) := by decide +kernel
theorem dX7_noRow_36 : decode cX7_noRow 36 = .ok (.iload_n 1, 1) := by decide +kernel
theorem dX7_noRow_37 : decode cX7_noRow 37 = .ok (.iaload, 1) := by decide +kernel
theorem dX7_noRow_38 : decode cX7_noRow 38 = .ok (.ifCond .ge 8, 3) := by decide +kernel
theorem dX7_noRow_41 : decode cX7_noRow 41 = .ok (.bipush (-3), 2) := by decide +kernel
theorem dX7_noRow_43 : decode cX7_noRow 43 = .ok (.goto 4, 3) := by decide +kernel
theorem dX7_noRow_46 : decode cX7_noRow 46 = .ok (.iconst 0, 1) := by decide +kernel
theorem dX7_noRow_47 : decode cX7_noRow 47 = .ok (.ireturn, 1) := by decide +kernel
theorem dX7_set_0 : decode cX7_set 0 = .ok (.aload_n 0, 1) := by decide +kernel
theorem dX7_set_1 : decode cX7_set 1 = .ok (.iload_n 1, 1) := by decide +kernel
theorem dX7_set_2 : decode cX7_set 2 = .ok (.invokevirtual 102, 3) := by decide +kernel
theorem dX7_set_5 : decode cX7_set 5 = .ok (.istore 5, 2) := by decide +kernel
theorem dX7_set_7 : decode cX7_set 7 = .ok (.iload 5, 2) := by decide +kernel
theorem dX7_set_9 : decode cX7_set 9 = .ok (.ifCond .ge 10, 3) := by decide +kernel
theorem dX7_set_12 : decode cX7_set 12 = .ok (.aload_n 0, 1) := by decide +kernel
theorem dX7_set_13 : decode cX7_set 13 = .ok (.iload 5, 2) := by decide +kernel
theorem dX7_set_15 : decode cX7_set 15 = .ok (.invokevirtual 94, 3) := by decide +kernel
theorem dX7_set_18 : decode cX7_set 18 = .ok (.ireturn, 1) := by decide +kernel
theorem dX7_set_19 : decode cX7_set 19 = .ok (.iload_n 2, 1) := by decide +kernel
theorem dX7_set_20 : decode cX7_set 20 = .ok (.iconst 0, 1) := by decide +kernel
theorem dX7_set_21 : decode cX7_set 21 = .ok (.aload_n 0, 1) := by decide +kernel
theorem dX7_set_22 : decode cX7_set 22 = .ok (.getfield 13, 3) := by decide +kernel
theorem dX7_set_25 : decode cX7_set 25 = .ok (.iload_n 1, 1) := by decide +kernel
theorem dX7_set_26 : decode cX7_set 26 = .ok (.iaload, 1) := by decide +kernel
theorem dX7_set_27 : decode cX7_set 27 = .ok (.iconst 1, 1) := by decide +kernel
theorem dX7_set_28 : decode cX7_set 28 = .ok (.isub, 1) := by decide +kernel
theorem dX7_set_29 : decode cX7_set 29 = .ok (.invokestatic 87, 3) := by decide +kernel
theorem dX7_set_32 : decode cX7_set 32 = .ok (.ifCond .ne 10, 3) := by decide +kernel
theorem dX7_set_35 : decode cX7_set 35 = .ok (.aload_n 0, 1) := by decide +kernel
theorem dX7_set_36 : decode cX7_set 36 = .ok (.bipush (-5), 2) := by decide +kernel
theorem dX7_set_38 : decode cX7_set 38 = .ok (.invokevirtual 94, 3) := by decide +kernel
theorem dX7_set_41 : decode cX7_set 41 = .ok (.ireturn, 1) := by decide +kernel
theorem dX7_set_42 : decode cX7_set 42 = .ok (.aload_n 0, 1) := by decide +kernel
theorem dX7_set_43 : decode cX7_set 43 = .ok (.getfield 7, 3) := by decide +kernel
theorem dX7_set_46 : decode cX7_set 46 = .ok (.iload_n 1, 1) := by decide +kernel
theorem dX7_set_47 : decode cX7_set 47 = .ok (.iaload, 1) := by decide +kernel
theorem dX7_set_48 : decode cX7_set 48 = .ok (.bipush 100, 2) := by decide +kernel
theorem dX7_set_50 : decode cX7_set 50 = .ok (.isub, 1) := by decide +kernel
theorem dX7_set_51 : decode cX7_set 51 = .ok (.istore 6, 2) := by decide +kernel
theorem dX7_set_53 : decode cX7_set 53 = .ok (.aload_n 0, 1) := by decide +kernel
theorem dX7_set_54 : decode cX7_set 54 = .ok (.getfield 16, 3) := by decide +kernel
theorem dX7_set_57 : decode cX7_set 57 = .ok (.sipush 160, 3) := by decide +kernel
theorem dX7_set_60 : decode cX7_set 60 = .ok (.iload_n 1, 1) := by decide +kernel
theorem dX7_set_61 : decode cX7_set 61 = .ok (.imul, 1) := by decide +kernel
theorem dX7_set_62 : decode cX7_set 62 = .ok (.iload_n 2, 1) := by decide +kernel
theorem dX7_set_63 : decode cX7_set 63 = .ok (.iadd, 1) := by decide +kernel
theorem dX7_set_64 : decode cX7_set 64 = .ok (.iload 6, 2) := by decide +kernel
theorem dX7_set_66 : decode cX7_set 66 = .ok (.ifCond .ne 10, 3) := by decide +kernel
theorem dX7_set_69 : decode cX7_set 69 = .ok (.lload_n 3, 1) := by decide +kernel
theorem dX7_set_70 : decode cX7_set 70 = .ok (.l2i, 1) := by decide +kernel
theorem dX7_set_71 : decode cX7_set 71 = .ok (.i2b, 1) := by decide +kernel
theorem dX7_set_72 : decode cX7_set 72 = .ok (.i2l, 1) := by decide +kernel
theorem dX7_set_73 : decode cX7_set 73 = .ok (.goto 29, 3) := by decide +kernel
theorem dX7_set_76 : decode cX7_set 76 = .ok (.iload 6, 2) := by decide +kernel
theorem dX7_set_78 : decode cX7_set 78 = .ok (.iconst 1, 1) := by decide +kernel
theorem dX7_set_79 : decode cX7_set 79 = .ok (.if_icmp .ne 10, 3) := by decide +kernel
theorem dX7_set_82 : decode cX7_set 82 = .ok (.lload_n 3, 1) := by decide +kernel
theorem dX7_set_83 : decode cX7_set 83 = .ok (.l2i, 1) := by decide +kernel
theorem dX7_set_84 : decode cX7_set 84 = .ok (.i2s, 1) := by decide +kernel
theorem dX7_set_85 : decode cX7_set 85 = .ok (.i2l, 1) := by decide +kernel
theorem dX7_set_86 : decode cX7_set 86 = .ok (.goto 16, 3) := by decide +kernel
theorem dX7_set_89 : decode cX7_set 89 = .ok (.iload 6, 2) := by decide +kernel
theorem dX7_set_91 : decode cX7_set 91 = .ok (.iconst 2, 1) := by decide +kernel
theorem dX7_set_92 : decode cX7_set 92 = .ok (.if_icmp .ne 9, 3) := by decide +kernel
theorem dX7_set_95 : decode cX7_set 95 = .ok (.lload_n 3, 1) := by decide +kernel
theorem dX7_set_96 : decode cX7_set 96 = .ok (.l2i, 1) := by decide +kernel
theorem dX7_set_97 : decode cX7_set 97 = .ok (.i2l, 1) := by decide +kernel
theorem dX7_set_98 : decode cX7_set 98 = .ok (.goto 4, 3) := by decide +kernel
theorem dX7_set_101 : decode cX7_set 101 = .ok (.lload_n 3, 1) := by decide +kernel
theorem dX7_set_102 : decode cX7_set 102 = .ok (.lastore, 1) := by decide +kernel
theorem dX7_set_103 : decode cX7_set 103 = .ok (.iconst 1, 1) := by decide +kernel
theorem dX7_set_104 : decode cX7_set 104 = .ok (.ireturn, 1) := by decide +kernel
theorem dX7_copy_0 : decode cX7_copy 0 = .ok (.iload_n 1, 1) := by decide +kernel
theorem dX7_copy_1 : decode cX7_copy 1 = .ok (.iconst 0, 1) := by decide +kernel
theorem dX7_copy_2 : decode cX7_copy 2 = .ok (.bipush 7, 2) := by decide +kernel
theorem dX7_copy_4 : decode cX7_copy 4 = .ok (.invokestatic 87, 3) := by decide +kernel
theorem dX7_copy_7 : decode cX7_copy 7 = .ok (.ifCond .eq 13, 3) := by decide +kernel
theorem dX7_copy_10 : decode cX7_copy 10 = .ok (.iload_n 2, 1) := by decide +kernel
theorem dX7_copy_11 : decode cX7_copy 11 = .ok (.iconst 0, 1) := by decide +kernel
theorem dX7_copy_12 : decode cX7_copy 12 = .ok (.bipush 7, 2) := by decide +kernel
theorem dX7_copy_14 : decode cX7_copy 14 = .ok (.invokestatic 87, 3) := by decide +kernel
theorem dX7_copy_17 : decode cX7_copy 17 = .ok (.ifCond .ne 9, 3) := by decide +kernel
theorem dX7_copy_20 : decode cX7_copy 20 = .ok (.aload_n 0, 1) := by decide +kernel
theorem dX7_copy_21 : decode cX7_copy 21 = .ok (.iconst (-1), 1) := by decide +kernel
theorem dX7_copy_22 : decode cX7_copy 22 = .ok (.invokevirtual 94, 3) := by decide +kernel
theorem dX7_copy_25 : decode cX7_copy 25 = .ok (.ireturn, 1) := by decide +kernel
theorem dX7_copy_26 : decode cX7_copy 26 = .ok (.aload_n 0, 1) := by decide +kernel
theorem dX7_copy_27 : decode cX7_copy 27 = .ok (.getfield 7, 3) := by decide +kernel
theorem dX7_copy_30 : decode cX7_copy 30 = .ok (.iload_n 1, 1) := by decide +kernel
theorem dX7_copy_31 : decode cX7_copy 31 = .ok (.iaload, 1) := by decide +kernel
theorem dX7_copy_32 : decode cX7_copy 32 = .ok (.ifCond .lt 11, 3) := by decide +kernel
theorem dX7_copy_35 : decode cX7_copy 35 = .ok (.aload_n 0, 1) := by decide +kernel
theorem dX7_copy_36 : decode cX7_copy 36 = .ok (.iload_n 1, 1) := by decide +kernel
theorem dX7_copy_37 : decode cX7_copy 37 = .ok (.invokevirtual 98, 3) := by decide +kernel
theorem dX7_copy_40 : decode cX7_copy 40 = .ok (.ifCond .eq 51, 3) := by decide +kernel
theorem dX7_copy_43 : decode cX7_copy 43 = .ok (.aload_n 0, 1) := by decide +kernel
theorem dX7_copy_44 : decode cX7_copy 44 = .ok (.getfield 7, 3) := by decide +kernel
theorem dX7_copy_47 : decode cX7_copy 47 = .ok (.iload_n 2, 1) := by decide +kernel
theorem dX7_copy_48 : decode cX7_copy 48 = .ok (.iaload, 1) := by decide +kernel
theorem dX7_copy_49 : decode cX7_copy 49 = .ok (.ifCond .lt 11, 3) := by decide +kernel
theorem dX7_copy_52 : decode cX7_copy 52 = .ok (.aload_n 0, 1) := by decide +kernel
theorem dX7_copy_53 : decode cX7_copy 53 = .ok (.iload_n 2, 1) := by decide +kernel
theorem dX7_copy_54 : decode cX7_copy 54 = .ok (.invokevirtual 98, 3) := by decide +kernel
theorem dX7_copy_57 : decode cX7_copy 57 = .ok (.ifCond .eq 34, 3) := by decide +kernel
theorem dX7_copy_60 : decode cX7_copy 60 = .ok (.aload_n 0, 1) := by decide +kernel
theorem dX7_copy_61 : decode cX7_copy 61 = .ok (.iload_n 1, 1) := by decide +kernel
theorem dX7_copy_62 : decode cX7_copy 62 = .ok (.invokevirtual 98, 3) := by decide +kernel
theorem dX7_copy_65 : decode cX7_copy 65 = .ok (.ifCond .eq 33, 3) := by decide +kernel
theorem dX7_copy_68 : decode cX7_copy 68 = .ok (.aload_n 0, 1) := by decide +kernel
theorem dX7_copy_69 : decode cX7_copy 69 = .ok (.iload_n 2, 1) := by decide +kernel
theorem dX7_copy_70 : decode cX7_copy 70 = .ok (.invokevirtual 98, 3) := by decide +kernel
theorem dX7_copy_73 : decode cX7_copy 73 = .ok (.ifCond .eq 25, 3) := by decide +kernel
theorem dX7_copy_76 : decode cX7_copy 76 = .ok (.aload_n 0, 1) := by decide +kernel
theorem dX7_copy_77 : decode cX7_copy 77 = .ok (.getfield 7, 3) := by decide +kernel
theorem dX7_copy_80 : decode cX7_copy 80 = .ok (.iload_n 1, 1) := by decide +kernel
theorem dX7_copy_81 : decode cX7_copy 81 = .ok (.iaload, 1) := by decide +kernel
theorem dX7_copy_82 : decode cX7_copy 82 = .ok (.aload_n 0, 1) := by decide +kernel
theorem dX7_copy_83 : decode cX7_copy 83 = .ok (.getfield 7, 3) := by decide +kernel
theorem dX7_copy_86 : decode cX7_copy 86 = .ok (.iload_n 2, 1) := by decide +kernel
theorem dX7_copy_87 : decode cX7_copy 87 = .ok (.iaload, 1) := by decide +kernel
theorem dX7_copy_88 : decode cX7_copy 88 = .ok (.if_icmp .eq 10, 3) := by decide +kernel
theorem dX7_copy_91 : decode cX7_copy 91 = .ok (.aload_n 0, 1) := by decide +kernel
theorem dX7_copy_92 : decode cX7_copy 92 = .ok (.bipush (-2), 2) := by decide +kernel
theorem dX7_copy_94 : decode cX7_copy 94 = .ok (.invokevirtual 94, 3) := by decide +kernel
theorem dX7_copy_97 : decode cX7_copy 97 = .ok (.ireturn, 1) := by decide +kernel
theorem dX7_copy_98 : decode cX7_copy 98 = .ok (.aload_n 0, 1) := by decide +kernel
theorem dX7_copy_99 : decode cX7_copy 99 = .ok (.getfield 7, 3) := by decide +kernel
theorem dX7_copy_102 : decode cX7_copy 102 = .ok (.iload_n 1, 1) := by decide +kernel
theorem dX7_copy_103 : decode cX7_copy 103 = .ok (.iaload, 1) := by decide +kernel
theorem dX7_copy_104 : decode cX7_copy 104 = .ok (.ifCond .lt 12, 3) := by decide +kernel
theorem dX7_copy_107 : decode cX7_copy 107 = .ok (.aload_n 0, 1) := by decide +kernel
theorem dX7_copy_108 : decode cX7_copy 108 = .ok (.getfield 7, 3) := by decide +kernel
theorem dX7_copy_111 : decode cX7_copy 111 = .ok (.iload_n 2, 1) := by decide +kernel
theorem dX7_copy_112 : decode cX7_copy 112 = .ok (.iaload, 1) := by decide +kernel
theorem dX7_copy_113 : decode cX7_copy 113 = .ok (.ifCond .ge 10, 3) := by decide +kernel
theorem dX7_copy_116 : decode cX7_copy 116 = .ok (.aload_n 0, 1) := by decide +kernel
theorem dX7_copy_117 : decode cX7_copy 117 = .ok (.bipush (-3), 2) := by decide +kernel
theorem dX7_copy_119 : decode cX7_copy 119 = .ok (.invokevirtual 94, 3) := by decide +kernel
theorem dX7_copy_122 : decode cX7_copy 122 = .ok (.ireturn, 1) := by decide +kernel
theorem dX7_copy_123 : decode cX7_copy 123 = .ok (.iload 5, 2) := by decide +kernel
theorem dX7_copy_125 : decode cX7_copy 125 = .ok (.ifCond .ge 10, 3) := by decide +kernel
theorem dX7_copy_128 : decode cX7_copy 128 = .ok (.aload_n 0, 1) := by decide +kernel
theorem dX7_copy_129 : decode cX7_copy 129 = .ok (.bipush (-4), 2) := by decide +kernel
theorem dX7_copy_131 : decode cX7_copy 131 = .ok (.invokevirtual 94, 3) := by decide +kernel
theorem dX7_copy_134 : decode cX7_copy 134 = .ok (.ireturn, 1) := by decide +kernel
theorem dX7_copy_135 : decode cX7_copy 135 = .ok (.iload_n 3, 1) := by decide +kernel
theorem dX7_copy_136 : decode cX7_copy 136 = .ok (.ifCond .lt 43, 3) := by decide +kernel
theorem dX7_copy_139 : decode cX7_copy 139 = .ok (.iload 4, 2) := by decide +kernel
theorem dX7_copy_141 : decode cX7_copy 141 = .ok (.ifCond .lt 38, 3) := by decide +kernel
theorem dX7_copy_144 : decode cX7_copy 144 = .ok (.iload_n 3, 1) := by decide +kernel
theorem dX7_copy_145 : decode cX7_copy 145 = .ok (.i2l, 1) := by decide +kernel
theorem dX7_copy_146 : decode cX7_copy 146 = .ok (.iload 5, 2) := by decide +kernel
theorem dX7_copy_148 : decode cX7_copy 148 = .ok (.i2l, 1) := by decide +kernel
theorem dX7_copy_149 : decode cX7_copy 149 = .ok (.ladd, 1) := by decide +kernel
theorem dX7_copy_150 : decode cX7_copy 150 = .ok (.aload_n 0, 1) := by decide +kernel
theorem dX7_copy_151 : decode cX7_copy 151 = .ok (.getfield 13, 3) := by decide +kernel
theorem dX7_copy_154 : decode cX7_copy 154 = .ok (.iload_n 1, 1) := by decide +kernel
theorem dX7_copy_155 : decode cX7_copy 155 = .ok (.iaload, 1) := by decide +kernel
theorem dX7_copy_156 : decode cX7_copy 156 = .ok (.i2l, 1) := by decide +kernel
theorem dX7_copy_157 : decode cX7_copy 157 = .ok (.lcmp, 1) := by decide +kernel
theorem dX7_copy_158 : decode cX7_copy 158 = .ok (.ifCond .gt 21, 3) := by decide +kernel
theorem dX7_copy_161 : decode cX7_copy 161 = .ok (.iload 4, 2) := by decide +kernel
theorem dX7_copy_163 : decode cX7_copy 163 = .ok (.i2l, 1) := by decide +kernel
theorem dX7_copy_164 : decode cX7_copy 164 = .ok (.iload 5, 2) := by decide +kernel
theorem dX7_copy_166 : decode cX7_copy 166 = .ok (.i2l, 1) := by decide +kernel
theorem dX7_copy_167 : decode cX7_copy 167 = .ok (.ladd, 1) := by decide +kernel
theorem dX7_copy_168 : decode cX7_copy 168 = .ok (.aload_n 0, 1) := by decide +kernel
theorem dX7_copy_169 : decode cX7_copy 169 = .ok (.getfield 13, 3) := by decide +kernel
theorem dX7_copy_172 : decode cX7_copy 172 = .ok (.iload_n 2, 1) := by decide +kernel
theorem dX7_copy_173 : decode cX7_copy 173 = .ok (.iaload, 1) := by decide +kernel
theorem dX7_copy_174 : decode cX7_copy 174 = .ok (.i2l, 1) := by decide +kernel
theorem dX7_copy_175 : decode cX7_copy 175 = .ok (.lcmp, 1) := by decide +kernel
theorem dX7_copy_176 : decode cX7_copy 176 = .ok (.ifCond .le 10, 3) := by decide +kernel
theorem dX7_copy_179 : decode cX7_copy 179 = .ok (.aload_n 0, 1) := by decide +kernel
theorem dX7_copy_180 : decode cX7_copy 180 = .ok (.bipush (-5), 2) := by decide +kernel
theorem dX7_copy_182 : decode cX7_copy 182 = .ok (.invokevirtual 94, 3) := by decide +kernel
theorem dX7_copy_185 : decode cX7_copy 185 = .ok (.ireturn, 1) := by decide +kernel
theorem dX7_copy_186 : decode cX7_copy 186 = .ok (.iload_n 1, 1) := by decide +kernel
theorem dX7_copy_187 : decode cX7_copy 187 = .ok (.iload_n 2, 1) := by decide +kernel
theorem dX7_copy_188 : decode cX7_copy 188 = .ok (.if_icmp .ne 60, 3) := by decide +kernel
theorem dX7_copy_191 : decode cX7_copy 191 = .ok (.iload_n 3, 1) := by decide +kernel
theorem dX7_copy_192 : decode cX7_copy 192 = .ok (.iload 4, 2) := by decide +kernel
theorem dX7_copy_194 : decode cX7_copy 194 = .ok (.if_icmp .ge 54, 3) := by decide +kernel
theorem dX7_copy_197 : decode cX7_copy 197 = .ok (.iload 5, 2) := by decide +kernel
theorem dX7_copy_199 : decode cX7_copy 199 = .ok (.iconst 1, 1) := by decide +kernel
theorem dX7_copy_200 : decode cX7_copy 200 = .ok (.isub, 1) := by decide +kernel
theorem dX7_copy_201 : decode cX7_copy 201 = .ok (.istore 6, 2) := by decide +kernel
theorem dX7_copy_203 : decode cX7_copy 203 = .ok (.iload 6, 2) := by decide +kernel
theorem dX7_copy_205 : decode cX7_copy 205 = .ok (.ifCond .lt 40, 3) := by decide +kernel
theorem dX7_copy_208 : decode cX7_copy 208 = .ok (.aload_n 0, 1) := by decide +kernel
theorem dX7_copy_209 : decode cX7_copy 209 = .ok (.getfield 16, 3) := by decide +kernel
theorem dX7_copy_212 : decode cX7_copy 212 = .ok (.sipush 160, 3) := by decide +kernel
theorem dX7_copy_215 : decode cX7_copy 215 = .ok (.iload_n 2, 1) := by decide +kernel
theorem dX7_copy_216 : decode cX7_copy 216 = .ok (.imul, 1) := by decide +kernel
theorem dX7_copy_217 : decode cX7_copy 217 = .ok (.iload 4, 2) := by decide +kernel
theorem dX7_copy_219 : decode cX7_copy 219 = .ok (.iadd, 1) := by decide +kernel
theorem dX7_copy_220 : decode cX7_copy 220 = .ok (.iload 6, 2) := by decide +kernel
theorem dX7_copy_222 : decode cX7_copy 222 = .ok (.iadd, 1) := by decide +kernel
theorem dX7_copy_223 : decode cX7_copy 223 = .ok (.aload_n 0, 1) := by decide +kernel
theorem dX7_copy_224 : decode cX7_copy 224 = .ok (.getfield 16, 3) := by decide +kernel
theorem dX7_copy_227 : decode cX7_copy 227 = .ok (.sipush 160, 3) := by decide +kernel
theorem dX7_copy_230 : decode cX7_copy 230 = .ok (.iload_n 1, 1) := by decide +kernel
theorem dX7_copy_231 : decode cX7_copy 231 = .ok (.imul, 1) := by decide +kernel
theorem dX7_copy_232 : decode cX7_copy 232 = .ok (.iload_n 3, 1) := by decide +kernel
theorem dX7_copy_233 : decode cX7_copy 233 = .ok (.iadd, 1) := by decide +kernel
theorem dX7_copy_234 : decode cX7_copy 234 = .ok (.iload 6, 2) := by decide +kernel
theorem dX7_copy_236 : decode cX7_copy 236 = .ok (.iadd, 1) := by decide +kernel
theorem dX7_copy_237 : decode cX7_copy 237 = .ok (.laload, 1) := by decide +kernel
theorem dX7_copy_238 : decode cX7_copy 238 = .ok (.lastore, 1) := by decide +kernel
theorem dX7_copy_239 : decode cX7_copy 239 = .ok (.iinc 6 (-1), 3) := by decide +kernel
theorem dX7_copy_242 : decode cX7_copy 242 = .ok (.goto (-39), 3) := by decide +kernel
theorem dX7_copy_245 : decode cX7_copy 245 = .ok (.goto 50, 3) := by decide +kernel
theorem dX7_copy_248 : decode cX7_copy 248 = .ok (.iconst 0, 1) := by decide +kernel
theorem dX7_copy_249 : decode cX7_copy 249 = .ok (.istore 6, 2) := by decide +kernel
theorem dX7_copy_251 : decode cX7_copy 251 = .ok (.iload 6, 2) := by decide +kernel
theorem dX7_copy_253 : decode cX7_copy 253 = .ok (.iload 5, 2) := by decide +kernel
theorem dX7_copy_255 : decode cX7_copy 255 = .ok (.if_icmp .ge 40, 3) := by decide +kernel
theorem dX7_copy_258 : decode cX7_copy 258 = .ok (.aload_n 0, 1) := by decide +kernel
theorem dX7_copy_259 : decode cX7_copy 259 = .ok (.getfield 16, 3) := by decide +kernel
theorem dX7_copy_262 : decode cX7_copy 262 = .ok (.sipush 160, 3) := by decide +kernel
theorem dX7_copy_265 : decode cX7_copy 265 = .ok (.iload_n 2, 1) := by decide +kernel
theorem dX7_copy_266 : decode cX7_copy 266 = .ok (.imul, 1) := by decide +kernel
theorem dX7_copy_267 : decode cX7_copy 267 = .ok (.iload 4, 2) := by decide +kernel
theorem dX7_copy_269 : decode cX7_copy 269 = .ok (.iadd, 1) := by decide +kernel
theorem dX7_copy_270 : decode cX7_copy 270 = .ok (.iload 6, 2) := by decide +kernel
theorem dX7_copy_272 : decode cX7_copy 272 = .ok (.iadd, 1) := by decide +kernel
theorem dX7_copy_273 : decode cX7_copy 273 = .ok (.aload_n 0, 1) := by decide +kernel
theorem dX7_copy_274 : decode cX7_copy 274 = .ok (.getfield 16, 3) := by decide +kernel
theorem dX7_copy_277 : decode cX7_copy 277 = .ok (.sipush 160, 3) := by decide +kernel
theorem dX7_copy_280 : decode cX7_copy 280 = .ok (.iload_n 1, 1) := by decide +kernel
theorem dX7_copy_281 : decode cX7_copy 281 = .ok (.imul, 1) := by decide +kernel
theorem dX7_copy_282 : decode cX7_copy 282 = .ok (.iload_n 3, 1) := by decide +kernel
theorem dX7_copy_283 : decode cX7_copy 283 = .ok (.iadd, 1) := by decide +kernel
theorem dX7_copy_284 : decode cX7_copy 284 = .ok (.iload 6, 2) := by decide +kernel
theorem dX7_copy_286 : decode cX7_copy 286 = .ok (.iadd, 1) := by decide +kernel
theorem dX7_copy_287 : decode cX7_copy 287 = .ok (.laload, 1) := by decide +kernel
theorem dX7_copy_288 : decode cX7_copy 288 = .ok (.lastore, 1) := by decide +kernel
theorem dX7_copy_289 : decode cX7_copy 289 = .ok (.iinc 6 1, 3) := by decide +kernel
theorem dX7_copy_292 : decode cX7_copy 292 = .ok (.goto (-41), 3) := by decide +kernel
theorem dX7_copy_295 : decode cX7_copy 295 = .ok (.iconst 1, 1) := by decide +kernel
theorem dX7_copy_296 : decode cX7_copy 296 = .ok (.ireturn, 1) := by decide +kernel
theorem dX7_element_0 : decode cX7_element 0 = .ok (.iload_n 1, 1) := by decide +kernel
theorem dX7_element_1 : decode cX7_element 1 = .ok (.iconst 0, 1) := by decide +kernel
theorem dX7_element_2 : decode cX7_element 2 = .ok (.bipush 7, 2) := by decide +kernel
theorem dX7_element_4 : decode cX7_element 4 = .ok (.invokestatic 87, 3) := by decide +kernel
theorem dX7_element_7 : decode cX7_element 7 = .ok (.ifCond .eq 42, 3) := by decide +kernel
theorem dX7_element_10 : decode cX7_element 10 = .ok (.aload_n 0, 1) := by decide +kernel
theorem dX7_element_11 : decode cX7_element 11 = .ok (.iload_n 1, 1) := by decide +kernel
theorem dX7_element_12 : decode cX7_element 12 = .ok (.invokevirtual 98, 3) := by decide +kernel
theorem dX7_element_15 : decode cX7_element 15 = .ok (.ifCond .eq 34, 3) := by decide +kernel
theorem dX7_element_18 : decode cX7_element 18 = .ok (.iload_n 2, 1) := by decide +kernel
theorem dX7_element_19 : decode cX7_element 19 = .ok (.iconst 0, 1) := by decide +kernel
theorem dX7_element_20 : decode cX7_element 20 = .ok (.aload_n 0, 1) := by decide +kernel
theorem dX7_element_21 : decode cX7_element 21 = .ok (.getfield 13, 3) := by decide +kernel
theorem dX7_element_24 : decode cX7_element 24 = .ok (.iload_n 1, 1) := by decide +kernel
theorem dX7_element_25 : decode cX7_element 25 = .ok (.iaload, 1) := by decide +kernel
theorem dX7_element_26 : decode cX7_element 26 = .ok (.iconst 1, 1) := by decide +kernel
theorem dX7_element_27 : decode cX7_element 27 = .ok (.isub, 1) := by decide +kernel
theorem dX7_element_28 : decode cX7_element 28 = .ok (.invokestatic 87, 3) := by decide +kernel
theorem dX7_element_31 : decode cX7_element 31 = .ok (.ifCond .eq 18, 3) := by decide +kernel
theorem dX7_element_34 : decode cX7_element 34 = .ok (.aload_n 0, 1) := by decide +kernel
theorem dX7_element_35 : decode cX7_element 35 = .ok (.getfield 16, 3) := by decide +kernel
theorem dX7_element_38 : decode cX7_element 38 = .ok (.sipush 160, 3) := by decide +kernel
theorem dX7_element_41 : decode cX7_element 41 = .ok (.iload_n 1, 1) := by decide +kernel
theorem dX7_element_42 : decode cX7_element 42 = .ok (.imul, 1) := by decide +kernel
theorem dX7_element_43 : decode cX7_element 43 = .ok (.iload_n 2, 1) := by decide +kernel
theorem dX7_element_44 : decode cX7_element 44 = .ok (.iadd, 1) := by decide +kernel
theorem dX7_element_45 : decode cX7_element 45 = .ok (.laload, 1) := by decide +kernel
theorem dX7_element_46 : decode cX7_element 46 = .ok (.goto 4, 3) := by decide +kernel
theorem dX7_element_49 : decode cX7_element 49 = .ok (.lconst 0, 1) := by decide +kernel
theorem dX7_element_50 : decode cX7_element 50 = .ok (.lreturn, 1) := by decide +kernel
theorem dX7_show_0 : decode cX7_show 0 = .ok (.iload_n 1, 1) := by decide +kernel
theorem dX7_show_1 : decode cX7_show 1 = .ok (.iconst 0, 1) := by decide +kernel
theorem dX7_show_2 : decode cX7_show 2 = .ok (.bipush 7, 2) := by decide +kernel
theorem dX7_show_4 : decode cX7_show 4 = .ok (.invokestatic 87, 3) := by decide +kernel
theorem dX7_show_7 : decode cX7_show 7 = .ok (.ifCond .eq 16, 3) := by decide +kernel
theorem dX7_show_10 : decode cX7_show 10 = .ok (.iload_n 2, 1) := by decide +kernel
theorem dX7_show_11 : decode cX7_show 11 = .ok (.iconst (-1), 1) := by decide +kernel
theorem dX7_show_12 : decode cX7_show 12 = .ok (.if_icmp .eq 17, 3) := by decide +kernel
theorem dX7_show_15 : decode cX7_show 15 = .ok (.aload_n 0, 1) := by decide +kernel
theorem dX7_show_16 : decode cX7_show 16 = .ok (.iload_n 2, 1) := by decide +kernel
theorem dX7_show_17 : decode cX7_show 17 = .ok (.invokevirtual 105, 3) := by decide +kernel
theorem dX7_show_20 : decode cX7_show 20 = .ok (.ifCond .ne 9, 3) := by decide +kernel
theorem dX7_show_23 : decode cX7_show 23 = .ok (.aload_n 0, 1) := by decide +kernel
theorem dX7_show_24 : decode cX7_show 24 = .ok (.iconst (-1), 1) := by decide +kernel
theorem dX7_show_25 : decode cX7_show 25 = .ok (.invokevirtual 94, 3) := by decide +kernel
theorem dX7_show_28 : decode cX7_show 28 = .ok (.ireturn, 1) := by decide +kernel
theorem dX7_show_29 : decode cX7_show 29 = .ok (.aload_n 0, 1) := by decide +kernel
theorem dX7_show_30 : decode cX7_show 30 = .ok (.getfield 7, 3) := by decide +kernel
theorem dX7_show_33 : decode cX7_show 33 = .ok (.iload_n 1, 1) := by decide +kernel
theorem dX7_show_34 : decode cX7_show 34 = .ok (.iload_n 2, 1) := by decide +kernel
theorem dX7_show_35 : decode cX7_show 35 = .ok (.iastore, 1) := by decide +kernel
theorem dX7_show_36 : decode cX7_show 36 = .ok (.iload_n 2, 1) := by decide +kernel
theorem dX7_show_37 : decode cX7_show 37 = .ok (.iconst (-1), 1) := by decide +kernel
theorem dX7_show_38 : decode cX7_show 38 = .ok (.if_icmp .ne 7, 3) := by decide +kernel
theorem dX7_show_41 : decode cX7_show 41 = .ok (.iconst 0, 1) := by decide +kernel
theorem dX7_show_42 : decode cX7_show 42 = .ok (.goto 4, 3) := by decide +kernel
theorem dX7_show_45 : decode cX7_show 45 = .ok (.iconst 1, 1) := by decide +kernel
theorem dX7_show_46 : decode cX7_show 46 = .ok (.ireturn, 1) := by decide +kernel
theorem dX7_holds_0 : decode cX7_holds 0 = .ok (.iload_n 1, 1) := by decide +kernel
theorem dX7_holds_1 : decode cX7_holds 1 = .ok (.iconst 0, 1) := by decide +kernel
theorem dX7_holds_2 : decode cX7_holds 2 = .ok (.bipush 7, 2) := by decide +kernel
theorem dX7_holds_4 : decode cX7_holds 4 = .ok (.invokestatic 87, 3) := by decide +kernel
theorem dX7_holds_7 : decode cX7_holds 7 = .ok (.ifCond .eq 12, 3) := by decide +kernel
theorem dX7_holds_10 : decode cX7_holds 10 = .ok (.aload_n 0, 1) := by decide +kernel
theorem dX7_holds_11 : decode cX7_holds 11 = .ok (.getfield 7, 3) := by decide +kernel
theorem dX7_holds_14 : decode cX7_holds 14 = .ok (.iload_n 1, 1) := by decide +kernel
theorem dX7_holds_15 : decode cX7_holds 15 = .ok (.iaload, 1) := by decide +kernel
theorem dX7_holds_16 : decode cX7_holds 16 = .ok (.goto 4, 3) := by decide +kernel
theorem dX7_holds_19 : decode cX7_holds 19 = .ok (.iconst (-1), 1) := by decide +kernel
theorem dX7_holds_20 : decode cX7_holds 20 = .ok (.ireturn, 1) := by decide +kernel
theorem dX7_above_0 : decode cX7_above 0 = .ok (.iload_n 0, 1) := by decide +kernel
theorem dX7_above_1 : decode cX7_above 1 = .ok (.iconst 3, 1) := by decide +kernel
theorem dX7_above_2 : decode cX7_above 2 = .ok (.if_icmp .ne 7, 3) := by decide +kernel
theorem dX7_above_5 : decode cX7_above 5 = .ok (.iconst 2, 1) := by decide +kernel
theorem dX7_above_6 : decode cX7_above 6 = .ok (.goto 23, 3) := by decide +kernel
theorem dX7_above_9 : decode cX7_above 9 = .ok (.iload_n 0, 1) := by decide +kernel
theorem dX7_above_10 : decode cX7_above 10 = .ok (.bipush 6, 2) := by decide +kernel
theorem dX7_above_12 : decode cX7_above 12 = .ok (.if_icmp .ne 7, 3) := by decide +kernel
theorem dX7_above_15 : decode cX7_above 15 = .ok (.iconst 3, 1) := by decide +kernel
theorem dX7_above_16 : decode cX7_above 16 = .ok (.goto 13, 3) := by decide +kernel
theorem dX7_above_19 : decode cX7_above 19 = .ok (.iload_n 0, 1) := by decide +kernel
theorem dX7_above_20 : decode cX7_above 20 = .ok (.iconst 5, 1) := by decide +kernel
theorem dX7_above_21 : decode cX7_above 21 = .ok (.if_icmp .ne 7, 3) := by decide +kernel
theorem dX7_above_24 : decode cX7_above 24 = .ok (.iconst 1, 1) := by decide +kernel
theorem dX7_above_25 : decode cX7_above 25 = .ok (.goto 4, 3) := by decide +kernel
theorem dX7_above_28 : decode cX7_above 28 = .ok (.iconst 0, 1) := by decide +kernel
theorem dX7_above_29 : decode cX7_above 29 = .ok (.ireturn, 1) := by decide +kernel
theorem dX7_isUnder_0 : decode cX7_isUnder 0 = .ok (.iload_n 0, 1) := by decide +kernel
theorem dX7_isUnder_1 : decode cX7_isUnder 1 = .ok (.istore_n 2, 1) := by decide +kernel
theorem dX7_isUnder_2 : decode cX7_isUnder 2 = .ok (.iload_n 2, 1) := by decide +kernel
theorem dX7_isUnder_3 : decode cX7_isUnder 3 = .ok (.iload_n 1, 1) := by decide +kernel
theorem dX7_isUnder_4 : decode cX7_isUnder 4 = .ok (.if_icmp .eq 15, 3) := by decide +kernel
theorem dX7_isUnder_7 : decode cX7_isUnder 7 = .ok (.iload_n 2, 1) := by decide +kernel
theorem dX7_isUnder_8 : decode cX7_isUnder 8 = .ok (.ifCond .le 11, 3) := by decide +kernel
theorem dX7_isUnder_11 : decode cX7_isUnder 11 = .ok (.iload_n 2, 1) := by decide +kernel
theorem dX7_isUnder_12 : decode cX7_isUnder 12 = .ok (.invokestatic 108, 3) := by decide +kernel
theorem dX7_isUnder_15 : decode cX7_isUnder 15 = .ok (.istore_n 2, 1) := by decide +kernel
theorem dX7_isUnder_16 : decode cX7_isUnder 16 = .ok (.goto (-14), 3) := by decide +kernel
theorem dX7_isUnder_19 : decode cX7_isUnder 19 = .ok (.iload_n 2, 1) := by decide +kernel
theorem dX7_isUnder_20 : decode cX7_isUnder 20 = .ok (.iload_n 1, 1) := by decide +kernel
theorem dX7_isUnder_21 : decode cX7_isUnder 21 = .ok (.if_icmp .ne 7, 3) := by decide +kernel
theorem dX7_isUnder_24 : decode cX7_isUnder 24 = .ok (.iconst 1, 1) := by decide +kernel
theorem dX7_isUnder_25 : decode cX7_isUnder 25 = .ok (.goto 4, 3) := by decide +kernel
theorem dX7_isUnder_28 : decode cX7_isUnder 28 = .ok (.iconst 0, 1) := by decide +kernel
theorem dX7_isUnder_29 : decode cX7_isUnder 29 = .ok (.ireturn, 1) := by decide +kernel
theorem dX7_says_0 : decode cX7_says 0 = .ok (.iload_n 1, 1) := by decide +kernel
theorem dX7_says_1 : decode cX7_says 1 = .ok (.iconst 0, 1) := by decide +kernel
theorem dX7_says_2 : decode cX7_says 2 = .ok (.bipush 7, 2) := by decide +kernel
theorem dX7_says_4 : decode cX7_says 4 = .ok (.invokestatic 87, 3) := by decide +kernel
theorem dX7_says_7 : decode cX7_says 7 = .ok (.ifCond .eq 13, 3) := by decide +kernel
theorem dX7_says_10 : decode cX7_says 10 = .ok (.iload_n 2, 1) := by decide +kernel
theorem dX7_says_11 : decode cX7_says 11 = .ok (.iconst 0, 1) := by decide +kernel
theorem dX7_says_12 : decode cX7_says 12 = .ok (.bipush 6, 2) := by decide +kernel
theorem dX7_says_14 : decode cX7_says 14 = .ok (.invokestatic 87, 3) := by decide +kernel
theorem dX7_says_17 : decode cX7_says 17 = .ok (.ifCond .ne 9, 3) := by decide +kernel
theorem dX7_says_20 : decode cX7_says 20 = .ok (.aload_n 0, 1) := by decide +kernel
theorem dX7_says_21 : decode cX7_says 21 = .ok (.iconst (-1), 1) := by decide +kernel
theorem dX7_says_22 : decode cX7_says 22 = .ok (.invokevirtual 94, 3) := by decide +kernel
theorem dX7_says_25 : decode cX7_says 25 = .ok (.ireturn, 1) := by decide +kernel
theorem dX7_says_26 : decode cX7_says 26 = .ok (.aload_n 0, 1) := by decide +kernel
theorem dX7_says_27 : decode cX7_says 27 = .ok (.getfield 7, 3) := by decide +kernel
theorem dX7_says_30 : decode cX7_says 30 = .ok (.iload_n 1, 1) := by decide +kernel
theorem dX7_says_31 : decode cX7_says 31 = .ok (.iaload, 1) := by decide +kernel
theorem dX7_says_32 : decode cX7_says 32 = .ok (.istore_n 3, 1) := by decide +kernel
theorem dX7_says_33 : decode cX7_says 33 = .ok (.iload_n 3, 1) := by decide +kernel
theorem dX7_says_34 : decode cX7_says 34 = .ok (.ifCond .lt 31, 3) := by decide +kernel
theorem dX7_says_37 : decode cX7_says 37 = .ok (.aload_n 0, 1) := by decide +kernel
theorem dX7_says_38 : decode cX7_says 38 = .ok (.iload_n 1, 1) := by decide +kernel
theorem dX7_says_39 : decode cX7_says 39 = .ok (.invokevirtual 98, 3) := by decide +kernel
theorem dX7_says_42 : decode cX7_says 42 = .ok (.ifCond .ne 16, 3) := by decide +kernel
theorem dX7_says_45 : decode cX7_says 45 = .ok (.aload_n 0, 1) := by decide +kernel
theorem dX7_says_46 : decode cX7_says 46 = .ok (.getfield 23, 3) := by decide +kernel
theorem dX7_says_49 : decode cX7_says 49 = .ok (.iload_n 3, 1) := by decide +kernel
theorem dX7_says_50 : decode cX7_says 50 = .ok (.iaload, 1) := by decide +kernel
theorem dX7_says_51 : decode cX7_says 51 = .ok (.iload_n 2, 1) := by decide +kernel
theorem dX7_says_52 : decode cX7_says 52 = .ok (.invokestatic 111, 3) := by decide +kernel
theorem dX7_says_55 : decode cX7_says 55 = .ok (.ifCond .ne 10, 3) := by decide +kernel
theorem dX7_says_58 : decode cX7_says 58 = .ok (.aload_n 0, 1) := by decide +kernel
theorem dX7_says_59 : decode cX7_says 59 = .ok (.bipush (-2), 2) := by decide +kernel
theorem dX7_says_61 : decode cX7_says 61 = .ok (.invokevirtual 94, 3) := by decide +kernel
theorem dX7_says_64 : decode cX7_says 64 = .ok (.ireturn, 1) := by decide +kernel
theorem dX7_says_65 : decode cX7_says 65 = .ok (.iload_n 3, 1) := by decide +kernel
theorem dX7_says_66 : decode cX7_says 66 = .ok (.ifCond .ge 10, 3) := by decide +kernel
theorem dX7_says_69 : decode cX7_says 69 = .ok (.aload_n 0, 1) := by decide +kernel
theorem dX7_says_70 : decode cX7_says 70 = .ok (.bipush (-3), 2) := by decide +kernel
theorem dX7_says_72 : decode cX7_says 72 = .ok (.invokevirtual 94, 3) := by decide +kernel
theorem dX7_says_75 : decode cX7_says 75 = .ok (.ireturn, 1) := by decide +kernel
theorem dX7_says_76 : decode cX7_says 76 = .ok (.iload_n 2, 1) := by decide +kernel
theorem dX7_says_77 : decode cX7_says 77 = .ok (.tableswitch 85 0 5 #[39, 45, 52, 85, 68, 76], 39) := by decide +kernel
theorem dX7_says_116 : decode cX7_says 116 = .ok (.aload_n 0, 1) := by decide +kernel
theorem dX7_says_117 : decode cX7_says 117 = .ok (.iload_n 3, 1) := by decide +kernel
theorem dX7_says_118 : decode cX7_says 118 = .ok (.invokevirtual 115, 3) := by decide +kernel
theorem dX7_says_121 : decode cX7_says 121 = .ok (.ireturn, 1) := by decide +kernel
theorem dX7_says_122 : decode cX7_says 122 = .ok (.aload_n 0, 1) := by decide +kernel
theorem dX7_says_123 : decode cX7_says 123 = .ok (.getfield 29, 3) := by decide +kernel
theorem dX7_says_126 : decode cX7_says 126 = .ok (.iload_n 3, 1) := by decide +kernel
theorem dX7_says_127 : decode cX7_says 127 = .ok (.iaload, 1) := by decide +kernel
theorem dX7_says_128 : decode cX7_says 128 = .ok (.ireturn, 1) := by decide +kernel
theorem dX7_says_129 : decode cX7_says 129 = .ok (.iconst 0, 1) := by decide +kernel
theorem dX7_says_130 : decode cX7_says 130 = .ok (.aload_n 0, 1) := by decide +kernel
theorem dX7_says_131 : decode cX7_says 131 = .ok (.getfield 65, 3) := by decide +kernel
theorem dX7_says_134 : decode cX7_says 134 = .ok (.aload_n 0, 1) := by decide +kernel
theorem dX7_says_135 : decode cX7_says 135 = .ok (.getfield 29, 3) := by decide +kernel
theorem dX7_says_138 : decode cX7_says 138 = .ok (.iload_n 3, 1) := by decide +kernel
theorem dX7_says_139 : decode cX7_says 139 = .ok (.iaload, 1) := by decide +kernel
theorem dX7_says_140 : decode cX7_says 140 = .ok (.isub, 1) := by decide +kernel
theorem dX7_says_141 : decode cX7_says 141 = .ok (.invokestatic 118, 3) := by decide +kernel
theorem dX7_says_144 : decode cX7_says 144 = .ok (.ireturn, 1) := by decide +kernel
theorem dX7_says_145 : decode cX7_says 145 = .ok (.aload_n 0, 1) := by decide +kernel
theorem dX7_says_146 : decode cX7_says 146 = .ok (.iload_n 3, 1) := by decide +kernel
theorem dX7_says_147 : decode cX7_says 147 = .ok (.bipush 23, 2) := by decide +kernel
theorem dX7_says_149 : decode cX7_says 149 = .ok (.invokevirtual 124, 3) := by decide +kernel
theorem dX7_says_152 : decode cX7_says 152 = .ok (.ireturn, 1) := by decide +kernel
theorem dX7_says_153 : decode cX7_says 153 = .ok (.aload_n 0, 1) := by decide +kernel
theorem dX7_says_154 : decode cX7_says 154 = .ok (.getfield 29, 3) := by decide +kernel
theorem dX7_says_157 : decode cX7_says 157 = .ok (.iload_n 3, 1) := by decide +kernel
theorem dX7_says_158 : decode cX7_says 158 = .ok (.iaload, 1) := by decide +kernel
theorem dX7_says_159 : decode cX7_says 159 = .ok (.iconst 4, 1) := by decide +kernel
theorem dX7_says_160 : decode cX7_says 160 = .ok (.irem, 1) := by decide +kernel
theorem dX7_says_161 : decode cX7_says 161 = .ok (.ireturn, 1) := by decide +kernel
theorem dX7_says_162 : decode cX7_says 162 = .ok (.aload_n 0, 1) := by decide +kernel
theorem dX7_says_163 : decode cX7_says 163 = .ok (.getfield 26, 3) := by decide +kernel
theorem dX7_says_166 : decode cX7_says 166 = .ok (.iload_n 3, 1) := by decide +kernel
theorem dX7_says_167 : decode cX7_says 167 = .ok (.iaload, 1) := by decide +kernel
theorem dX7_says_168 : decode cX7_says 168 = .ok (.ireturn, 1) := by decide +kernel
theorem dX7_form_0 : decode cX7_form 0 = .ok (.iload_n 1, 1) := by decide +kernel
theorem dX7_form_1 : decode cX7_form 1 = .ok (.iconst 0, 1) := by decide +kernel
theorem dX7_form_2 : decode cX7_form 2 = .ok (.ldc 127, 2) := by decide +kernel
theorem dX7_form_4 : decode cX7_form 4 = .ok (.invokestatic 87, 3) := by decide +kernel
theorem dX7_form_7 : decode cX7_form 7 = .ok (.ifCond .ne 10, 3) := by decide +kernel
theorem dX7_form_10 : decode cX7_form 10 = .ok (.aload_n 0, 1) := by decide +kernel
theorem dX7_form_11 : decode cX7_form 11 = .ok (.bipush (-6), 2) := by decide +kernel
theorem dX7_form_13 : decode cX7_form 13 = .ok (.invokevirtual 94, 3) := by decide +kernel
theorem dX7_form_16 : decode cX7_form 16 = .ok (.ireturn, 1) := by decide +kernel
theorem dX7_form_17 : decode cX7_form 17 = .ok (.aload_n 0, 1) := by decide +kernel
theorem dX7_form_18 : decode cX7_form 18 = .ok (.getfield 91, 3) := by decide +kernel
theorem dX7_form_21 : decode cX7_form 21 = .ok (.bipush 8, 2) := by decide +kernel
theorem dX7_form_23 : decode cX7_form 23 = .ok (.if_icmp .ne 10, 3) := by decide +kernel
theorem dX7_form_26 : decode cX7_form 26 = .ok (.aload_n 0, 1) := by decide +kernel
theorem dX7_form_27 : decode cX7_form 27 = .ok (.bipush (-7), 2) := by decide +kernel
theorem dX7_form_29 : decode cX7_form 29 = .ok (.invokevirtual 94, 3) := by decide +kernel
theorem dX7_form_32 : decode cX7_form 32 = .ok (.ireturn, 1) := by decide +kernel
theorem dX7_form_33 : decode cX7_form 33 = .ok (.aload_n 0, 1) := by decide +kernel
theorem dX7_form_34 : decode cX7_form 34 = .ok (.getfield 20, 3) := by decide +kernel
theorem dX7_form_37 : decode cX7_form 37 = .ok (.aload_n 0, 1) := by decide +kernel
theorem dX7_form_38 : decode cX7_form 38 = .ok (.getfield 91, 3) := by decide +kernel
theorem dX7_form_41 : decode cX7_form 41 = .ok (.iload_n 1, 1) := by decide +kernel
theorem dX7_form_42 : decode cX7_form 42 = .ok (.iastore, 1) := by decide +kernel
theorem dX7_form_43 : decode cX7_form 43 = .ok (.aload_n 0, 1) := by decide +kernel
theorem dX7_form_44 : decode cX7_form 44 = .ok (.dup, 1) := by decide +kernel
theorem dX7_form_45 : decode cX7_form 45 = .ok (.getfield 91, 3) := by decide +kernel
theorem dX7_form_48 : decode cX7_form 48 = .ok (.dup_x1, 1) := by decide +kernel
theorem dX7_form_49 : decode cX7_form 49 = .ok (.iconst 1, 1) := by decide +kernel
theorem dX7_form_50 : decode cX7_form 50 = .ok (.iadd, 1) := by decide +kernel
theorem dX7_form_51 : decode cX7_form 51 = .ok (.putfield 91, 3) := by decide +kernel
theorem dX7_form_54 : decode cX7_form 54 = .ok (.ireturn, 1) := by decide +kernel
theorem dX7_formOf_0 : decode cX7_formOf 0 = .ok (.aload_n 0, 1) := by decide +kernel
theorem dX7_formOf_1 : decode cX7_formOf 1 = .ok (.iload_n 1, 1) := by decide +kernel
theorem dX7_formOf_2 : decode cX7_formOf 2 = .ok (.invokevirtual 128, 3) := by decide +kernel
theorem dX7_formOf_5 : decode cX7_formOf 5 = .ok (.ifCond .eq 12, 3) := by decide +kernel
theorem dX7_formOf_8 : decode cX7_formOf 8 = .ok (.aload_n 0, 1) := by decide +kernel
theorem dX7_formOf_9 : decode cX7_formOf 9 = .ok (.getfield 20, 3) := by decide +kernel
theorem dX7_formOf_12 : decode cX7_formOf 12 = .ok (.iload_n 1, 1) := by decide +kernel
theorem dX7_formOf_13 : decode cX7_formOf 13 = .ok (.iaload, 1) := by decide +kernel
theorem dX7_formOf_14 : decode cX7_formOf 14 = .ok (.goto 8, 3) := by decide +kernel
theorem dX7_formOf_17 : decode cX7_formOf 17 = .ok (.aload_n 0, 1) := by decide +kernel
theorem dX7_formOf_18 : decode cX7_formOf 18 = .ok (.iconst (-1), 1) := by decide +kernel
theorem dX7_formOf_19 : decode cX7_formOf 19 = .ok (.invokevirtual 94, 3) := by decide +kernel
theorem dX7_formOf_22 : decode cX7_formOf 22 = .ok (.ireturn, 1) := by decide +kernel
theorem dX7_pane_0 : decode cX7_pane 0 = .ok (.iload_n 1, 1) := by decide +kernel
theorem dX7_pane_1 : decode cX7_pane 1 = .ok (.iconst 0, 1) := by decide +kernel
theorem dX7_pane_2 : decode cX7_pane 2 = .ok (.bipush 6, 2) := by decide +kernel
theorem dX7_pane_4 : decode cX7_pane 4 = .ok (.invokestatic 87, 3) := by decide +kernel
theorem dX7_pane_7 : decode cX7_pane 7 = .ok (.ifCond .ne 9, 3) := by decide +kernel
theorem dX7_pane_10 : decode cX7_pane 10 = .ok (.aload_n 0, 1) := by decide +kernel
theorem dX7_pane_11 : decode cX7_pane 11 = .ok (.iconst (-1), 1) := by decide +kernel
theorem dX7_pane_12 : decode cX7_pane 12 = .ok (.invokevirtual 94, 3) := by decide +kernel
theorem dX7_pane_15 : decode cX7_pane 15 = .ok (.ireturn, 1) := by decide +kernel
theorem dX7_pane_16 : decode cX7_pane 16 = .ok (.iload_n 2, 1) := by decide +kernel
theorem dX7_pane_17 : decode cX7_pane 17 = .ok (.iconst 0, 1) := by decide +kernel
theorem dX7_pane_18 : decode cX7_pane 18 = .ok (.bipush 9, 2) := by decide +kernel
theorem dX7_pane_20 : decode cX7_pane 20 = .ok (.invokestatic 87, 3) := by decide +kernel
theorem dX7_pane_23 : decode cX7_pane 23 = .ok (.ifCond .eq 13, 3) := by decide +kernel
theorem dX7_pane_26 : decode cX7_pane 26 = .ok (.iload_n 3, 1) := by decide +kernel
theorem dX7_pane_27 : decode cX7_pane 27 = .ok (.iconst 0, 1) := by decide +kernel
theorem dX7_pane_28 : decode cX7_pane 28 = .ok (.bipush 9, 2) := by decide +kernel
theorem dX7_pane_30 : decode cX7_pane 30 = .ok (.invokestatic 87, 3) := by decide +kernel
theorem dX7_pane_33 : decode cX7_pane 33 = .ok (.ifCond .ne 10, 3) := by decide +kernel
theorem dX7_pane_36 : decode cX7_pane 36 = .ok (.aload_n 0, 1) := by decide +kernel
theorem dX7_pane_37 : decode cX7_pane 37 = .ok (.bipush (-6), 2) := by decide +kernel
theorem dX7_pane_39 : decode cX7_pane 39 = .ok (.invokevirtual 94, 3) := by decide +kernel
theorem dX7_pane_42 : decode cX7_pane 42 = .ok (.ireturn, 1) := by decide +kernel
theorem dX7_pane_43 : decode cX7_pane 43 = .ok (.aload_n 0, 1) := by decide +kernel
theorem dX7_pane_44 : decode cX7_pane 44 = .ok (.getfield 84, 3) := by decide +kernel
theorem dX7_pane_47 : decode cX7_pane 47 = .ok (.bipush 8, 2) := by decide +kernel
theorem dX7_pane_49 : decode cX7_pane 49 = .ok (.if_icmp .ne 10, 3) := by decide +kernel
theorem dX7_pane_52 : decode cX7_pane 52 = .ok (.aload_n 0, 1) := by decide +kernel
theorem dX7_pane_53 : decode cX7_pane 53 = .ok (.bipush (-7), 2) := by decide +kernel
theorem dX7_pane_55 : decode cX7_pane 55 = .ok (.invokevirtual 94, 3) := by decide +kernel
theorem dX7_pane_58 : decode cX7_pane 58 = .ok (.ireturn, 1) := by decide +kernel
theorem dX7_pane_59 : decode cX7_pane 59 = .ok (.aload_n 0, 1) := by decide +kernel
theorem dX7_pane_60 : decode cX7_pane 60 = .ok (.getfield 23, 3) := by decide +kernel
theorem dX7_pane_63 : decode cX7_pane 63 = .ok (.aload_n 0, 1) := by decide +kernel
theorem dX7_pane_64 : decode cX7_pane 64 = .ok (.getfield 84, 3) := by decide +kernel
theorem dX7_pane_67 : decode cX7_pane 67 = .ok (.iload_n 1, 1) := by decide +kernel
theorem dX7_pane_68 : decode cX7_pane 68 = .ok (.iastore, 1) := by decide +kernel
theorem dX7_pane_69 : decode cX7_pane 69 = .ok (.aload_n 0, 1) := by decide +kernel
theorem dX7_pane_70 : decode cX7_pane 70 = .ok (.getfield 26, 3) := by decide +kernel
theorem dX7_pane_73 : decode cX7_pane 73 = .ok (.aload_n 0, 1) := by decide +kernel
theorem dX7_pane_74 : decode cX7_pane 74 = .ok (.getfield 84, 3) := by decide +kernel
theorem dX7_pane_77 : decode cX7_pane 77 = .ok (.iload_n 2, 1) := by decide +kernel
theorem dX7_pane_78 : decode cX7_pane 78 = .ok (.iastore, 1) := by decide +kernel
theorem dX7_pane_79 : decode cX7_pane 79 = .ok (.aload_n 0, 1) := by decide +kernel
theorem dX7_pane_80 : decode cX7_pane 80 = .ok (.getfield 29, 3) := by decide +kernel
theorem dX7_pane_83 : decode cX7_pane 83 = .ok (.aload_n 0, 1) := by decide +kernel
theorem dX7_pane_84 : decode cX7_pane 84 = .ok (.getfield 84, 3) := by decide +kernel
theorem dX7_pane_87 : decode cX7_pane 87 = .ok (.iload_n 3, 1) := by decide +kernel
theorem dX7_pane_88 : decode cX7_pane 88 = .ok (.iastore, 1) := by decide +kernel
theorem dX7_pane_89 : decode cX7_pane 89 = .ok (.aload_n 0, 1) := by decide +kernel
theorem dX7_pane_90 : decode cX7_pane 90 = .ok (.getfield 32, 3) := by decide +kernel
theorem dX7_pane_93 : decode cX7_pane 93 = .ok (.aload_n 0, 1) := by decide +kernel
theorem dX7_pane_94 : decode cX7_pane 94 = .ok (.getfield 84, 3) := by decide +kernel
theorem dX7_pane_97 : decode cX7_pane 97 = .ok (.iconst (-1), 1) := by decide +kernel
theorem dX7_pane_98 : decode cX7_pane 98 = .ok (.iastore, 1) := by decide +kernel
theorem dX7_pane_99 : decode cX7_pane 99 = .ok (.aload_n 0, 1) := by decide +kernel
theorem dX7_pane_100 : decode cX7_pane 100 = .ok (.getfield 35, 3) := by decide +kernel
theorem dX7_pane_103 : decode cX7_pane 103 = .ok (.aload_n 0, 1) := by decide +kernel
theorem dX7_pane_104 : decode cX7_pane 104 = .ok (.getfield 84, 3) := by decide +kernel
theorem dX7_pane_107 : decode cX7_pane 107 = .ok (.iconst 0, 1) := by decide +kernel
theorem dX7_pane_108 : decode cX7_pane 108 = .ok (.iastore, 1) := by decide +kernel
theorem dX7_pane_109 : decode cX7_pane 109 = .ok (.iconst 0, 1) := by decide +kernel
theorem dX7_pane_110 : decode cX7_pane 110 = .ok (.istore 4, 2) := by decide +kernel
theorem dX7_pane_112 : decode cX7_pane 112 = .ok (.iload 4, 2) := by decide +kernel
theorem dX7_pane_114 : decode cX7_pane 114 = .ok (.bipush 16, 2) := by decide +kernel
theorem dX7_pane_116 : decode cX7_pane 116 = .ok (.if_icmp .ge 25, 3) := by decide +kernel
theorem dX7_pane_119 : decode cX7_pane 119 = .ok (.aload_n 0, 1) := by decide +kernel
theorem dX7_pane_120 : decode cX7_pane 120 = .ok (.getfield 38, 3) := by decide +kernel
theorem dX7_pane_123 : decode cX7_pane 123 = .ok (.bipush 16, 2) := by decide +kernel
theorem dX7_pane_125 : decode cX7_pane 125 = .ok (.aload_n 0, 1) := by decide +kernel
theorem dX7_pane_126 : decode cX7_pane 126 = .ok (.getfield 84, 3) := by decide +kernel
theorem dX7_pane_129 : decode cX7_pane 129 = .ok (.imul, 1) := by decide +kernel
theorem dX7_pane_130 : decode cX7_pane 130 = .ok (.iload 4, 2) := by decide +kernel
theorem dX7_pane_132 : decode cX7_pane 132 = .ok (.iadd, 1) := by decide +kernel
theorem dX7_pane_133 : decode cX7_pane 133 = .ok (.iconst 0, 1) := by decide +kernel
theorem dX7_pane_134 : decode cX7_pane 134 = .ok (.iastore, 1) := by decide +kernel
theorem dX7_pane_135 : decode cX7_pane 135 = .ok (.iinc 4 1, 3) := by decide +kernel
theorem dX7_pane_138 : decode cX7_pane 138 = .ok (.goto (-26), 3) := by decide +kernel
theorem dX7_pane_141 : decode cX7_pane 141 = .ok (.aload_n 0, 1) := by decide +kernel
theorem dX7_pane_142 : decode cX7_pane 142 = .ok (.dup, 1) := by decide +kernel
theorem dX7_pane_143 : decode cX7_pane 143 = .ok (.getfield 84, 3) := by decide +kernel
theorem dX7_pane_146 : decode cX7_pane 146 = .ok (.dup_x1, 1) := by decide +kernel
theorem dX7_pane_147 : decode cX7_pane 147 = .ok (.iconst 1, 1) := by decide +kernel
theorem dX7_pane_148 : decode cX7_pane 148 = .ok (.iadd, 1) := by decide +kernel
theorem dX7_pane_149 : decode cX7_pane 149 = .ok (.putfield 84, 3) := by decide +kernel
theorem dX7_pane_152 : decode cX7_pane 152 = .ok (.ireturn, 1) := by decide +kernel
theorem dX7_paneOf_0 : decode cX7_paneOf 0 = .ok (.aload_n 0, 1) := by decide +kernel
theorem dX7_paneOf_1 : decode cX7_paneOf 1 = .ok (.iload_n 1, 1) := by decide +kernel
theorem dX7_paneOf_2 : decode cX7_paneOf 2 = .ok (.invokevirtual 105, 3) := by decide +kernel
theorem dX7_paneOf_5 : decode cX7_paneOf 5 = .ok (.ifCond .eq 12, 3) := by decide +kernel
theorem dX7_paneOf_8 : decode cX7_paneOf 8 = .ok (.iload_n 2, 1) := by decide +kernel
theorem dX7_paneOf_9 : decode cX7_paneOf 9 = .ok (.iconst 0, 1) := by decide +kernel
theorem dX7_paneOf_10 : decode cX7_paneOf 10 = .ok (.iconst 4, 1) := by decide +kernel
theorem dX7_paneOf_11 : decode cX7_paneOf 11 = .ok (.invokestatic 87, 3) := by decide +kernel
theorem dX7_paneOf_14 : decode cX7_paneOf 14 = .ok (.ifCond .ne 10, 3) := by decide +kernel
theorem dX7_paneOf_17 : decode cX7_paneOf 17 = .ok (.aload_n 0, 1) := by decide +kernel
theorem dX7_paneOf_18 : decode cX7_paneOf 18 = .ok (.bipush (-5), 2) := by decide +kernel
theorem dX7_paneOf_20 : decode cX7_paneOf 20 = .ok (.invokevirtual 94, 3) := by decide +kernel
theorem dX7_paneOf_23 : decode cX7_paneOf 23 = .ok (.ireturn, 1) := by decide +kernel
theorem dX7_paneOf_24 : decode cX7_paneOf 24 = .ok (.iload_n 2, 1) := by decide +kernel
theorem dX7_paneOf_25 : decode cX7_paneOf 25 = .ok (.tableswitch 58 0 3 #[31, 38, 45, 52], 31) := by decide +kernel
theorem dX7_paneOf_56 : decode cX7_paneOf 56 = .ok (.aload_n 0, 1) := by decide +kernel
theorem dX7_paneOf_57 : decode cX7_paneOf 57 = .ok (.getfield 23, 3) := by decide +kernel
theorem dX7_paneOf_60 : decode cX7_paneOf 60 = .ok (.iload_n 1, 1) := by decide +kernel
theorem dX7_paneOf_61 : decode cX7_paneOf 61 = .ok (.iaload, 1) := by decide +kernel
theorem dX7_paneOf_62 : decode cX7_paneOf 62 = .ok (.ireturn, 1) := by decide +kernel
theorem dX7_paneOf_63 : decode cX7_paneOf 63 = .ok (.aload_n 0, 1) := by decide +kernel
theorem dX7_paneOf_64 : decode cX7_paneOf 64 = .ok (.getfield 26, 3) := by decide +kernel
theorem dX7_paneOf_67 : decode cX7_paneOf 67 = .ok (.iload_n 1, 1) := by decide +kernel
theorem dX7_paneOf_68 : decode cX7_paneOf 68 = .ok (.iaload, 1) := by decide +kernel
theorem dX7_paneOf_69 : decode cX7_paneOf 69 = .ok (.ireturn, 1) := by decide +kernel
theorem dX7_paneOf_70 : decode cX7_paneOf 70 = .ok (.aload_n 0, 1) := by decide +kernel
theorem dX7_paneOf_71 : decode cX7_paneOf 71 = .ok (.getfield 29, 3) := by decide +kernel
theorem dX7_paneOf_74 : decode cX7_paneOf 74 = .ok (.iload_n 1, 1) := by decide +kernel
theorem dX7_paneOf_75 : decode cX7_paneOf 75 = .ok (.iaload, 1) := by decide +kernel
theorem dX7_paneOf_76 : decode cX7_paneOf 76 = .ok (.ireturn, 1) := by decide +kernel
theorem dX7_paneOf_77 : decode cX7_paneOf 77 = .ok (.aload_n 0, 1) := by decide +kernel
theorem dX7_paneOf_78 : decode cX7_paneOf 78 = .ok (.iload_n 1, 1) := by decide +kernel
theorem dX7_paneOf_79 : decode cX7_paneOf 79 = .ok (.invokevirtual 115, 3) := by decide +kernel
theorem dX7_paneOf_82 : decode cX7_paneOf 82 = .ok (.ireturn, 1) := by decide +kernel
theorem dX7_paneOf_83 : decode cX7_paneOf 83 = .ok (.aload_n 0, 1) := by decide +kernel
theorem dX7_paneOf_84 : decode cX7_paneOf 84 = .ok (.getfield 35, 3) := by decide +kernel
theorem dX7_paneOf_87 : decode cX7_paneOf 87 = .ok (.iload_n 1, 1) := by decide +kernel
theorem dX7_paneOf_88 : decode cX7_paneOf 88 = .ok (.iaload, 1) := by decide +kernel
theorem dX7_paneOf_89 : decode cX7_paneOf 89 = .ok (.ireturn, 1) := by decide +kernel
theorem dX7_hang_0 : decode cX7_hang 0 = .ok (.aload_n 0, 1) := by decide +kernel
theorem dX7_hang_1 : decode cX7_hang 1 = .ok (.iload_n 1, 1) := by decide +kernel
theorem dX7_hang_2 : decode cX7_hang 2 = .ok (.invokevirtual 105, 3) := by decide +kernel
theorem dX7_hang_5 : decode cX7_hang 5 = .ok (.ifCond .eq 16, 3) := by decide +kernel
theorem dX7_hang_8 : decode cX7_hang 8 = .ok (.iload_n 2, 1) := by decide +kernel
theorem dX7_hang_9 : decode cX7_hang 9 = .ok (.iconst (-1), 1) := by decide +kernel
theorem dX7_hang_10 : decode cX7_hang 10 = .ok (.if_icmp .eq 17, 3) := by decide +kernel
theorem dX7_hang_13 : decode cX7_hang 13 = .ok (.aload_n 0, 1) := by decide +kernel
theorem dX7_hang_14 : decode cX7_hang 14 = .ok (.iload_n 2, 1) := by decide +kernel
theorem dX7_hang_15 : decode cX7_hang 15 = .ok (.invokevirtual 128, 3) := by decide +kernel
theorem dX7_hang_18 : decode cX7_hang 18 = .ok (.ifCond .ne 9, 3) := by decide +kernel
theorem dX7_hang_21 : decode cX7_hang 21 = .ok (.aload_n 0, 1) := by decide +kernel
theorem dX7_hang_22 : decode cX7_hang 22 = .ok (.iconst (-1), 1) := by decide +kernel
theorem dX7_hang_23 : decode cX7_hang 23 = .ok (.invokevirtual 94, 3) := by decide +kernel
theorem dX7_hang_26 : decode cX7_hang 26 = .ok (.ireturn, 1) := by decide +kernel
theorem dX7_hang_27 : decode cX7_hang 27 = .ok (.aload_n 0, 1) := by decide +kernel
theorem dX7_hang_28 : decode cX7_hang 28 = .ok (.getfield 32, 3) := by decide +kernel
theorem dX7_hang_31 : decode cX7_hang 31 = .ok (.iload_n 1, 1) := by decide +kernel
theorem dX7_hang_32 : decode cX7_hang 32 = .ok (.iload_n 2, 1) := by decide +kernel
theorem dX7_hang_33 : decode cX7_hang 33 = .ok (.iastore, 1) := by decide +kernel
theorem dX7_hang_34 : decode cX7_hang 34 = .ok (.iload_n 2, 1) := by decide +kernel
theorem dX7_hang_35 : decode cX7_hang 35 = .ok (.iconst (-1), 1) := by decide +kernel
theorem dX7_hang_36 : decode cX7_hang 36 = .ok (.if_icmp .ne 7, 3) := by decide +kernel
theorem dX7_hang_39 : decode cX7_hang 39 = .ok (.iconst 0, 1) := by decide +kernel
theorem dX7_hang_40 : decode cX7_hang 40 = .ok (.goto 4, 3) := by decide +kernel
theorem dX7_hang_43 : decode cX7_hang 43 = .ok (.iconst 1, 1) := by decide +kernel
theorem dX7_hang_44 : decode cX7_hang 44 = .ok (.ireturn, 1) := by decide +kernel
theorem dX7_hangs_0 : decode cX7_hangs 0 = .ok (.aload_n 0, 1) := by decide +kernel
theorem dX7_hangs_1 : decode cX7_hangs 1 = .ok (.iload_n 1, 1) := by decide +kernel
theorem dX7_hangs_2 : decode cX7_hangs 2 = .ok (.invokevirtual 105, 3) := by decide +kernel
theorem dX7_hangs_5 : decode cX7_hangs 5 = .ok (.ifCond .eq 12, 3) := by decide +kernel
theorem dX7_hangs_8 : decode cX7_hangs 8 = .ok (.aload_n 0, 1) := by decide +kernel
theorem dX7_hangs_9 : decode cX7_hangs 9 = .ok (.getfield 32, 3) := by decide +kernel
theorem dX7_hangs_12 : decode cX7_hangs 12 = .ok (.iload_n 1, 1) := by decide +kernel
theorem dX7_hangs_13 : decode cX7_hangs 13 = .ok (.iaload, 1) := by decide +kernel
theorem dX7_hangs_14 : decode cX7_hangs 14 = .ok (.goto 8, 3) := by decide +kernel
theorem dX7_hangs_17 : decode cX7_hangs 17 = .ok (.aload_n 0, 1) := by decide +kernel
theorem dX7_hangs_18 : decode cX7_hangs 18 = .ok (.iconst (-1), 1) := by decide +kernel
theorem dX7_hangs_19 : decode cX7_hangs 19 = .ok (.invokevirtual 131, 3) := by decide +kernel
theorem dX7_hangs_22 : decode cX7_hangs 22 = .ok (.ireturn, 1) := by decide +kernel
theorem dX7_ask_0 : decode cX7_ask 0 = .ok (.iload_n 1, 1) := by decide +kernel
theorem dX7_ask_1 : decode cX7_ask 1 = .ok (.iconst 0, 1) := by decide +kernel
theorem dX7_ask_2 : decode cX7_ask 2 = .ok (.iconst 2, 1) := by decide +kernel
theorem dX7_ask_3 : decode cX7_ask 3 = .ok (.invokestatic 87, 3) := by decide +kernel
theorem dX7_ask_6 : decode cX7_ask 6 = .ok (.ifCond .eq 22, 3) := by decide +kernel
theorem dX7_ask_9 : decode cX7_ask 9 = .ok (.iload_n 2, 1) := by decide +kernel
theorem dX7_ask_10 : decode cX7_ask 10 = .ok (.iconst 0, 1) := by decide +kernel
theorem dX7_ask_11 : decode cX7_ask 11 = .ok (.iload_n 1, 1) := by decide +kernel
theorem dX7_ask_12 : decode cX7_ask 12 = .ok (.ifCond .ne 8, 3) := by decide +kernel
theorem dX7_ask_15 : decode cX7_ask 15 = .ok (.bipush 40, 2) := by decide +kernel
theorem dX7_ask_17 : decode cX7_ask 17 = .ok (.goto 5, 3) := by decide +kernel
theorem dX7_ask_20 : decode cX7_ask 20 = .ok (.bipush 9, 2) := by decide +kernel
theorem dX7_ask_22 : decode cX7_ask 22 = .ok (.invokestatic 87, 3) := by decide +kernel
theorem dX7_ask_25 : decode cX7_ask 25 = .ok (.ifCond .ne 10, 3) := by decide +kernel
theorem dX7_ask_28 : decode cX7_ask 28 = .ok (.aload_n 0, 1) := by decide +kernel
theorem dX7_ask_29 : decode cX7_ask 29 = .ok (.bipush (-6), 2) := by decide +kernel
theorem dX7_ask_31 : decode cX7_ask 31 = .ok (.invokevirtual 94, 3) := by decide +kernel
theorem dX7_ask_34 : decode cX7_ask 34 = .ok (.ireturn, 1) := by decide +kernel
theorem dX7_ask_35 : decode cX7_ask 35 = .ok (.iload_n 1, 1) := by decide +kernel
theorem dX7_ask_36 : decode cX7_ask 36 = .ok (.ifCond .ne 10, 3) := by decide +kernel
theorem dX7_ask_39 : decode cX7_ask 39 = .ok (.aload_n 0, 1) := by decide +kernel
theorem dX7_ask_40 : decode cX7_ask 40 = .ok (.getfield 65, 3) := by decide +kernel
theorem dX7_ask_43 : decode cX7_ask 43 = .ok (.goto 19, 3) := by decide +kernel
theorem dX7_ask_46 : decode cX7_ask 46 = .ok (.iload_n 1, 1) := by decide +kernel
theorem dX7_ask_47 : decode cX7_ask 47 = .ok (.iconst 1, 1) := by decide +kernel
theorem dX7_ask_48 : decode cX7_ask 48 = .ok (.if_icmp .ne 10, 3) := by decide +kernel
theorem dX7_ask_51 : decode cX7_ask 51 = .ok (.aload_n 0, 1) := by decide +kernel
theorem dX7_ask_52 : decode cX7_ask 52 = .ok (.getfield 69, 3) := by decide +kernel
theorem dX7_ask_55 : decode cX7_ask 55 = .ok (.goto 7, 3) := by decide +kernel
theorem dX7_ask_58 : decode cX7_ask 58 = .ok (.aload_n 0, 1) := by decide +kernel
theorem dX7_ask_59 : decode cX7_ask 59 = .ok (.getfield 72, 3) := by decide +kernel
theorem dX7_ask_62 : decode cX7_ask 62 = .ok (.istore_n 3, 1) := by decide +kernel
theorem dX7_ask_63 : decode cX7_ask 63 = .ok (.iload_n 1, 1) := by decide +kernel
theorem dX7_ask_64 : decode cX7_ask 64 = .ok (.ifCond .ne 8, 3) := by decide +kernel
theorem dX7_ask_67 : decode cX7_ask 67 = .ok (.aload_n 0, 1) := by decide +kernel
theorem dX7_ask_68 : decode cX7_ask 68 = .ok (.iload_n 2, 1) := by decide +kernel
theorem dX7_ask_69 : decode cX7_ask 69 = .ok (.putfield 65, 3) := by decide +kernel
theorem dX7_ask_72 : decode cX7_ask 72 = .ok (.iload_n 1, 1) := by decide +kernel
theorem dX7_ask_73 : decode cX7_ask 73 = .ok (.iconst 1, 1) := by decide +kernel
theorem dX7_ask_74 : decode cX7_ask 74 = .ok (.if_icmp .ne 8, 3) := by decide +kernel
theorem dX7_ask_77 : decode cX7_ask 77 = .ok (.aload_n 0, 1) := by decide +kernel
theorem dX7_ask_78 : decode cX7_ask 78 = .ok (.iload_n 2, 1) := by decide +kernel
theorem dX7_ask_79 : decode cX7_ask 79 = .ok (.putfield 69, 3) := by decide +kernel
theorem dX7_ask_82 : decode cX7_ask 82 = .ok (.iload_n 1, 1) := by decide +kernel
theorem dX7_ask_83 : decode cX7_ask 83 = .ok (.iconst 2, 1) := by decide +kernel
theorem dX7_ask_84 : decode cX7_ask 84 = .ok (.if_icmp .ne 8, 3) := by decide +kernel
theorem dX7_ask_87 : decode cX7_ask 87 = .ok (.aload_n 0, 1) := by decide +kernel
theorem dX7_ask_88 : decode cX7_ask 88 = .ok (.iload_n 2, 1) := by decide +kernel
theorem dX7_ask_89 : decode cX7_ask 89 = .ok (.putfield 72, 3) := by decide +kernel
theorem dX7_ask_92 : decode cX7_ask 92 = .ok (.iload_n 3, 1) := by decide +kernel
theorem dX7_ask_93 : decode cX7_ask 93 = .ok (.ireturn, 1) := by decide +kernel
theorem dX7_room_0 : decode cX7_room 0 = .ok (.aload_n 0, 1) := by decide +kernel
theorem dX7_room_1 : decode cX7_room 1 = .ok (.iload_n 1, 1) := by decide +kernel
theorem dX7_room_2 : decode cX7_room 2 = .ok (.invokevirtual 105, 3) := by decide +kernel
theorem dX7_room_5 : decode cX7_room 5 = .ok (.ifCond .ne 9, 3) := by decide +kernel
theorem dX7_room_8 : decode cX7_room 8 = .ok (.aload_n 0, 1) := by decide +kernel
theorem dX7_room_9 : decode cX7_room 9 = .ok (.iconst (-1), 1) := by decide +kernel
theorem dX7_room_10 : decode cX7_room 10 = .ok (.invokevirtual 94, 3) := by decide +kernel
theorem dX7_room_13 : decode cX7_room 13 = .ok (.ireturn, 1) := by decide +kernel
theorem dX7_room_14 : decode cX7_room 14 = .ok (.iload_n 2, 1) := by decide +kernel
theorem dX7_room_15 : decode cX7_room 15 = .ok (.iconst 0, 1) := by decide +kernel
theorem dX7_room_16 : decode cX7_room 16 = .ok (.bipush 9, 2) := by decide +kernel
theorem dX7_room_18 : decode cX7_room 18 = .ok (.invokestatic 87, 3) := by decide +kernel
theorem dX7_room_21 : decode cX7_room 21 = .ok (.ifCond .ne 10, 3) := by decide +kernel
theorem dX7_room_24 : decode cX7_room 24 = .ok (.aload_n 0, 1) := by decide +kernel
theorem dX7_room_25 : decode cX7_room 25 = .ok (.bipush (-6), 2) := by decide +kernel
theorem dX7_room_27 : decode cX7_room 27 = .ok (.invokevirtual 94, 3) := by decide +kernel
theorem dX7_room_30 : decode cX7_room 30 = .ok (.ireturn, 1) := by decide +kernel
theorem dX7_room_31 : decode cX7_room 31 = .ok (.aload_n 0, 1) := by decide +kernel
theorem dX7_room_32 : decode cX7_room 32 = .ok (.getfield 26, 3) := by decide +kernel
theorem dX7_room_35 : decode cX7_room 35 = .ok (.iload_n 1, 1) := by decide +kernel
theorem dX7_room_36 : decode cX7_room 36 = .ok (.iaload, 1) := by decide +kernel
theorem dX7_room_37 : decode cX7_room 37 = .ok (.istore_n 3, 1) := by decide +kernel
theorem dX7_room_38 : decode cX7_room 38 = .ok (.aload_n 0, 1) := by decide +kernel
theorem dX7_room_39 : decode cX7_room 39 = .ok (.getfield 26, 3) := by decide +kernel
theorem dX7_room_42 : decode cX7_room 42 = .ok (.iload_n 1, 1) := by decide +kernel
theorem dX7_room_43 : decode cX7_room 43 = .ok (.iload_n 2, 1) := by decide +kernel
theorem dX7_room_44 : decode cX7_room 44 = .ok (.iastore, 1) := by decide +kernel
theorem dX7_room_45 : decode cX7_room 45 = .ok (.iload_n 3, 1) := by decide +kernel
theorem dX7_room_46 : decode cX7_room 46 = .ok (.ireturn, 1) := by decide +kernel
theorem dX7_sign_0 : decode cX7_sign 0 = .ok (.aload_n 0, 1) := by decide +kernel
theorem dX7_sign_1 : decode cX7_sign 1 = .ok (.getfield 134, 3) := by decide +kernel
theorem dX7_sign_4 : decode cX7_sign 4 = .ok (.aload_n 0, 1) := by decide +kernel
theorem dX7_sign_5 : decode cX7_sign 5 = .ok (.getfield 13, 3) := by decide +kernel
theorem dX7_sign_8 : decode cX7_sign 8 = .ok (.aload_n 0, 1) := by decide +kernel
theorem dX7_sign_9 : decode cX7_sign 9 = .ok (.getfield 137, 3) := by decide +kernel
theorem dX7_sign_12 : decode cX7_sign 12 = .ok (.iaload, 1) := by decide +kernel
theorem dX7_sign_13 : decode cX7_sign 13 = .ok (.if_icmp .ge 25, 3) := by decide +kernel
theorem dX7_sign_16 : decode cX7_sign 16 = .ok (.aload_n 0, 1) := by decide +kernel
theorem dX7_sign_17 : decode cX7_sign 17 = .ok (.getfield 16, 3) := by decide +kernel
theorem dX7_sign_20 : decode cX7_sign 20 = .ok (.sipush 160, 3) := by decide +kernel
theorem dX7_sign_23 : decode cX7_sign 23 = .ok (.aload_n 0, 1) := by decide +kernel
theorem dX7_sign_24 : decode cX7_sign 24 = .ok (.getfield 137, 3) := by decide +kernel
theorem dX7_sign_27 : decode cX7_sign 27 = .ok (.imul, 1) := by decide +kernel
theorem dX7_sign_28 : decode cX7_sign 28 = .ok (.aload_n 0, 1) := by decide +kernel
theorem dX7_sign_29 : decode cX7_sign 29 = .ok (.getfield 134, 3) := by decide +kernel
theorem dX7_sign_32 : decode cX7_sign 32 = .ok (.iadd, 1) := by decide +kernel
theorem dX7_sign_33 : decode cX7_sign 33 = .ok (.laload, 1) := by decide +kernel
theorem dX7_sign_34 : decode cX7_sign 34 = .ok (.l2i, 1) := by decide +kernel
theorem dX7_sign_35 : decode cX7_sign 35 = .ok (.goto 4, 3) := by decide +kernel
theorem dX7_sign_38 : decode cX7_sign 38 = .ok (.iconst (-1), 1) := by decide +kernel
theorem dX7_sign_39 : decode cX7_sign 39 = .ok (.ireturn, 1) := by decide +kernel
theorem dX7_is_0 : decode cX7_is 0 = .ok (.aload_n 0, 1) := by decide +kernel
theorem dX7_is_1 : decode cX7_is 1 = .ok (.invokevirtual 140, 3) := by decide +kernel
theorem dX7_is_4 : decode cX7_is 4 = .ok (.iload_n 1, 1) := by decide +kernel
theorem dX7_is_5 : decode cX7_is 5 = .ok (.if_icmp .eq 5, 3) := by decide +kernel
theorem dX7_is_8 : decode cX7_is 8 = .ok (.iconst 0, 1) := by decide +kernel
theorem dX7_is_9 : decode cX7_is 9 = .ok (.ireturn, 1) := by decide +kernel
theorem dX7_is_10 : decode cX7_is 10 = .ok (.aload_n 0, 1) := by decide +kernel
theorem dX7_is_11 : decode cX7_is 11 = .ok (.dup, 1) := by decide +kernel
theorem dX7_is_12 : decode cX7_is 12 = .ok (.getfield 134, 3) := by decide +kernel
theorem dX7_is_15 : decode cX7_is 15 = .ok (.iconst 1, 1) := by decide +kernel
theorem dX7_is_16 : decode cX7_is 16 = .ok (.iadd, 1) := by decide +kernel
theorem dX7_is_17 : decode cX7_is 17 = .ok (.putfield 134, 3) := by decide +kernel
theorem dX7_is_20 : decode cX7_is 20 = .ok (.iconst 1, 1) := by decide +kernel
theorem dX7_is_21 : decode cX7_is 21 = .ok (.ireturn, 1) := by decide +kernel
theorem dX7_word_0 : decode cX7_word 0 = .ok (.iconst 0, 1) := by decide +kernel
theorem dX7_word_1 : decode cX7_word 1 = .ok (.istore_n 2, 1) := by decide +kernel
theorem dX7_word_2 : decode cX7_word 2 = .ok (.iload_n 2, 1) := by decide +kernel
theorem dX7_word_3 : decode cX7_word 3 = .ok (.aload_n 1, 1) := by decide +kernel
theorem dX7_word_4 : decode cX7_word 4 = .ok (.invokevirtual 144, 3) := by decide +kernel
theorem dX7_word_7 : decode cX7_word 7 = .ok (.if_icmp .ge 23, 3) := by decide +kernel
theorem dX7_word_10 : decode cX7_word 10 = .ok (.aload_n 0, 1) := by decide +kernel
theorem dX7_word_11 : decode cX7_word 11 = .ok (.aload_n 1, 1) := by decide +kernel
theorem dX7_word_12 : decode cX7_word 12 = .ok (.iload_n 2, 1) := by decide +kernel
theorem dX7_word_13 : decode cX7_word 13 = .ok (.invokevirtual 149, 3) := by decide +kernel
theorem dX7_word_16 : decode cX7_word 16 = .ok (.invokevirtual 153, 3) := by decide +kernel
theorem dX7_word_19 : decode cX7_word 19 = .ok (.ifCond .ne 5, 3) := by decide +kernel
theorem dX7_word_22 : decode cX7_word 22 = .ok (.iconst 0, 1) := by decide +kernel
theorem dX7_word_23 : decode cX7_word 23 = .ok (.ireturn, 1) := by decide +kernel
theorem dX7_word_24 : decode cX7_word 24 = .ok (.iinc 2 1, 3) := by decide +kernel
theorem dX7_word_27 : decode cX7_word 27 = .ok (.goto (-25), 3) := by decide +kernel
theorem dX7_word_30 : decode cX7_word 30 = .ok (.iconst 1, 1) := by decide +kernel
theorem dX7_word_31 : decode cX7_word 31 = .ok (.ireturn, 1) := by decide +kernel
theorem dX7_number_0 : decode cX7_number 0 = .ok (.aload_n 0, 1) := by decide +kernel
theorem dX7_number_1 : decode cX7_number 1 = .ok (.bipush 32, 2) := by decide +kernel
theorem dX7_number_3 : decode cX7_number 3 = .ok (.invokevirtual 153, 3) := by decide +kernel
theorem dX7_number_6 : decode cX7_number 6 = .ok (.ifCond .ne 5, 3) := by decide +kernel
theorem dX7_number_9 : decode cX7_number 9 = .ok (.iconst 0, 1) := by decide +kernel
theorem dX7_number_10 : decode cX7_number 10 = .ok (.ireturn, 1) := by decide +kernel
theorem dX7_number_11 : decode cX7_number 11 = .ok (.aload_n 0, 1) := by decide +kernel
theorem dX7_number_12 : decode cX7_number 12 = .ok (.getfield 134, 3) := by decide +kernel
theorem dX7_number_15 : decode cX7_number 15 = .ok (.istore_n 3, 1) := by decide +kernel
theorem dX7_number_16 : decode cX7_number 16 = .ok (.iconst 0, 1) := by decide +kernel
theorem dX7_number_17 : decode cX7_number 17 = .ok (.istore 4, 2) := by decide +kernel
theorem dX7_number_19 : decode cX7_number 19 = .ok (.aload_n 0, 1) := by decide +kernel
theorem dX7_number_20 : decode cX7_number 20 = .ok (.getfield 134, 3) := by decide +kernel
theorem dX7_number_23 : decode cX7_number 23 = .ok (.iload_n 3, 1) := by decide +kernel
theorem dX7_number_24 : decode cX7_number 24 = .ok (.isub, 1) := by decide +kernel
theorem dX7_number_25 : decode cX7_number 25 = .ok (.iconst 5, 1) := by decide +kernel
theorem dX7_number_26 : decode cX7_number 26 = .ok (.if_icmp .ge 49, 3) := by decide +kernel
theorem dX7_number_29 : decode cX7_number 29 = .ok (.aload_n 0, 1) := by decide +kernel
theorem dX7_number_30 : decode cX7_number 30 = .ok (.invokevirtual 140, 3) := by decide +kernel
theorem dX7_number_33 : decode cX7_number 33 = .ok (.bipush 48, 2) := by decide +kernel
theorem dX7_number_35 : decode cX7_number 35 = .ok (.if_icmp .lt 40, 3) := by decide +kernel
theorem dX7_number_38 : decode cX7_number 38 = .ok (.aload_n 0, 1) := by decide +kernel
theorem dX7_number_39 : decode cX7_number 39 = .ok (.invokevirtual 140, 3) := by decide +kernel
theorem dX7_number_42 : decode cX7_number 42 = .ok (.bipush 57, 2) := by decide +kernel
theorem dX7_number_44 : decode cX7_number 44 = .ok (.if_icmp .gt 31, 3) := by decide +kernel
theorem dX7_number_47 : decode cX7_number 47 = .ok (.bipush 10, 2) := by decide +kernel
theorem dX7_number_49 : decode cX7_number 49 = .ok (.iload 4, 2) := by decide +kernel
theorem dX7_number_51 : decode cX7_number 51 = .ok (.imul, 1) := by decide +kernel
theorem dX7_number_52 : decode cX7_number 52 = .ok (.aload_n 0, 1) := by decide +kernel
theorem dX7_number_53 : decode cX7_number 53 = .ok (.invokevirtual 140, 3) := by decide +kernel
theorem dX7_number_56 : decode cX7_number 56 = .ok (.iadd, 1) := by decide +kernel
theorem dX7_number_57 : decode cX7_number 57 = .ok (.bipush 48, 2) := by decide +kernel
theorem dX7_number_59 : decode cX7_number 59 = .ok (.isub, 1) := by decide +kernel
theorem dX7_number_60 : decode cX7_number 60 = .ok (.istore 4, 2) := by decide +kernel
theorem dX7_number_62 : decode cX7_number 62 = .ok (.aload_n 0, 1) := by decide +kernel
theorem dX7_number_63 : decode cX7_number 63 = .ok (.dup, 1) := by decide +kernel
theorem dX7_number_64 : decode cX7_number 64 = .ok (.getfield 134, 3) := by decide +kernel
theorem dX7_number_67 : decode cX7_number 67 = .ok (.iconst 1, 1) := by decide +kernel
theorem dX7_number_68 : decode cX7_number 68 = .ok (.iadd, 1) := by decide +kernel
theorem dX7_number_69 : decode cX7_number 69 = .ok (.putfield 134, 3) := by decide +kernel
theorem dX7_number_72 : decode cX7_number 72 = .ok (.goto (-53), 3) := by decide +kernel
theorem dX7_number_75 : decode cX7_number 75 = .ok (.aload_n 0, 1) := by decide +kernel
theorem dX7_number_76 : decode cX7_number 76 = .ok (.getfield 134, 3) := by decide +kernel
theorem dX7_number_79 : decode cX7_number 79 = .ok (.iload_n 3, 1) := by decide +kernel
theorem dX7_number_80 : decode cX7_number 80 = .ok (.if_icmp .ne 5, 3) := by decide +kernel
theorem dX7_number_83 : decode cX7_number 83 = .ok (.iconst 0, 1) := by decide +kernel
theorem dX7_number_84 : decode cX7_number 84 = .ok (.ireturn, 1) := by decide +kernel
theorem dX7_number_85 : decode cX7_number 85 = .ok (.aload_n 0, 1) := by decide +kernel
theorem dX7_number_86 : decode cX7_number 86 = .ok (.getfield 56, 3) := by decide +kernel
theorem dX7_number_89 : decode cX7_number 89 = .ok (.iload_n 1, 1) := by decide +kernel
theorem dX7_number_90 : decode cX7_number 90 = .ok (.iload 4, 2) := by decide +kernel
theorem dX7_number_92 : decode cX7_number 92 = .ok (.iastore, 1) := by decide +kernel
theorem dX7_number_93 : decode cX7_number 93 = .ok (.iload 4, 2) := by decide +kernel
theorem dX7_number_95 : decode cX7_number 95 = .ok (.iload_n 2, 1) := by decide +kernel
theorem dX7_number_96 : decode cX7_number 96 = .ok (.if_icmp .gt 5, 3) := by decide +kernel
theorem dX7_number_99 : decode cX7_number 99 = .ok (.iconst 1, 1) := by decide +kernel
theorem dX7_number_100 : decode cX7_number 100 = .ok (.ireturn, 1) := by decide +kernel
theorem dX7_number_101 : decode cX7_number 101 = .ok (.aload_n 0, 1) := by decide +kernel
theorem dX7_number_102 : decode cX7_number 102 = .ok (.iload_n 3, 1) := by decide +kernel
theorem dX7_number_103 : decode cX7_number 103 = .ok (.putfield 134, 3) := by decide +kernel
theorem dX7_number_106 : decode cX7_number 106 = .ok (.iconst 0, 1) := by decide +kernel
theorem dX7_number_107 : decode cX7_number 107 = .ok (.ireturn, 1) := by decide +kernel
theorem dX7_word__0 : decode cX7_word_ 0 = .ok (.aload_n 0, 1) := by decide +kernel
theorem dX7_word__1 : decode cX7_word_ 1 = .ok (.getfield 134, 3) := by decide +kernel
theorem dX7_word__4 : decode cX7_word_ 4 = .ok (.istore_n 3, 1) := by decide +kernel
theorem dX7_word__5 : decode cX7_word_ 5 = .ok (.aload_n 0, 1) := by decide +kernel
theorem dX7_word__6 : decode cX7_word_ 6 = .ok (.aload_n 1, 1) := by decide +kernel
theorem dX7_word__7 : decode cX7_word_ 7 = .ok (.invokevirtual 157, 3) := by decide +kernel
theorem dX7_word__10 : decode cX7_word_ 10 = .ok (.istore 4, 2) := by decide +kernel
theorem dX7_word__12 : decode cX7_word_ 12 = .ok (.iload 4, 2) := by decide +kernel
theorem dX7_word__14 : decode cX7_word_ 14 = .ok (.ifCond .eq 12, 3) := by decide +kernel
theorem dX7_word__17 : decode cX7_word_ 17 = .ok (.iload_n 2, 1) := by decide +kernel
theorem dX7_word__18 : decode cX7_word_ 18 = .ok (.ifCond .ne 8, 3) := by decide +kernel
theorem dX7_word__21 : decode cX7_word_ 21 = .ok (.aload_n 0, 1) := by decide +kernel
theorem dX7_word__22 : decode cX7_word_ 22 = .ok (.iload_n 3, 1) := by decide +kernel
theorem dX7_word__23 : decode cX7_word_ 23 = .ok (.putfield 134, 3) := by decide +kernel
theorem dX7_word__26 : decode cX7_word_ 26 = .ok (.iload 4, 2) := by decide +kernel
theorem dX7_word__28 : decode cX7_word_ 28 = .ok (.ifCond .eq 11, 3) := by decide +kernel
theorem dX7_word__31 : decode cX7_word_ 31 = .ok (.iload_n 2, 1) := by decide +kernel
theorem dX7_word__32 : decode cX7_word_ 32 = .ok (.ifCond .eq 7, 3) := by decide +kernel
theorem dX7_word__35 : decode cX7_word_ 35 = .ok (.iconst 1, 1) := by decide +kernel
theorem dX7_word__36 : decode cX7_word_ 36 = .ok (.goto 4, 3) := by decide +kernel
theorem dX7_word__39 : decode cX7_word_ 39 = .ok (.iconst 0, 1) := by decide +kernel
theorem dX7_word__40 : decode cX7_word_ 40 = .ok (.ireturn, 1) := by decide +kernel
theorem dX7_item_0 : decode cX7_item 0 = .ok (.aload_n 0, 1) := by decide +kernel
theorem dX7_item_1 : decode cX7_item 1 = .ok (.invokevirtual 140, 3) := by decide +kernel
theorem dX7_item_4 : decode cX7_item 4 = .ok (.lookupswitch 356 #[(99, 257), (102, 60), (104, 199), (111, 323), (112, 119), (119, 290)], 60) := by decide +kernel
theorem dX7_item_64 : decode cX7_item 64 = .ok (.aload_n 0, 1) := by decide +kernel
theorem dX7_item_65 : decode cX7_item 65 = .ok (.ldc 161, 2) := by decide +kernel
theorem dX7_item_67 : decode cX7_item 67 = .ok (.aload_n 0, 1) := by decide +kernel
theorem dX7_item_68 : decode cX7_item 68 = .ok (.getfield 91, 3) := by decide +kernel
theorem dX7_item_71 : decode cX7_item 71 = .ok (.bipush 8, 2) := by decide +kernel
theorem dX7_item_73 : decode cX7_item 73 = .ok (.if_icmp .ge 7, 3) := by decide +kernel
theorem dX7_item_76 : decode cX7_item 76 = .ok (.iconst 1, 1) := by decide +kernel
theorem dX7_item_77 : decode cX7_item 77 = .ok (.goto 4, 3) := by decide +kernel
theorem dX7_item_80 : decode cX7_item 80 = .ok (.iconst 0, 1) := by decide +kernel
theorem dX7_item_81 : decode cX7_item 81 = .ok (.invokevirtual 162, 3) := by decide +kernel
theorem dX7_item_84 : decode cX7_item 84 = .ok (.ifCond .eq 13, 3) := by decide +kernel
theorem dX7_item_87 : decode cX7_item 87 = .ok (.aload_n 0, 1) := by decide +kernel
theorem dX7_item_88 : decode cX7_item 88 = .ok (.iconst 0, 1) := by decide +kernel
theorem dX7_item_89 : decode cX7_item 89 = .ok (.ldc 127, 2) := by decide +kernel
theorem dX7_item_91 : decode cX7_item 91 = .ok (.invokevirtual 165, 3) := by decide +kernel
theorem dX7_item_94 : decode cX7_item 94 = .ok (.ifCond .ne 5, 3) := by decide +kernel
theorem dX7_item_97 : decode cX7_item 97 = .ok (.iconst 0, 1) := by decide +kernel
theorem dX7_item_98 : decode cX7_item 98 = .ok (.ireturn, 1) := by decide +kernel
theorem dX7_item_99 : decode cX7_item 99 = .ok (.aload_n 0, 1) := by decide +kernel
theorem dX7_item_100 : decode cX7_item 100 = .ok (.getfield 20, 3) := by decide +kernel
theorem dX7_item_103 : decode cX7_item 103 = .ok (.aload_n 0, 1) := by decide +kernel
theorem dX7_item_104 : decode cX7_item 104 = .ok (.dup, 1) := by decide +kernel
theorem dX7_item_105 : decode cX7_item 105 = .ok (.getfield 91, 3) := by decide +kernel
theorem dX7_item_108 : decode cX7_item 108 = .ok (.dup_x1, 1) := by decide +kernel
theorem dX7_item_109 : decode cX7_item 109 = .ok (.iconst 1, 1) := by decide +kernel
theorem dX7_item_110 : decode cX7_item 110 = .ok (.iadd, 1) := by decide +kernel
theorem dX7_item_111 : decode cX7_item 111 = .ok (.putfield 91, 3) := by decide +kernel
theorem dX7_item_114 : decode cX7_item 114 = .ok (.aload_n 0, 1) := by decide +kernel
theorem dX7_item_115 : decode cX7_item 115 = .ok (.getfield 56, 3) := by decide +kernel
theorem dX7_item_118 : decode cX7_item 118 = .ok (.iconst 0, 1) := by decide +kernel
theorem dX7_item_119 : decode cX7_item 119 = .ok (.iaload, 1) := by decide +kernel
theorem dX7_item_120 : decode cX7_item 120 = .ok (.iastore, 1) := by decide +kernel
theorem dX7_item_121 : decode cX7_item 121 = .ok (.iconst 1, 1) := by decide +kernel
theorem dX7_item_122 : decode cX7_item 122 = .ok (.ireturn, 1) := by decide +kernel
theorem dX7_item_123 : decode cX7_item 123 = .ok (.aload_n 0, 1) := by decide +kernel
theorem dX7_item_124 : decode cX7_item 124 = .ok (.ldc 168, 2) := by decide +kernel
theorem dX7_item_126 : decode cX7_item 126 = .ok (.aload_n 0, 1) := by decide +kernel
theorem dX7_item_127 : decode cX7_item 127 = .ok (.getfield 84, 3) := by decide +kernel
theorem dX7_item_130 : decode cX7_item 130 = .ok (.bipush 8, 2) := by decide +kernel
theorem dX7_item_132 : decode cX7_item 132 = .ok (.if_icmp .ge 7, 3) := by decide +kernel
theorem dX7_item_135 : decode cX7_item 135 = .ok (.iconst 1, 1) := by decide +kernel
theorem dX7_item_136 : decode cX7_item 136 = .ok (.goto 4, 3) := by decide +kernel
theorem dX7_item_139 : decode cX7_item 139 = .ok (.iconst 0, 1) := by decide +kernel
theorem dX7_item_140 : decode cX7_item 140 = .ok (.invokevirtual 162, 3) := by decide +kernel
theorem dX7_item_143 : decode cX7_item 143 = .ok (.ifCond .eq 33, 3) := by decide +kernel
theorem dX7_item_146 : decode cX7_item 146 = .ok (.aload_n 0, 1) := by decide +kernel
theorem dX7_item_147 : decode cX7_item 147 = .ok (.iconst 0, 1) := by decide +kernel
theorem dX7_item_148 : decode cX7_item 148 = .ok (.bipush 6, 2) := by decide +kernel
theorem dX7_item_150 : decode cX7_item 150 = .ok (.invokevirtual 165, 3) := by decide +kernel
theorem dX7_item_153 : decode cX7_item 153 = .ok (.ifCond .eq 23, 3) := by decide +kernel
theorem dX7_item_156 : decode cX7_item 156 = .ok (.aload_n 0, 1) := by decide +kernel
theorem dX7_item_157 : decode cX7_item 157 = .ok (.iconst 1, 1) := by decide +kernel
theorem dX7_item_158 : decode cX7_item 158 = .ok (.bipush 9, 2) := by decide +kernel
theorem dX7_item_160 : decode cX7_item 160 = .ok (.invokevirtual 165, 3) := by decide +kernel
theorem dX7_item_163 : decode cX7_item 163 = .ok (.ifCond .eq 13, 3) := by decide +kernel
theorem dX7_item_166 : decode cX7_item 166 = .ok (.aload_n 0, 1) := by decide +kernel
theorem dX7_item_167 : decode cX7_item 167 = .ok (.iconst 2, 1) := by decide +kernel
theorem dX7_item_168 : decode cX7_item 168 = .ok (.bipush 9, 2) := by decide +kernel
theorem dX7_item_170 : decode cX7_item 170 = .ok (.invokevirtual 165, 3) := by decide +kernel
theorem dX7_item_173 : decode cX7_item 173 = .ok (.ifCond .ne 5, 3) := by decide +kernel
theorem dX7_item_176 : decode cX7_item 176 = .ok (.iconst 0, 1) := by decide +kernel
theorem dX7_item_177 : decode cX7_item 177 = .ok (.ireturn, 1) := by decide +kernel
theorem dX7_item_178 : decode cX7_item 178 = .ok (.aload_n 0, 1) := by decide +kernel
theorem dX7_item_179 : decode cX7_item 179 = .ok (.aload_n 0, 1) := by decide +kernel
theorem dX7_item_180 : decode cX7_item 180 = .ok (.getfield 56, 3) := by decide +kernel
theorem dX7_item_183 : decode cX7_item 183 = .ok (.iconst 0, 1) := by decide +kernel
theorem dX7_item_184 : decode cX7_item 184 = .ok (.iaload, 1) := by decide +kernel
theorem dX7_item_185 : decode cX7_item 185 = .ok (.aload_n 0, 1) := by decide +kernel
theorem dX7_item_186 : decode cX7_item 186 = .ok (.getfield 56, 3) := by decide +kernel
theorem dX7_item_189 : decode cX7_item 189 = .ok (.iconst 1, 1) := by decide +kernel
theorem dX7_item_190 : decode cX7_item 190 = .ok (.iaload, 1) := by decide +kernel
theorem dX7_item_191 : decode cX7_item 191 = .ok (.aload_n 0, 1) := by decide +kernel
theorem dX7_item_192 : decode cX7_item 192 = .ok (.getfield 56, 3) := by decide +kernel
theorem dX7_item_195 : decode cX7_item 195 = .ok (.iconst 2, 1) := by decide +kernel
theorem dX7_item_196 : decode cX7_item 196 = .ok (.iaload, 1) := by decide +kernel
theorem dX7_item_197 : decode cX7_item 197 = .ok (.invokevirtual 170, 3) := by decide +kernel
theorem dX7_item_200 : decode cX7_item 200 = .ok (.pop, 1) := by decide +kernel
theorem dX7_item_201 : decode cX7_item 201 = .ok (.iconst 1, 1) := by decide +kernel
theorem dX7_item_202 : decode cX7_item 202 = .ok (.ireturn, 1) := by decide +kernel
theorem dX7_item_203 : decode cX7_item 203 = .ok (.aload_n 0, 1) := by decide +kernel
theorem dX7_item_204 : decode cX7_item 204 = .ok (.ldc 173, 2) := by decide +kernel
theorem dX7_item_206 : decode cX7_item 206 = .ok (.invokevirtual 157, 3) := by decide +kernel
theorem dX7_item_209 : decode cX7_item 209 = .ok (.ifCond .eq 31, 3) := by decide +kernel
theorem dX7_item_212 : decode cX7_item 212 = .ok (.aload_n 0, 1) := by decide +kernel
theorem dX7_item_213 : decode cX7_item 213 = .ok (.iconst 0, 1) := by decide +kernel
theorem dX7_item_214 : decode cX7_item 214 = .ok (.aload_n 0, 1) := by decide +kernel
theorem dX7_item_215 : decode cX7_item 215 = .ok (.getfield 84, 3) := by decide +kernel
theorem dX7_item_218 : decode cX7_item 218 = .ok (.iconst 1, 1) := by decide +kernel
theorem dX7_item_219 : decode cX7_item 219 = .ok (.isub, 1) := by decide +kernel
theorem dX7_item_220 : decode cX7_item 220 = .ok (.invokevirtual 165, 3) := by decide +kernel
theorem dX7_item_223 : decode cX7_item 223 = .ok (.ifCond .eq 17, 3) := by decide +kernel
theorem dX7_item_226 : decode cX7_item 226 = .ok (.aload_n 0, 1) := by decide +kernel
theorem dX7_item_227 : decode cX7_item 227 = .ok (.iconst 1, 1) := by decide +kernel
theorem dX7_item_228 : decode cX7_item 228 = .ok (.aload_n 0, 1) := by decide +kernel
theorem dX7_item_229 : decode cX7_item 229 = .ok (.getfield 91, 3) := by decide +kernel
theorem dX7_item_232 : decode cX7_item 232 = .ok (.iconst 1, 1) := by decide +kernel
theorem dX7_item_233 : decode cX7_item 233 = .ok (.isub, 1) := by decide +kernel
theorem dX7_item_234 : decode cX7_item 234 = .ok (.invokevirtual 165, 3) := by decide +kernel
theorem dX7_item_237 : decode cX7_item 237 = .ok (.ifCond .ne 5, 3) := by decide +kernel
theorem dX7_item_240 : decode cX7_item 240 = .ok (.iconst 0, 1) := by decide +kernel
theorem dX7_item_241 : decode cX7_item 241 = .ok (.ireturn, 1) := by decide +kernel
theorem dX7_item_242 : decode cX7_item 242 = .ok (.aload_n 0, 1) := by decide +kernel
theorem dX7_item_243 : decode cX7_item 243 = .ok (.getfield 32, 3) := by decide +kernel
theorem dX7_item_246 : decode cX7_item 246 = .ok (.aload_n 0, 1) := by decide +kernel
theorem dX7_item_247 : decode cX7_item 247 = .ok (.getfield 56, 3) := by decide +kernel
theorem dX7_item_250 : decode cX7_item 250 = .ok (.iconst 0, 1) := by decide +kernel
theorem dX7_item_251 : decode cX7_item 251 = .ok (.iaload, 1) := by decide +kernel
theorem dX7_item_252 : decode cX7_item 252 = .ok (.aload_n 0, 1) := by decide +kernel
theorem dX7_item_253 : decode cX7_item 253 = .ok (.getfield 56, 3) := by decide +kernel
theorem dX7_item_256 : decode cX7_item 256 = .ok (.iconst 1, 1) := by decide +kernel
theorem dX7_item_257 : decode cX7_item 257 = .ok (.iaload, 1) := by decide +kernel
theorem dX7_item_258 : decode cX7_item 258 = .ok (.iastore, 1) := by decide +kernel
theorem dX7_item_259 : decode cX7_item 259 = .ok (.iconst 1, 1) := by decide +kernel
theorem dX7_item_260 : decode cX7_item 260 = .ok (.ireturn, 1) := by decide +kernel
theorem dX7_item_261 : decode cX7_item 261 = .ok (.aload_n 0, 1) := by decide +kernel
theorem dX7_item_262 : decode cX7_item 262 = .ok (.ldc 175, 2) := by decide +kernel
theorem dX7_item_264 : decode cX7_item 264 = .ok (.invokevirtual 157, 3) := by decide +kernel
theorem dX7_item_267 : decode cX7_item 267 = .ok (.ifCond .eq 13, 3) := by decide +kernel
theorem dX7_item_270 : decode cX7_item 270 = .ok (.aload_n 0, 1) := by decide +kernel
theorem dX7_item_271 : decode cX7_item 271 = .ok (.iconst 0, 1) := by decide +kernel
theorem dX7_item_272 : decode cX7_item 272 = .ok (.bipush 40, 2) := by decide +kernel
theorem dX7_item_274 : decode cX7_item 274 = .ok (.invokevirtual 165, 3) := by decide +kernel
theorem dX7_item_277 : decode cX7_item 277 = .ok (.ifCond .ne 5, 3) := by decide +kernel
theorem dX7_item_280 : decode cX7_item 280 = .ok (.iconst 0, 1) := by decide +kernel
theorem dX7_item_281 : decode cX7_item 281 = .ok (.ireturn, 1) := by decide +kernel
theorem dX7_item_282 : decode cX7_item 282 = .ok (.aload_n 0, 1) := by decide +kernel
theorem dX7_item_283 : decode cX7_item 283 = .ok (.aload_n 0, 1) := by decide +kernel
theorem dX7_item_284 : decode cX7_item 284 = .ok (.getfield 56, 3) := by decide +kernel
theorem dX7_item_287 : decode cX7_item 287 = .ok (.iconst 0, 1) := by decide +kernel
theorem dX7_item_288 : decode cX7_item 288 = .ok (.iaload, 1) := by decide +kernel
theorem dX7_item_289 : decode cX7_item 289 = .ok (.putfield 65, 3) := by decide +kernel
theorem dX7_item_292 : decode cX7_item 292 = .ok (.iconst 1, 1) := by decide +kernel
theorem dX7_item_293 : decode cX7_item 293 = .ok (.ireturn, 1) := by decide +kernel
theorem dX7_item_294 : decode cX7_item 294 = .ok (.aload_n 0, 1) := by decide +kernel
theorem dX7_item_295 : decode cX7_item 295 = .ok (.ldc 176, 2) := by decide +kernel
theorem dX7_item_297 : decode cX7_item 297 = .ok (.invokevirtual 157, 3) := by decide +kernel
theorem dX7_item_300 : decode cX7_item 300 = .ok (.ifCond .eq 13, 3) := by decide +kernel
theorem dX7_item_303 : decode cX7_item 303 = .ok (.aload_n 0, 1) := by decide +kernel
theorem dX7_item_304 : decode cX7_item 304 = .ok (.iconst 0, 1) := by decide +kernel
theorem dX7_item_305 : decode cX7_item 305 = .ok (.bipush 9, 2) := by decide +kernel
theorem dX7_item_307 : decode cX7_item 307 = .ok (.invokevirtual 165, 3) := by decide +kernel
theorem dX7_item_310 : decode cX7_item 310 = .ok (.ifCond .ne 5, 3) := by decide +kernel
theorem dX7_item_313 : decode cX7_item 313 = .ok (.iconst 0, 1) := by decide +kernel
theorem dX7_item_314 : decode cX7_item 314 = .ok (.ireturn, 1) := by decide +kernel
theorem dX7_item_315 : decode cX7_item 315 = .ok (.aload_n 0, 1) := by decide +kernel
theorem dX7_item_316 : decode cX7_item 316 = .ok (.aload_n 0, 1) := by decide +kernel
theorem dX7_item_317 : decode cX7_item 317 = .ok (.getfield 56, 3) := by decide +kernel
theorem dX7_item_320 : decode cX7_item 320 = .ok (.iconst 0, 1) := by decide +kernel
theorem dX7_item_321 : decode cX7_item 321 = .ok (.iaload, 1) := by decide +kernel
theorem dX7_item_322 : decode cX7_item 322 = .ok (.putfield 69, 3) := by decide +kernel
theorem dX7_item_325 : decode cX7_item 325 = .ok (.iconst 1, 1) := by decide +kernel
theorem dX7_item_326 : decode cX7_item 326 = .ok (.ireturn, 1) := by decide +kernel
theorem dX7_item_327 : decode cX7_item 327 = .ok (.aload_n 0, 1) := by decide +kernel
theorem dX7_item_328 : decode cX7_item 328 = .ok (.ldc 177, 2) := by decide +kernel
theorem dX7_item_330 : decode cX7_item 330 = .ok (.invokevirtual 157, 3) := by decide +kernel
theorem dX7_item_333 : decode cX7_item 333 = .ok (.ifCond .eq 13, 3) := by decide +kernel
theorem dX7_item_336 : decode cX7_item 336 = .ok (.aload_n 0, 1) := by decide +kernel
theorem dX7_item_337 : decode cX7_item 337 = .ok (.iconst 0, 1) := by decide +kernel
theorem dX7_item_338 : decode cX7_item 338 = .ok (.bipush 9, 2) := by decide +kernel
theorem dX7_item_340 : decode cX7_item 340 = .ok (.invokevirtual 165, 3) := by decide +kernel
theorem dX7_item_343 : decode cX7_item 343 = .ok (.ifCond .ne 5, 3) := by decide +kernel
theorem dX7_item_346 : decode cX7_item 346 = .ok (.iconst 0, 1) := by decide +kernel
theorem dX7_item_347 : decode cX7_item 347 = .ok (.ireturn, 1) := by decide +kernel
theorem dX7_item_348 : decode cX7_item 348 = .ok (.aload_n 0, 1) := by decide +kernel
theorem dX7_item_349 : decode cX7_item 349 = .ok (.aload_n 0, 1) := by decide +kernel
theorem dX7_item_350 : decode cX7_item 350 = .ok (.getfield 56, 3) := by decide +kernel
theorem dX7_item_353 : decode cX7_item 353 = .ok (.iconst 0, 1) := by decide +kernel
theorem dX7_item_354 : decode cX7_item 354 = .ok (.iaload, 1) := by decide +kernel
theorem dX7_item_355 : decode cX7_item 355 = .ok (.putfield 72, 3) := by decide +kernel
theorem dX7_item_358 : decode cX7_item 358 = .ok (.iconst 1, 1) := by decide +kernel
theorem dX7_item_359 : decode cX7_item 359 = .ok (.ireturn, 1) := by decide +kernel
theorem dX7_item_360 : decode cX7_item 360 = .ok (.iconst 0, 1) := by decide +kernel
theorem dX7_item_361 : decode cX7_item 361 = .ok (.ireturn, 1) := by decide +kernel
theorem dX7_press_0 : decode cX7_press 0 = .ok (.aload_n 0, 1) := by decide +kernel
theorem dX7_press_1 : decode cX7_press 1 = .ok (.iload_n 1, 1) := by decide +kernel
theorem dX7_press_2 : decode cX7_press 2 = .ok (.invokevirtual 102, 3) := by decide +kernel
theorem dX7_press_5 : decode cX7_press 5 = .ok (.istore_n 2, 1) := by decide +kernel
theorem dX7_press_6 : decode cX7_press 6 = .ok (.iload_n 2, 1) := by decide +kernel
theorem dX7_press_7 : decode cX7_press 7 = .ok (.ifCond .ge 9, 3) := by decide +kernel
theorem dX7_press_10 : decode cX7_press 10 = .ok (.aload_n 0, 1) := by decide +kernel
theorem dX7_press_11 : decode cX7_press 11 = .ok (.iload_n 2, 1) := by decide +kernel
theorem dX7_press_12 : decode cX7_press 12 = .ok (.invokevirtual 94, 3) := by decide +kernel
theorem dX7_press_15 : decode cX7_press 15 = .ok (.ireturn, 1) := by decide +kernel
theorem dX7_press_16 : decode cX7_press 16 = .ok (.aload_n 0, 1) := by decide +kernel
theorem dX7_press_17 : decode cX7_press 17 = .ok (.getfield 91, 3) := by decide +kernel
theorem dX7_press_20 : decode cX7_press 20 = .ok (.istore_n 3, 1) := by decide +kernel
theorem dX7_press_21 : decode cX7_press 21 = .ok (.aload_n 0, 1) := by decide +kernel
theorem dX7_press_22 : decode cX7_press 22 = .ok (.getfield 84, 3) := by decide +kernel
theorem dX7_press_25 : decode cX7_press 25 = .ok (.istore 4, 2) := by decide +kernel
theorem dX7_press_27 : decode cX7_press 27 = .ok (.aload_n 0, 1) := by decide +kernel
theorem dX7_press_28 : decode cX7_press 28 = .ok (.getfield 65, 3) := by decide +kernel
theorem dX7_press_31 : decode cX7_press 31 = .ok (.istore 5, 2) := by decide +kernel
theorem dX7_press_33 : decode cX7_press 33 = .ok (.aload_n 0, 1) := by decide +kernel
theorem dX7_press_34 : decode cX7_press 34 = .ok (.getfield 69, 3) := by decide +kernel
theorem dX7_press_37 : decode cX7_press 37 = .ok (.istore 6, 2) := by decide +kernel
theorem dX7_press_39 : decode cX7_press 39 = .ok (.aload_n 0, 1) := by decide +kernel
theorem dX7_press_40 : decode cX7_press 40 = .ok (.getfield 72, 3) := by decide +kernel
theorem dX7_press_43 : decode cX7_press 43 = .ok (.istore 7, 2) := by decide +kernel
theorem dX7_press_45 : decode cX7_press 45 = .ok (.iconst 0, 1) := by decide +kernel
theorem dX7_press_46 : decode cX7_press 46 = .ok (.istore 8, 2) := by decide +kernel
theorem dX7_press_48 : decode cX7_press 48 = .ok (.iload 8, 2) := by decide +kernel
theorem dX7_press_50 : decode cX7_press 50 = .ok (.bipush 8, 2) := by decide +kernel
theorem dX7_press_52 : decode cX7_press 52 = .ok (.if_icmp .ge 23, 3) := by decide +kernel
theorem dX7_press_55 : decode cX7_press 55 = .ok (.aload_n 0, 1) := by decide +kernel
theorem dX7_press_56 : decode cX7_press 56 = .ok (.getfield 59, 3) := by decide +kernel
theorem dX7_press_59 : decode cX7_press 59 = .ok (.iload 8, 2) := by decide +kernel
theorem dX7_press_61 : decode cX7_press 61 = .ok (.aload_n 0, 1) := by decide +kernel
theorem dX7_press_62 : decode cX7_press 62 = .ok (.getfield 32, 3) := by decide +kernel
theorem dX7_press_65 : decode cX7_press 65 = .ok (.iload 8, 2) := by decide +kernel
theorem dX7_press_67 : decode cX7_press 67 = .ok (.iaload, 1) := by decide +kernel
theorem dX7_press_68 : decode cX7_press 68 = .ok (.iastore, 1) := by decide +kernel
theorem dX7_press_69 : decode cX7_press 69 = .ok (.iinc 8 1, 3) := by decide +kernel
theorem dX7_press_72 : decode cX7_press 72 = .ok (.goto (-24), 3) := by decide +kernel
theorem dX7_press_75 : decode cX7_press 75 = .ok (.aload_n 0, 1) := by decide +kernel
theorem dX7_press_76 : decode cX7_press 76 = .ok (.iload_n 1, 1) := by decide +kernel
theorem dX7_press_77 : decode cX7_press 77 = .ok (.putfield 137, 3) := by decide +kernel
theorem dX7_press_80 : decode cX7_press 80 = .ok (.aload_n 0, 1) := by decide +kernel
theorem dX7_press_81 : decode cX7_press 81 = .ok (.iconst 0, 1) := by decide +kernel
theorem dX7_press_82 : decode cX7_press 82 = .ok (.putfield 134, 3) := by decide +kernel
theorem dX7_press_85 : decode cX7_press 85 = .ok (.iconst 0, 1) := by decide +kernel
theorem dX7_press_86 : decode cX7_press 86 = .ok (.istore 8, 2) := by decide +kernel
theorem dX7_press_88 : decode cX7_press 88 = .ok (.iconst 1, 1) := by decide +kernel
theorem dX7_press_89 : decode cX7_press 89 = .ok (.istore 9, 2) := by decide +kernel
theorem dX7_press_91 : decode cX7_press 91 = .ok (.iload 9, 2) := by decide +kernel
theorem dX7_press_93 : decode cX7_press 93 = .ok (.ifCond .eq 59, 3) := by decide +kernel
theorem dX7_press_96 : decode cX7_press 96 = .ok (.aload_n 0, 1) := by decide +kernel
theorem dX7_press_97 : decode cX7_press 97 = .ok (.invokevirtual 178, 3) := by decide +kernel
theorem dX7_press_100 : decode cX7_press 100 = .ok (.istore 9, 2) := by decide +kernel
theorem dX7_press_102 : decode cX7_press 102 = .ok (.iload 9, 2) := by decide +kernel
theorem dX7_press_104 : decode cX7_press 104 = .ok (.ifCond .eq 6, 3) := by decide +kernel
theorem dX7_press_107 : decode cX7_press 107 = .ok (.iinc 8 1, 3) := by decide +kernel
theorem dX7_press_110 : decode cX7_press 110 = .ok (.iload 9, 2) := by decide +kernel
theorem dX7_press_112 : decode cX7_press 112 = .ok (.ifCond .eq 24, 3) := by decide +kernel
theorem dX7_press_115 : decode cX7_press 115 = .ok (.aload_n 0, 1) := by decide +kernel
theorem dX7_press_116 : decode cX7_press 116 = .ok (.getfield 134, 3) := by decide +kernel
theorem dX7_press_119 : decode cX7_press 119 = .ok (.aload_n 0, 1) := by decide +kernel
theorem dX7_press_120 : decode cX7_press 120 = .ok (.getfield 13, 3) := by decide +kernel
theorem dX7_press_123 : decode cX7_press 123 = .ok (.iload_n 1, 1) := by decide +kernel
theorem dX7_press_124 : decode cX7_press 124 = .ok (.iaload, 1) := by decide +kernel
theorem dX7_press_125 : decode cX7_press 125 = .ok (.if_icmp .ne 11, 3) := by decide +kernel
theorem dX7_press_128 : decode cX7_press 128 = .ok (.aload_n 0, 1) := by decide +kernel
theorem dX7_press_129 : decode cX7_press 129 = .ok (.iconst (-1), 1) := by decide +kernel
theorem dX7_press_130 : decode cX7_press 130 = .ok (.putfield 81, 3) := by decide +kernel
theorem dX7_press_133 : decode cX7_press 133 = .ok (.iload 8, 2) := by decide +kernel
theorem dX7_press_135 : decode cX7_press 135 = .ok (.ireturn, 1) := by decide +kernel
theorem dX7_press_136 : decode cX7_press 136 = .ok (.iload 9, 2) := by decide +kernel
theorem dX7_press_138 : decode cX7_press 138 = .ok (.ifCond .eq (-47), 3) := by decide +kernel
theorem dX7_press_141 : decode cX7_press 141 = .ok (.aload_n 0, 1) := by decide +kernel
theorem dX7_press_142 : decode cX7_press 142 = .ok (.bipush 59, 2) := by decide +kernel
theorem dX7_press_144 : decode cX7_press 144 = .ok (.invokevirtual 153, 3) := by decide +kernel
theorem dX7_press_147 : decode cX7_press 147 = .ok (.istore 9, 2) := by decide +kernel
theorem dX7_press_149 : decode cX7_press 149 = .ok (.goto (-58), 3) := by decide +kernel
theorem dX7_press_152 : decode cX7_press 152 = .ok (.aload_n 0, 1) := by decide +kernel
theorem dX7_press_153 : decode cX7_press 153 = .ok (.aload_n 0, 1) := by decide +kernel
theorem dX7_press_154 : decode cX7_press 154 = .ok (.getfield 134, 3) := by decide +kernel
theorem dX7_press_157 : decode cX7_press 157 = .ok (.putfield 81, 3) := by decide +kernel
theorem dX7_press_160 : decode cX7_press 160 = .ok (.aload_n 0, 1) := by decide +kernel
theorem dX7_press_161 : decode cX7_press 161 = .ok (.iload_n 3, 1) := by decide +kernel
theorem dX7_press_162 : decode cX7_press 162 = .ok (.putfield 91, 3) := by decide +kernel
theorem dX7_press_165 : decode cX7_press 165 = .ok (.aload_n 0, 1) := by decide +kernel
theorem dX7_press_166 : decode cX7_press 166 = .ok (.iload 4, 2) := by decide +kernel
theorem dX7_press_168 : decode cX7_press 168 = .ok (.putfield 84, 3) := by decide +kernel
theorem dX7_press_171 : decode cX7_press 171 = .ok (.aload_n 0, 1) := by decide +kernel
theorem dX7_press_172 : decode cX7_press 172 = .ok (.iload 5, 2) := by decide +kernel
theorem dX7_press_174 : decode cX7_press 174 = .ok (.putfield 65, 3) := by decide +kernel
theorem dX7_press_177 : decode cX7_press 177 = .ok (.aload_n 0, 1) := by decide +kernel
theorem dX7_press_178 : decode cX7_press 178 = .ok (.iload 6, 2) := by decide +kernel
theorem dX7_press_180 : decode cX7_press 180 = .ok (.putfield 69, 3) := by decide +kernel
theorem dX7_press_183 : decode cX7_press 183 = .ok (.aload_n 0, 1) := by decide +kernel
theorem dX7_press_184 : decode cX7_press 184 = .ok (.iload 7, 2) := by decide +kernel
theorem dX7_press_186 : decode cX7_press 186 = .ok (.putfield 72, 3) := by decide +kernel
theorem dX7_press_189 : decode cX7_press 189 = .ok (.iconst 0, 1) := by decide +kernel
theorem dX7_press_190 : decode cX7_press 190 = .ok (.istore 10, 2) := by decide +kernel
theorem dX7_press_192 : decode cX7_press 192 = .ok (.iload 10, 2) := by decide +kernel
theorem dX7_press_194 : decode cX7_press 194 = .ok (.bipush 8, 2) := by decide +kernel
theorem dX7_press_196 : decode cX7_press 196 = .ok (.if_icmp .ge 23, 3) := by decide +kernel
theorem dX7_press_199 : decode cX7_press 199 = .ok (.aload_n 0, 1) := by decide +kernel
theorem dX7_press_200 : decode cX7_press 200 = .ok (.getfield 32, 3) := by decide +kernel
theorem dX7_press_203 : decode cX7_press 203 = .ok (.iload 10, 2) := by decide +kernel
theorem dX7_press_205 : decode cX7_press 205 = .ok (.aload_n 0, 1) := by decide +kernel
theorem dX7_press_206 : decode cX7_press 206 = .ok (.getfield 59, 3) := by decide +kernel
theorem dX7_press_209 : decode cX7_press 209 = .ok (.iload 10, 2) := by decide +kernel
theorem dX7_press_211 : decode cX7_press 211 = .ok (.iaload, 1) := by decide +kernel
theorem dX7_press_212 : decode cX7_press 212 = .ok (.iastore, 1) := by decide +kernel
theorem dX7_press_213 : decode cX7_press 213 = .ok (.iinc 10 1, 3) := by decide +kernel
theorem dX7_press_216 : decode cX7_press 216 = .ok (.goto (-24), 3) := by decide +kernel
theorem dX7_press_219 : decode cX7_press 219 = .ok (.aload_n 0, 1) := by decide +kernel
theorem dX7_press_220 : decode cX7_press 220 = .ok (.bipush (-6), 2) := by decide +kernel
theorem dX7_press_222 : decode cX7_press 222 = .ok (.invokevirtual 94, 3) := by decide +kernel
theorem dX7_press_225 : decode cX7_press 225 = .ok (.ireturn, 1) := by decide +kernel
theorem dX7_fault_0 : decode cX7_fault 0 = .ok (.aload_n 0, 1) := by decide +kernel
theorem dX7_fault_1 : decode cX7_fault 1 = .ok (.getfield 81, 3) := by decide +kernel
theorem dX7_fault_4 : decode cX7_fault 4 = .ok (.ireturn, 1) := by decide +kernel
theorem dX7_sharp_0 : decode cX7_sharp 0 = .ok (.aload_n 0, 1) := by decide +kernel
theorem dX7_sharp_1 : decode cX7_sharp 1 = .ok (.getfield 23, 3) := by decide +kernel
theorem dX7_sharp_4 : decode cX7_sharp 4 = .ok (.iload_n 1, 1) := by decide +kernel
theorem dX7_sharp_5 : decode cX7_sharp 5 = .ok (.iaload, 1) := by decide +kernel
theorem dX7_sharp_6 : decode cX7_sharp 6 = .ok (.iconst 2, 1) := by decide +kernel
theorem dX7_sharp_7 : decode cX7_sharp 7 = .ok (.if_icmp .eq 24, 3) := by decide +kernel
theorem dX7_sharp_10 : decode cX7_sharp 10 = .ok (.aload_n 0, 1) := by decide +kernel
theorem dX7_sharp_11 : decode cX7_sharp 11 = .ok (.getfield 23, 3) := by decide +kernel
theorem dX7_sharp_14 : decode cX7_sharp 14 = .ok (.iload_n 1, 1) := by decide +kernel
theorem dX7_sharp_15 : decode cX7_sharp 15 = .ok (.iaload, 1) := by decide +kernel
theorem dX7_sharp_16 : decode cX7_sharp 16 = .ok (.iconst 3, 1) := by decide +kernel
theorem dX7_sharp_17 : decode cX7_sharp 17 = .ok (.if_icmp .eq 14, 3) := by decide +kernel
theorem dX7_sharp_20 : decode cX7_sharp 20 = .ok (.aload_n 0, 1) := by decide +kernel
theorem dX7_sharp_21 : decode cX7_sharp 21 = .ok (.getfield 23, 3) := by decide +kernel
theorem dX7_sharp_24 : decode cX7_sharp 24 = .ok (.iload_n 1, 1) := by decide +kernel
theorem dX7_sharp_25 : decode cX7_sharp 25 = .ok (.iaload, 1) := by decide +kernel
theorem dX7_sharp_26 : decode cX7_sharp 26 = .ok (.bipush 6, 2) := by decide +kernel
theorem dX7_sharp_28 : decode cX7_sharp 28 = .ok (.if_icmp .ne 7, 3) := by decide +kernel
theorem dX7_sharp_31 : decode cX7_sharp 31 = .ok (.iconst 1, 1) := by decide +kernel
theorem dX7_sharp_32 : decode cX7_sharp 32 = .ok (.goto 4, 3) := by decide +kernel
theorem dX7_sharp_35 : decode cX7_sharp 35 = .ok (.iconst 0, 1) := by decide +kernel
theorem dX7_sharp_36 : decode cX7_sharp 36 = .ok (.istore_n 2, 1) := by decide +kernel
theorem dX7_sharp_37 : decode cX7_sharp 37 = .ok (.iload_n 2, 1) := by decide +kernel
theorem dX7_sharp_38 : decode cX7_sharp 38 = .ok (.ifCond .eq 21, 3) := by decide +kernel
theorem dX7_sharp_41 : decode cX7_sharp 41 = .ok (.iconst 0, 1) := by decide +kernel
theorem dX7_sharp_42 : decode cX7_sharp 42 = .ok (.aload_n 0, 1) := by decide +kernel
theorem dX7_sharp_43 : decode cX7_sharp 43 = .ok (.getfield 65, 3) := by decide +kernel
theorem dX7_sharp_46 : decode cX7_sharp 46 = .ok (.aload_n 0, 1) := by decide +kernel
theorem dX7_sharp_47 : decode cX7_sharp 47 = .ok (.getfield 29, 3) := by decide +kernel
theorem dX7_sharp_50 : decode cX7_sharp 50 = .ok (.iload_n 1, 1) := by decide +kernel
theorem dX7_sharp_51 : decode cX7_sharp 51 = .ok (.iaload, 1) := by decide +kernel
theorem dX7_sharp_52 : decode cX7_sharp 52 = .ok (.isub, 1) := by decide +kernel
theorem dX7_sharp_53 : decode cX7_sharp 53 = .ok (.invokestatic 118, 3) := by decide +kernel
theorem dX7_sharp_56 : decode cX7_sharp 56 = .ok (.goto 7, 3) := by decide +kernel
theorem dX7_sharp_59 : decode cX7_sharp 59 = .ok (.aload_n 0, 1) := by decide +kernel
theorem dX7_sharp_60 : decode cX7_sharp 60 = .ok (.getfield 65, 3) := by decide +kernel
theorem dX7_sharp_63 : decode cX7_sharp 63 = .ok (.aload_n 0, 1) := by decide +kernel
theorem dX7_sharp_64 : decode cX7_sharp 64 = .ok (.getfield 69, 3) := by decide +kernel
theorem dX7_sharp_67 : decode cX7_sharp 67 = .ok (.imul, 1) := by decide +kernel
theorem dX7_sharp_68 : decode cX7_sharp 68 = .ok (.bipush 20, 2) := by decide +kernel
theorem dX7_sharp_70 : decode cX7_sharp 70 = .ok (.idiv, 1) := by decide +kernel
theorem dX7_sharp_71 : decode cX7_sharp 71 = .ok (.istore_n 3, 1) := by decide +kernel
theorem dX7_sharp_72 : decode cX7_sharp 72 = .ok (.aload_n 0, 1) := by decide +kernel
theorem dX7_sharp_73 : decode cX7_sharp 73 = .ok (.getfield 23, 3) := by decide +kernel
theorem dX7_sharp_76 : decode cX7_sharp 76 = .ok (.iload_n 1, 1) := by decide +kernel
theorem dX7_sharp_77 : decode cX7_sharp 77 = .ok (.iaload, 1) := by decide +kernel
theorem dX7_sharp_78 : decode cX7_sharp 78 = .ok (.iconst 1, 1) := by decide +kernel
theorem dX7_sharp_79 : decode cX7_sharp 79 = .ok (.if_icmp .eq 13, 3) := by decide +kernel
theorem dX7_sharp_82 : decode cX7_sharp 82 = .ok (.aload_n 0, 1) := by decide +kernel
theorem dX7_sharp_83 : decode cX7_sharp 83 = .ok (.getfield 23, 3) := by decide +kernel
theorem dX7_sharp_86 : decode cX7_sharp 86 = .ok (.iload_n 1, 1) := by decide +kernel
theorem dX7_sharp_87 : decode cX7_sharp 87 = .ok (.iaload, 1) := by decide +kernel
theorem dX7_sharp_88 : decode cX7_sharp 88 = .ok (.iconst 5, 1) := by decide +kernel
theorem dX7_sharp_89 : decode cX7_sharp 89 = .ok (.if_icmp .ne 18, 3) := by decide +kernel
theorem dX7_sharp_92 : decode cX7_sharp 92 = .ok (.iload_n 3, 1) := by decide +kernel
theorem dX7_sharp_93 : decode cX7_sharp 93 = .ok (.ifCond .le 14, 3) := by decide +kernel
theorem dX7_sharp_96 : decode cX7_sharp 96 = .ok (.iload_n 3, 1) := by decide +kernel
theorem dX7_sharp_97 : decode cX7_sharp 97 = .ok (.aload_n 0, 1) := by decide +kernel
theorem dX7_sharp_98 : decode cX7_sharp 98 = .ok (.getfield 29, 3) := by decide +kernel
theorem dX7_sharp_101 : decode cX7_sharp 101 = .ok (.iload_n 1, 1) := by decide +kernel
theorem dX7_sharp_102 : decode cX7_sharp 102 = .ok (.iaload, 1) := by decide +kernel
theorem dX7_sharp_103 : decode cX7_sharp 103 = .ok (.iadd, 1) := by decide +kernel
theorem dX7_sharp_104 : decode cX7_sharp 104 = .ok (.goto 4, 3) := by decide +kernel
theorem dX7_sharp_107 : decode cX7_sharp 107 = .ok (.iload_n 3, 1) := by decide +kernel
theorem dX7_sharp_108 : decode cX7_sharp 108 = .ok (.ireturn, 1) := by decide +kernel
theorem dX7_pattern_0 : decode cX7_pattern 0 = .ok (.iload_n 2, 1) := by decide +kernel
theorem dX7_pattern_1 : decode cX7_pattern 1 = .ok (.iconst (-1), 1) := by decide +kernel
theorem dX7_pattern_2 : decode cX7_pattern 2 = .ok (.if_icmp .ne 7, 3) := by decide +kernel
theorem dX7_pattern_5 : decode cX7_pattern 5 = .ok (.iconst 0, 1) := by decide +kernel
theorem dX7_pattern_6 : decode cX7_pattern 6 = .ok (.goto 9, 3) := by decide +kernel
theorem dX7_pattern_9 : decode cX7_pattern 9 = .ok (.aload_n 0, 1) := by decide +kernel
theorem dX7_pattern_10 : decode cX7_pattern 10 = .ok (.getfield 20, 3) := by decide +kernel
theorem dX7_pattern_13 : decode cX7_pattern 13 = .ok (.iload_n 2, 1) := by decide +kernel
theorem dX7_pattern_14 : decode cX7_pattern 14 = .ok (.iaload, 1) := by decide +kernel
theorem dX7_pattern_15 : decode cX7_pattern 15 = .ok (.istore_n 3, 1) := by decide +kernel
theorem dX7_pattern_16 : decode cX7_pattern 16 = .ok (.aload_n 0, 1) := by decide +kernel
theorem dX7_pattern_17 : decode cX7_pattern 17 = .ok (.getfield 23, 3) := by decide +kernel
theorem dX7_pattern_20 : decode cX7_pattern 20 = .ok (.iload_n 1, 1) := by decide +kernel
theorem dX7_pattern_21 : decode cX7_pattern 21 = .ok (.iaload, 1) := by decide +kernel
theorem dX7_pattern_22 : decode cX7_pattern 22 = .ok (.iconst 5, 1) := by decide +kernel
theorem dX7_pattern_23 : decode cX7_pattern 23 = .ok (.if_icmp .ne 19, 3) := by decide +kernel
theorem dX7_pattern_26 : decode cX7_pattern 26 = .ok (.iload_n 3, 1) := by decide +kernel
theorem dX7_pattern_27 : decode cX7_pattern 27 = .ok (.bipush 15, 2) := by decide +kernel
theorem dX7_pattern_29 : decode cX7_pattern 29 = .ok (.iconst 4, 1) := by decide +kernel
theorem dX7_pattern_30 : decode cX7_pattern 30 = .ok (.aload_n 0, 1) := by decide +kernel
theorem dX7_pattern_31 : decode cX7_pattern 31 = .ok (.getfield 29, 3) := by decide +kernel
theorem dX7_pattern_34 : decode cX7_pattern 34 = .ok (.iload_n 1, 1) := by decide +kernel
theorem dX7_pattern_35 : decode cX7_pattern 35 = .ok (.iaload, 1) := by decide +kernel
theorem dX7_pattern_36 : decode cX7_pattern 36 = .ok (.iconst 4, 1) := by decide +kernel
theorem dX7_pattern_37 : decode cX7_pattern 37 = .ok (.irem, 1) := by decide +kernel
theorem dX7_pattern_38 : decode cX7_pattern 38 = .ok (.imul, 1) := by decide +kernel
theorem dX7_pattern_39 : decode cX7_pattern 39 = .ok (.ishl, 1) := by decide +kernel
theorem dX7_pattern_40 : decode cX7_pattern 40 = .ok (.ior, 1) := by decide +kernel
theorem dX7_pattern_41 : decode cX7_pattern 41 = .ok (.istore_n 3, 1) := by decide +kernel
theorem dX7_pattern_42 : decode cX7_pattern 42 = .ok (.aload_n 0, 1) := by decide +kernel
theorem dX7_pattern_43 : decode cX7_pattern 43 = .ok (.getfield 23, 3) := by decide +kernel
theorem dX7_pattern_46 : decode cX7_pattern 46 = .ok (.iload_n 1, 1) := by decide +kernel
theorem dX7_pattern_47 : decode cX7_pattern 47 = .ok (.iaload, 1) := by decide +kernel
theorem dX7_pattern_48 : decode cX7_pattern 48 = .ok (.bipush 6, 2) := by decide +kernel
theorem dX7_pattern_50 : decode cX7_pattern 50 = .ok (.if_icmp .ne 11, 3) := by decide +kernel
theorem dX7_pattern_53 : decode cX7_pattern 53 = .ok (.iload_n 3, 1) := by decide +kernel
theorem dX7_pattern_54 : decode cX7_pattern 54 = .ok (.sipush 4095, 3) := by decide +kernel
theorem dX7_pattern_57 : decode cX7_pattern 57 = .ok (.iand, 1) := by decide +kernel
theorem dX7_pattern_58 : decode cX7_pattern 58 = .ok (.goto 4, 3) := by decide +kernel
theorem dX7_pattern_61 : decode cX7_pattern 61 = .ok (.iload_n 3, 1) := by decide +kernel
theorem dX7_pattern_62 : decode cX7_pattern 62 = .ok (.ireturn, 1) := by decide +kernel
theorem dX7_freeze_0 : decode cX7_freeze 0 = .ok (.aload_n 0, 1) := by decide +kernel
theorem dX7_freeze_1 : decode cX7_freeze 1 = .ok (.iload_n 1, 1) := by decide +kernel
theorem dX7_freeze_2 : decode cX7_freeze 2 = .ok (.iload_n 2, 1) := by decide +kernel
theorem dX7_freeze_3 : decode cX7_freeze 3 = .ok (.invokevirtual 182, 3) := by decide +kernel
theorem dX7_freeze_6 : decode cX7_freeze 6 = .ok (.istore_n 3, 1) := by decide +kernel
theorem dX7_freeze_7 : decode cX7_freeze 7 = .ok (.bipush 20, 2) := by decide +kernel
theorem dX7_freeze_9 : decode cX7_freeze 9 = .ok (.aload_n 0, 1) := by decide +kernel
theorem dX7_freeze_10 : decode cX7_freeze 10 = .ok (.iload_n 1, 1) := by decide +kernel
theorem dX7_freeze_11 : decode cX7_freeze 11 = .ok (.invokevirtual 115, 3) := by decide +kernel
theorem dX7_freeze_14 : decode cX7_freeze 14 = .ok (.invokestatic 185, 3) := by decide +kernel
theorem dX7_freeze_17 : decode cX7_freeze 17 = .ok (.istore 4, 2) := by decide +kernel
theorem dX7_freeze_19 : decode cX7_freeze 19 = .ok (.iconst 0, 1) := by decide +kernel
theorem dX7_freeze_20 : decode cX7_freeze 20 = .ok (.istore 5, 2) := by decide +kernel
theorem dX7_freeze_22 : decode cX7_freeze 22 = .ok (.iload 5, 2) := by decide +kernel
theorem dX7_freeze_24 : decode cX7_freeze 24 = .ok (.bipush 16, 2) := by decide +kernel
theorem dX7_freeze_26 : decode cX7_freeze 26 = .ok (.if_icmp .ge 185, 3) := by decide +kernel
theorem dX7_freeze_29 : decode cX7_freeze 29 = .ok (.iconst 0, 1) := by decide +kernel
theorem dX7_freeze_30 : decode cX7_freeze 30 = .ok (.istore 6, 2) := by decide +kernel
theorem dX7_freeze_32 : decode cX7_freeze 32 = .ok (.iload 5, 2) := by decide +kernel
theorem dX7_freeze_34 : decode cX7_freeze 34 = .ok (.iconst 3, 1) := by decide +kernel
theorem dX7_freeze_35 : decode cX7_freeze 35 = .ok (.if_icmp .le 16, 3) := by decide +kernel
theorem dX7_freeze_38 : decode cX7_freeze 38 = .ok (.iload 6, 2) := by decide +kernel
theorem dX7_freeze_40 : decode cX7_freeze 40 = .ok (.iload_n 3, 1) := by decide +kernel
theorem dX7_freeze_41 : decode cX7_freeze 41 = .ok (.iload 5, 2) := by decide +kernel
theorem dX7_freeze_43 : decode cX7_freeze 43 = .ok (.iconst 4, 1) := by decide +kernel
theorem dX7_freeze_44 : decode cX7_freeze 44 = .ok (.isub, 1) := by decide +kernel
theorem dX7_freeze_45 : decode cX7_freeze 45 = .ok (.ishr, 1) := by decide +kernel
theorem dX7_freeze_46 : decode cX7_freeze 46 = .ok (.iconst 1, 1) := by decide +kernel
theorem dX7_freeze_47 : decode cX7_freeze 47 = .ok (.iand, 1) := by decide +kernel
theorem dX7_freeze_48 : decode cX7_freeze 48 = .ok (.iadd, 1) := by decide +kernel
theorem dX7_freeze_49 : decode cX7_freeze 49 = .ok (.istore 6, 2) := by decide +kernel
theorem dX7_freeze_51 : decode cX7_freeze 51 = .ok (.iload 5, 2) := by decide +kernel
theorem dX7_freeze_53 : decode cX7_freeze 53 = .ok (.bipush 12, 2) := by decide +kernel
theorem dX7_freeze_55 : decode cX7_freeze 55 = .ok (.if_icmp .ge 16, 3) := by decide +kernel
theorem dX7_freeze_58 : decode cX7_freeze 58 = .ok (.iload 6, 2) := by decide +kernel
theorem dX7_freeze_60 : decode cX7_freeze 60 = .ok (.iload_n 3, 1) := by decide +kernel
theorem dX7_freeze_61 : decode cX7_freeze 61 = .ok (.iload 5, 2) := by decide +kernel
theorem dX7_freeze_63 : decode cX7_freeze 63 = .ok (.iconst 4, 1) := by decide +kernel
theorem dX7_freeze_64 : decode cX7_freeze 64 = .ok (.iadd, 1) := by decide +kernel
theorem dX7_freeze_65 : decode cX7_freeze 65 = .ok (.ishr, 1) := by decide +kernel
theorem dX7_freeze_66 : decode cX7_freeze 66 = .ok (.iconst 1, 1) := by decide +kernel
theorem dX7_freeze_67 : decode cX7_freeze 67 = .ok (.iand, 1) := by decide +kernel
theorem dX7_freeze_68 : decode cX7_freeze 68 = .ok (.iadd, 1) := by decide +kernel
theorem dX7_freeze_69 : decode cX7_freeze 69 = .ok (.istore 6, 2) := by decide +kernel
theorem dX7_freeze_71 : decode cX7_freeze 71 = .ok (.iload 5, 2) := by decide +kernel
theorem dX7_freeze_73 : decode cX7_freeze 73 = .ok (.iconst 4, 1) := by decide +kernel
theorem dX7_freeze_74 : decode cX7_freeze 74 = .ok (.irem, 1) := by decide +kernel
theorem dX7_freeze_75 : decode cX7_freeze 75 = .ok (.ifCond .le 16, 3) := by decide +kernel
theorem dX7_freeze_78 : decode cX7_freeze 78 = .ok (.iload 6, 2) := by decide +kernel
theorem dX7_freeze_80 : decode cX7_freeze 80 = .ok (.iload_n 3, 1) := by decide +kernel
theorem dX7_freeze_81 : decode cX7_freeze 81 = .ok (.iload 5, 2) := by decide +kernel
theorem dX7_freeze_83 : decode cX7_freeze 83 = .ok (.iconst 1, 1) := by decide +kernel
theorem dX7_freeze_84 : decode cX7_freeze 84 = .ok (.isub, 1) := by decide +kernel
theorem dX7_freeze_85 : decode cX7_freeze 85 = .ok (.ishr, 1) := by decide +kernel
theorem dX7_freeze_86 : decode cX7_freeze 86 = .ok (.iconst 1, 1) := by decide +kernel
theorem dX7_freeze_87 : decode cX7_freeze 87 = .ok (.iand, 1) := by decide +kernel
theorem dX7_freeze_88 : decode cX7_freeze 88 = .ok (.iadd, 1) := by decide +kernel
theorem dX7_freeze_89 : decode cX7_freeze 89 = .ok (.istore 6, 2) := by decide +kernel
theorem dX7_freeze_91 : decode cX7_freeze 91 = .ok (.iload 5, 2) := by decide +kernel
theorem dX7_freeze_93 : decode cX7_freeze 93 = .ok (.iconst 4, 1) := by decide +kernel
theorem dX7_freeze_94 : decode cX7_freeze 94 = .ok (.irem, 1) := by decide +kernel
theorem dX7_freeze_95 : decode cX7_freeze 95 = .ok (.iconst 3, 1) := by decide +kernel
theorem dX7_freeze_96 : decode cX7_freeze 96 = .ok (.if_icmp .ge 16, 3) := by decide +kernel
theorem dX7_freeze_99 : decode cX7_freeze 99 = .ok (.iload 6, 2) := by decide +kernel
theorem dX7_freeze_101 : decode cX7_freeze 101 = .ok (.iload_n 3, 1) := by decide +kernel
theorem dX7_freeze_102 : decode cX7_freeze 102 = .ok (.iload 5, 2) := by decide +kernel
theorem dX7_freeze_104 : decode cX7_freeze 104 = .ok (.iconst 1, 1) := by decide +kernel
theorem dX7_freeze_105 : decode cX7_freeze 105 = .ok (.iadd, 1) := by decide +kernel
theorem dX7_freeze_106 : decode cX7_freeze 106 = .ok (.ishr, 1) := by decide +kernel
theorem dX7_freeze_107 : decode cX7_freeze 107 = .ok (.iconst 1, 1) := by decide +kernel
theorem dX7_freeze_108 : decode cX7_freeze 108 = .ok (.iand, 1) := by decide +kernel
theorem dX7_freeze_109 : decode cX7_freeze 109 = .ok (.iadd, 1) := by decide +kernel
theorem dX7_freeze_110 : decode cX7_freeze 110 = .ok (.istore 6, 2) := by decide +kernel
theorem dX7_freeze_112 : decode cX7_freeze 112 = .ok (.aload_n 0, 1) := by decide +kernel
theorem dX7_freeze_113 : decode cX7_freeze 113 = .ok (.getfield 69, 3) := by decide +kernel
theorem dX7_freeze_116 : decode cX7_freeze 116 = .ok (.iconst 5, 1) := by decide +kernel
theorem dX7_freeze_117 : decode cX7_freeze 117 = .ok (.if_icmp .le 31, 3) := by decide +kernel
theorem dX7_freeze_120 : decode cX7_freeze 120 = .ok (.iload 6, 2) := by decide +kernel
theorem dX7_freeze_122 : decode cX7_freeze 122 = .ok (.iconst 2, 1) := by decide +kernel
theorem dX7_freeze_123 : decode cX7_freeze 123 = .ok (.if_icmp .le 25, 3) := by decide +kernel
theorem dX7_freeze_126 : decode cX7_freeze 126 = .ok (.aload_n 0, 1) := by decide +kernel
theorem dX7_freeze_127 : decode cX7_freeze 127 = .ok (.getfield 23, 3) := by decide +kernel
theorem dX7_freeze_130 : decode cX7_freeze 130 = .ok (.iload_n 1, 1) := by decide +kernel
theorem dX7_freeze_131 : decode cX7_freeze 131 = .ok (.iaload, 1) := by decide +kernel
theorem dX7_freeze_132 : decode cX7_freeze 132 = .ok (.bipush 6, 2) := by decide +kernel
theorem dX7_freeze_134 : decode cX7_freeze 134 = .ok (.if_icmp .ne 10, 3) := by decide +kernel
theorem dX7_freeze_137 : decode cX7_freeze 137 = .ok (.iload 5, 2) := by decide +kernel
theorem dX7_freeze_139 : decode cX7_freeze 139 = .ok (.bipush 12, 2) := by decide +kernel
theorem dX7_freeze_141 : decode cX7_freeze 141 = .ok (.if_icmp .ge 7, 3) := by decide +kernel
theorem dX7_freeze_144 : decode cX7_freeze 144 = .ok (.iconst 1, 1) := by decide +kernel
theorem dX7_freeze_145 : decode cX7_freeze 145 = .ok (.goto 4, 3) := by decide +kernel
theorem dX7_freeze_148 : decode cX7_freeze 148 = .ok (.iconst 0, 1) := by decide +kernel
theorem dX7_freeze_149 : decode cX7_freeze 149 = .ok (.istore 7, 2) := by decide +kernel
theorem dX7_freeze_151 : decode cX7_freeze 151 = .ok (.aload_n 0, 1) := by decide +kernel
theorem dX7_freeze_152 : decode cX7_freeze 152 = .ok (.getfield 50, 3) := by decide +kernel
theorem dX7_freeze_155 : decode cX7_freeze 155 = .ok (.iload 5, 2) := by decide +kernel
theorem dX7_freeze_157 : decode cX7_freeze 157 = .ok (.aload_n 0, 1) := by decide +kernel
theorem dX7_freeze_158 : decode cX7_freeze 158 = .ok (.getfield 35, 3) := by decide +kernel
theorem dX7_freeze_161 : decode cX7_freeze 161 = .ok (.iload_n 1, 1) := by decide +kernel
theorem dX7_freeze_162 : decode cX7_freeze 162 = .ok (.iaload, 1) := by decide +kernel
theorem dX7_freeze_163 : decode cX7_freeze 163 = .ok (.iload 5, 2) := by decide +kernel
theorem dX7_freeze_165 : decode cX7_freeze 165 = .ok (.ishr, 1) := by decide +kernel
theorem dX7_freeze_166 : decode cX7_freeze 166 = .ok (.iconst 1, 1) := by decide +kernel
theorem dX7_freeze_167 : decode cX7_freeze 167 = .ok (.iand, 1) := by decide +kernel
theorem dX7_freeze_168 : decode cX7_freeze 168 = .ok (.iconst 1, 1) := by decide +kernel
theorem dX7_freeze_169 : decode cX7_freeze 169 = .ok (.if_icmp .ne 7, 3) := by decide +kernel
theorem dX7_freeze_172 : decode cX7_freeze 172 = .ok (.iconst 0, 1) := by decide +kernel
theorem dX7_freeze_173 : decode cX7_freeze 173 = .ok (.goto 31, 3) := by decide +kernel
theorem dX7_freeze_176 : decode cX7_freeze 176 = .ok (.iload_n 3, 1) := by decide +kernel
theorem dX7_freeze_177 : decode cX7_freeze 177 = .ok (.iload 5, 2) := by decide +kernel
theorem dX7_freeze_179 : decode cX7_freeze 179 = .ok (.ishr, 1) := by decide +kernel
theorem dX7_freeze_180 : decode cX7_freeze 180 = .ok (.iconst 1, 1) := by decide +kernel
theorem dX7_freeze_181 : decode cX7_freeze 181 = .ok (.iand, 1) := by decide +kernel
theorem dX7_freeze_182 : decode cX7_freeze 182 = .ok (.iconst 1, 1) := by decide +kernel
theorem dX7_freeze_183 : decode cX7_freeze 183 = .ok (.if_icmp .ne 8, 3) := by decide +kernel
theorem dX7_freeze_186 : decode cX7_freeze 186 = .ok (.iload 4, 2) := by decide +kernel
theorem dX7_freeze_188 : decode cX7_freeze 188 = .ok (.goto 16, 3) := by decide +kernel
theorem dX7_freeze_191 : decode cX7_freeze 191 = .ok (.iload 7, 2) := by decide +kernel
theorem dX7_freeze_193 : decode cX7_freeze 193 = .ok (.ifCond .eq 10, 3) := by decide +kernel
theorem dX7_freeze_196 : decode cX7_freeze 196 = .ok (.iload 4, 2) := by decide +kernel
theorem dX7_freeze_198 : decode cX7_freeze 198 = .ok (.iconst 2, 1) := by decide +kernel
theorem dX7_freeze_199 : decode cX7_freeze 199 = .ok (.idiv, 1) := by decide +kernel
theorem dX7_freeze_200 : decode cX7_freeze 200 = .ok (.goto 4, 3) := by decide +kernel
theorem dX7_freeze_203 : decode cX7_freeze 203 = .ok (.iconst 0, 1) := by decide +kernel
theorem dX7_freeze_204 : decode cX7_freeze 204 = .ok (.iastore, 1) := by decide +kernel
theorem dX7_freeze_205 : decode cX7_freeze 205 = .ok (.iinc 5 1, 3) := by decide +kernel
theorem dX7_freeze_208 : decode cX7_freeze 208 = .ok (.goto (-186), 3) := by decide +kernel
theorem dX7_freeze_211 : decode cX7_freeze 211 = .ok (.return_, 1) := by decide +kernel
theorem dX7_melts_0 : decode cX7_melts 0 = .ok (.aload_n 0, 1) := by decide +kernel
theorem dX7_melts_1 : decode cX7_melts 1 = .ok (.getfield 72, 3) := by decide +kernel
theorem dX7_melts_4 : decode cX7_melts 4 = .ok (.aload_n 0, 1) := by decide +kernel
theorem dX7_melts_5 : decode cX7_melts 5 = .ok (.getfield 23, 3) := by decide +kernel
theorem dX7_melts_8 : decode cX7_melts 8 = .ok (.iload_n 1, 1) := by decide +kernel
theorem dX7_melts_9 : decode cX7_melts 9 = .ok (.iaload, 1) := by decide +kernel
theorem dX7_melts_10 : decode cX7_melts 10 = .ok (.iconst 3, 1) := by decide +kernel
theorem dX7_melts_11 : decode cX7_melts 11 = .ok (.if_icmp .eq 14, 3) := by decide +kernel
theorem dX7_melts_14 : decode cX7_melts 14 = .ok (.aload_n 0, 1) := by decide +kernel
theorem dX7_melts_15 : decode cX7_melts 15 = .ok (.getfield 23, 3) := by decide +kernel
theorem dX7_melts_18 : decode cX7_melts 18 = .ok (.iload_n 1, 1) := by decide +kernel
theorem dX7_melts_19 : decode cX7_melts 19 = .ok (.iaload, 1) := by decide +kernel
theorem dX7_melts_20 : decode cX7_melts 20 = .ok (.bipush 6, 2) := by decide +kernel
theorem dX7_melts_22 : decode cX7_melts 22 = .ok (.if_icmp .ne 12, 3) := by decide +kernel
theorem dX7_melts_25 : decode cX7_melts 25 = .ok (.aload_n 0, 1) := by decide +kernel
theorem dX7_melts_26 : decode cX7_melts 26 = .ok (.getfield 26, 3) := by decide +kernel
theorem dX7_melts_29 : decode cX7_melts 29 = .ok (.iload_n 1, 1) := by decide +kernel
theorem dX7_melts_30 : decode cX7_melts 30 = .ok (.iaload, 1) := by decide +kernel
theorem dX7_melts_31 : decode cX7_melts 31 = .ok (.goto 11, 3) := by decide +kernel
theorem dX7_melts_34 : decode cX7_melts 34 = .ok (.aload_n 0, 1) := by decide +kernel
theorem dX7_melts_35 : decode cX7_melts 35 = .ok (.getfield 26, 3) := by decide +kernel
theorem dX7_melts_38 : decode cX7_melts 38 = .ok (.iload_n 1, 1) := by decide +kernel
theorem dX7_melts_39 : decode cX7_melts 39 = .ok (.iaload, 1) := by decide +kernel
theorem dX7_melts_40 : decode cX7_melts 40 = .ok (.iconst 3, 1) := by decide +kernel
theorem dX7_melts_41 : decode cX7_melts 41 = .ok (.idiv, 1) := by decide +kernel
theorem dX7_melts_42 : decode cX7_melts 42 = .ok (.iadd, 1) := by decide +kernel
theorem dX7_melts_43 : decode cX7_melts 43 = .ok (.istore_n 3, 1) := by decide +kernel
theorem dX7_melts_44 : decode cX7_melts 44 = .ok (.aload_n 0, 1) := by decide +kernel
theorem dX7_melts_45 : decode cX7_melts 45 = .ok (.getfield 23, 3) := by decide +kernel
theorem dX7_melts_48 : decode cX7_melts 48 = .ok (.iload_n 1, 1) := by decide +kernel
theorem dX7_melts_49 : decode cX7_melts 49 = .ok (.iaload, 1) := by decide +kernel
theorem dX7_melts_50 : decode cX7_melts 50 = .ok (.iconst 4, 1) := by decide +kernel
theorem dX7_melts_51 : decode cX7_melts 51 = .ok (.if_icmp .ne 19, 3) := by decide +kernel
theorem dX7_melts_54 : decode cX7_melts 54 = .ok (.iload_n 2, 1) := by decide +kernel
theorem dX7_melts_55 : decode cX7_melts 55 = .ok (.aload_n 0, 1) := by decide +kernel
theorem dX7_melts_56 : decode cX7_melts 56 = .ok (.getfield 29, 3) := by decide +kernel
theorem dX7_melts_59 : decode cX7_melts 59 = .ok (.iload_n 1, 1) := by decide +kernel
theorem dX7_melts_60 : decode cX7_melts 60 = .ok (.iaload, 1) := by decide +kernel
theorem dX7_melts_61 : decode cX7_melts 61 = .ok (.if_icmp .lt 9, 3) := by decide +kernel
theorem dX7_melts_64 : decode cX7_melts 64 = .ok (.iload_n 3, 1) := by decide +kernel
theorem dX7_melts_65 : decode cX7_melts 65 = .ok (.iconst 3, 1) := by decide +kernel
theorem dX7_melts_66 : decode cX7_melts 66 = .ok (.iadd, 1) := by decide +kernel
theorem dX7_melts_67 : decode cX7_melts 67 = .ok (.goto 4, 3) := by decide +kernel
theorem dX7_melts_70 : decode cX7_melts 70 = .ok (.iload_n 3, 1) := by decide +kernel
theorem dX7_melts_71 : decode cX7_melts 71 = .ok (.ireturn, 1) := by decide +kernel
theorem dX7_melting_0 : decode cX7_melting 0 = .ok (.aload_n 0, 1) := by decide +kernel
theorem dX7_melting_1 : decode cX7_melting 1 = .ok (.iload_n 1, 1) := by decide +kernel
theorem dX7_melting_2 : decode cX7_melting 2 = .ok (.iload_n 2, 1) := by decide +kernel
theorem dX7_melting_3 : decode cX7_melting 3 = .ok (.invokevirtual 124, 3) := by decide +kernel
theorem dX7_melting_6 : decode cX7_melting 6 = .ok (.istore_n 3, 1) := by decide +kernel
theorem dX7_melting_7 : decode cX7_melting 7 = .ok (.iconst 0, 1) := by decide +kernel
theorem dX7_melting_8 : decode cX7_melting 8 = .ok (.istore 4, 2) := by decide +kernel
theorem dX7_melting_10 : decode cX7_melting 10 = .ok (.iload 4, 2) := by decide +kernel
theorem dX7_melting_12 : decode cX7_melting 12 = .ok (.bipush 16, 2) := by decide +kernel
theorem dX7_melting_14 : decode cX7_melting 14 = .ok (.if_icmp .ge 23, 3) := by decide +kernel
theorem dX7_melting_17 : decode cX7_melting 17 = .ok (.aload_n 0, 1) := by decide +kernel
theorem dX7_melting_18 : decode cX7_melting 18 = .ok (.getfield 53, 3) := by decide +kernel
theorem dX7_melting_21 : decode cX7_melting 21 = .ok (.iload 4, 2) := by decide +kernel
theorem dX7_melting_23 : decode cX7_melting 23 = .ok (.aload_n 0, 1) := by decide +kernel
theorem dX7_melting_24 : decode cX7_melting 24 = .ok (.getfield 50, 3) := by decide +kernel
theorem dX7_melting_27 : decode cX7_melting 27 = .ok (.iload 4, 2) := by decide +kernel
theorem dX7_melting_29 : decode cX7_melting 29 = .ok (.iaload, 1) := by decide +kernel
theorem dX7_melting_30 : decode cX7_melting 30 = .ok (.iastore, 1) := by decide +kernel
theorem dX7_melting_31 : decode cX7_melting 31 = .ok (.iinc 4 1, 3) := by decide +kernel
theorem dX7_melting_34 : decode cX7_melting 34 = .ok (.goto (-24), 3) := by decide +kernel
theorem dX7_melting_37 : decode cX7_melting 37 = .ok (.iconst 0, 1) := by decide +kernel
theorem dX7_melting_38 : decode cX7_melting 38 = .ok (.istore 4, 2) := by decide +kernel
theorem dX7_melting_40 : decode cX7_melting 40 = .ok (.iload 4, 2) := by decide +kernel
theorem dX7_melting_42 : decode cX7_melting 42 = .ok (.bipush 16, 2) := by decide +kernel
theorem dX7_melting_44 : decode cX7_melting 44 = .ok (.if_icmp .ge 90, 3) := by decide +kernel
theorem dX7_melting_47 : decode cX7_melting 47 = .ok (.iload 4, 2) := by decide +kernel
theorem dX7_melting_49 : decode cX7_melting 49 = .ok (.iconst 4, 1) := by decide +kernel
theorem dX7_melting_50 : decode cX7_melting 50 = .ok (.irem, 1) := by decide +kernel
theorem dX7_melting_51 : decode cX7_melting 51 = .ok (.ifCond .eq 35, 3) := by decide +kernel
theorem dX7_melting_54 : decode cX7_melting 54 = .ok (.iload 4, 2) := by decide +kernel
theorem dX7_melting_56 : decode cX7_melting 56 = .ok (.iconst 4, 1) := by decide +kernel
theorem dX7_melting_57 : decode cX7_melting 57 = .ok (.irem, 1) := by decide +kernel
theorem dX7_melting_58 : decode cX7_melting 58 = .ok (.iconst 3, 1) := by decide +kernel
theorem dX7_melting_59 : decode cX7_melting 59 = .ok (.if_icmp .eq 27, 3) := by decide +kernel
theorem dX7_melting_62 : decode cX7_melting 62 = .ok (.aload_n 0, 1) := by decide +kernel
theorem dX7_melting_63 : decode cX7_melting 63 = .ok (.getfield 53, 3) := by decide +kernel
theorem dX7_melting_66 : decode cX7_melting 66 = .ok (.iload 4, 2) := by decide +kernel
theorem dX7_melting_68 : decode cX7_melting 68 = .ok (.iconst 1, 1) := by decide +kernel
theorem dX7_melting_69 : decode cX7_melting 69 = .ok (.isub, 1) := by decide +kernel
theorem dX7_melting_70 : decode cX7_melting 70 = .ok (.iaload, 1) := by decide +kernel
theorem dX7_melting_71 : decode cX7_melting 71 = .ok (.ifCond .eq 15, 3) := by decide +kernel
theorem dX7_melting_74 : decode cX7_melting 74 = .ok (.aload_n 0, 1) := by decide +kernel
theorem dX7_melting_75 : decode cX7_melting 75 = .ok (.getfield 53, 3) := by decide +kernel
theorem dX7_melting_78 : decode cX7_melting 78 = .ok (.iload 4, 2) := by decide +kernel
theorem dX7_melting_80 : decode cX7_melting 80 = .ok (.iconst 1, 1) := by decide +kernel
theorem dX7_melting_81 : decode cX7_melting 81 = .ok (.iadd, 1) := by decide +kernel
theorem dX7_melting_82 : decode cX7_melting 82 = .ok (.iaload, 1) := by decide +kernel
theorem dX7_melting_83 : decode cX7_melting 83 = .ok (.ifCond .ne 7, 3) := by decide +kernel
theorem dX7_melting_86 : decode cX7_melting 86 = .ok (.iconst 1, 1) := by decide +kernel
theorem dX7_melting_87 : decode cX7_melting 87 = .ok (.goto 4, 3) := by decide +kernel
theorem dX7_melting_90 : decode cX7_melting 90 = .ok (.iconst 0, 1) := by decide +kernel
theorem dX7_melting_91 : decode cX7_melting 91 = .ok (.istore 5, 2) := by decide +kernel
theorem dX7_melting_93 : decode cX7_melting 93 = .ok (.aload_n 0, 1) := by decide +kernel
theorem dX7_melting_94 : decode cX7_melting 94 = .ok (.getfield 50, 3) := by decide +kernel
theorem dX7_melting_97 : decode cX7_melting 97 = .ok (.iload 4, 2) := by decide +kernel
theorem dX7_melting_99 : decode cX7_melting 99 = .ok (.iconst 0, 1) := by decide +kernel
theorem dX7_melting_100 : decode cX7_melting 100 = .ok (.aload_n 0, 1) := by decide +kernel
theorem dX7_melting_101 : decode cX7_melting 101 = .ok (.getfield 53, 3) := by decide +kernel
theorem dX7_melting_104 : decode cX7_melting 104 = .ok (.iload 4, 2) := by decide +kernel
theorem dX7_melting_106 : decode cX7_melting 106 = .ok (.iaload, 1) := by decide +kernel
theorem dX7_melting_107 : decode cX7_melting 107 = .ok (.iload_n 3, 1) := by decide +kernel
theorem dX7_melting_108 : decode cX7_melting 108 = .ok (.isub, 1) := by decide +kernel
theorem dX7_melting_109 : decode cX7_melting 109 = .ok (.iload_n 3, 1) := by decide +kernel
theorem dX7_melting_110 : decode cX7_melting 110 = .ok (.ifCond .le 12, 3) := by decide +kernel
theorem dX7_melting_113 : decode cX7_melting 113 = .ok (.iload 5, 2) := by decide +kernel
theorem dX7_melting_115 : decode cX7_melting 115 = .ok (.ifCond .eq 7, 3) := by decide +kernel
theorem dX7_melting_118 : decode cX7_melting 118 = .ok (.iconst 1, 1) := by decide +kernel
theorem dX7_melting_119 : decode cX7_melting 119 = .ok (.goto 4, 3) := by decide +kernel
theorem dX7_melting_122 : decode cX7_melting 122 = .ok (.iconst 0, 1) := by decide +kernel
theorem dX7_melting_123 : decode cX7_melting 123 = .ok (.isub, 1) := by decide +kernel
theorem dX7_melting_124 : decode cX7_melting 124 = .ok (.invokestatic 118, 3) := by decide +kernel
theorem dX7_melting_127 : decode cX7_melting 127 = .ok (.iastore, 1) := by decide +kernel
theorem dX7_melting_128 : decode cX7_melting 128 = .ok (.iinc 4 1, 3) := by decide +kernel
theorem dX7_melting_131 : decode cX7_melting 131 = .ok (.goto (-91), 3) := by decide +kernel
theorem dX7_melting_134 : decode cX7_melting 134 = .ok (.return_, 1) := by decide +kernel
theorem dX7_shapeNow_0 : decode cX7_shapeNow 0 = .ok (.iconst 0, 1) := by decide +kernel
theorem dX7_shapeNow_1 : decode cX7_shapeNow 1 = .ok (.istore_n 1, 1) := by decide +kernel
theorem dX7_shapeNow_2 : decode cX7_shapeNow 2 = .ok (.iconst 0, 1) := by decide +kernel
theorem dX7_shapeNow_3 : decode cX7_shapeNow 3 = .ok (.istore_n 2, 1) := by decide +kernel
theorem dX7_shapeNow_4 : decode cX7_shapeNow 4 = .ok (.iload_n 2, 1) := by decide +kernel
theorem dX7_shapeNow_5 : decode cX7_shapeNow 5 = .ok (.bipush 16, 2) := by decide +kernel
theorem dX7_shapeNow_7 : decode cX7_shapeNow 7 = .ok (.if_icmp .ge 24, 3) := by decide +kernel
theorem dX7_shapeNow_10 : decode cX7_shapeNow 10 = .ok (.aload_n 0, 1) := by decide +kernel
theorem dX7_shapeNow_11 : decode cX7_shapeNow 11 = .ok (.getfield 50, 3) := by decide +kernel
theorem dX7_shapeNow_14 : decode cX7_shapeNow 14 = .ok (.iload_n 2, 1) := by decide +kernel
theorem dX7_shapeNow_15 : decode cX7_shapeNow 15 = .ok (.iaload, 1) := by decide +kernel
theorem dX7_shapeNow_16 : decode cX7_shapeNow 16 = .ok (.ifCond .le 9, 3) := by decide +kernel
theorem dX7_shapeNow_19 : decode cX7_shapeNow 19 = .ok (.iload_n 1, 1) := by decide +kernel
theorem dX7_shapeNow_20 : decode cX7_shapeNow 20 = .ok (.iconst 1, 1) := by decide +kernel
theorem dX7_shapeNow_21 : decode cX7_shapeNow 21 = .ok (.iload_n 2, 1) := by decide +kernel
theorem dX7_shapeNow_22 : decode cX7_shapeNow 22 = .ok (.ishl, 1) := by decide +kernel
theorem dX7_shapeNow_23 : decode cX7_shapeNow 23 = .ok (.ior, 1) := by decide +kernel
theorem dX7_shapeNow_24 : decode cX7_shapeNow 24 = .ok (.istore_n 1, 1) := by decide +kernel
theorem dX7_shapeNow_25 : decode cX7_shapeNow 25 = .ok (.iinc 2 1, 3) := by decide +kernel
theorem dX7_shapeNow_28 : decode cX7_shapeNow 28 = .ok (.goto (-24), 3) := by decide +kernel
theorem dX7_shapeNow_31 : decode cX7_shapeNow 31 = .ok (.iload_n 1, 1) := by decide +kernel
theorem dX7_shapeNow_32 : decode cX7_shapeNow 32 = .ok (.ireturn, 1) := by decide +kernel
theorem dX7_shapeAt_0 : decode cX7_shapeAt 0 = .ok (.aload_n 0, 1) := by decide +kernel
theorem dX7_shapeAt_1 : decode cX7_shapeAt 1 = .ok (.iload_n 1, 1) := by decide +kernel
theorem dX7_shapeAt_2 : decode cX7_shapeAt 2 = .ok (.iload_n 2, 1) := by decide +kernel
theorem dX7_shapeAt_3 : decode cX7_shapeAt 3 = .ok (.invokevirtual 188, 3) := by decide +kernel
theorem dX7_shapeAt_6 : decode cX7_shapeAt 6 = .ok (.iconst 0, 1) := by decide +kernel
theorem dX7_shapeAt_7 : decode cX7_shapeAt 7 = .ok (.istore 4, 2) := by decide +kernel
theorem dX7_shapeAt_9 : decode cX7_shapeAt 9 = .ok (.iload 4, 2) := by decide +kernel
theorem dX7_shapeAt_11 : decode cX7_shapeAt 11 = .ok (.iload_n 3, 1) := by decide +kernel
theorem dX7_shapeAt_12 : decode cX7_shapeAt 12 = .ok (.if_icmp .ge 16, 3) := by decide +kernel
theorem dX7_shapeAt_15 : decode cX7_shapeAt 15 = .ok (.aload_n 0, 1) := by decide +kernel
theorem dX7_shapeAt_16 : decode cX7_shapeAt 16 = .ok (.iload_n 1, 1) := by decide +kernel
theorem dX7_shapeAt_17 : decode cX7_shapeAt 17 = .ok (.iload 4, 2) := by decide +kernel
theorem dX7_shapeAt_19 : decode cX7_shapeAt 19 = .ok (.invokevirtual 192, 3) := by decide +kernel
theorem dX7_shapeAt_22 : decode cX7_shapeAt 22 = .ok (.iinc 4 1, 3) := by decide +kernel
theorem dX7_shapeAt_25 : decode cX7_shapeAt 25 = .ok (.goto (-16), 3) := by decide +kernel
theorem dX7_shapeAt_28 : decode cX7_shapeAt 28 = .ok (.aload_n 0, 1) := by decide +kernel
theorem dX7_shapeAt_29 : decode cX7_shapeAt 29 = .ok (.invokevirtual 195, 3) := by decide +kernel
theorem dX7_shapeAt_32 : decode cX7_shapeAt 32 = .ok (.ireturn, 1) := by decide +kernel
theorem dX7_read_0 : decode cX7_read 0 = .ok (.iconst (-1), 1) := by decide +kernel
theorem dX7_read_1 : decode cX7_read 1 = .ok (.istore_n 2, 1) := by decide +kernel
theorem dX7_read_2 : decode cX7_read 2 = .ok (.iconst 5, 1) := by decide +kernel
theorem dX7_read_3 : decode cX7_read 3 = .ok (.istore_n 3, 1) := by decide +kernel
theorem dX7_read_4 : decode cX7_read 4 = .ok (.iconst 0, 1) := by decide +kernel
theorem dX7_read_5 : decode cX7_read 5 = .ok (.istore 4, 2) := by decide +kernel
theorem dX7_read_7 : decode cX7_read 7 = .ok (.iload 4, 2) := by decide +kernel
theorem dX7_read_9 : decode cX7_read 9 = .ok (.aload_n 0, 1) := by decide +kernel
theorem dX7_read_10 : decode cX7_read 10 = .ok (.getfield 91, 3) := by decide +kernel
theorem dX7_read_13 : decode cX7_read 13 = .ok (.if_icmp .ge 46, 3) := by decide +kernel
theorem dX7_read_16 : decode cX7_read 16 = .ok (.iload_n 1, 1) := by decide +kernel
theorem dX7_read_17 : decode cX7_read 17 = .ok (.aload_n 0, 1) := by decide +kernel
theorem dX7_read_18 : decode cX7_read 18 = .ok (.getfield 20, 3) := by decide +kernel
theorem dX7_read_21 : decode cX7_read 21 = .ok (.iload 4, 2) := by decide +kernel
theorem dX7_read_23 : decode cX7_read 23 = .ok (.iaload, 1) := by decide +kernel
theorem dX7_read_24 : decode cX7_read 24 = .ok (.ixor, 1) := by decide +kernel
theorem dX7_read_25 : decode cX7_read 25 = .ok (.invokestatic 198, 3) := by decide +kernel
theorem dX7_read_28 : decode cX7_read 28 = .ok (.istore 5, 2) := by decide +kernel
theorem dX7_read_30 : decode cX7_read 30 = .ok (.iload 5, 2) := by decide +kernel
theorem dX7_read_32 : decode cX7_read 32 = .ok (.iload_n 3, 1) := by decide +kernel
theorem dX7_read_33 : decode cX7_read 33 = .ok (.if_icmp .ne 5, 3) := by decide +kernel
theorem dX7_read_36 : decode cX7_read 36 = .ok (.iconst (-1), 1) := by decide +kernel
theorem dX7_read_37 : decode cX7_read 37 = .ok (.istore_n 2, 1) := by decide +kernel
theorem dX7_read_38 : decode cX7_read 38 = .ok (.iload 5, 2) := by decide +kernel
theorem dX7_read_40 : decode cX7_read 40 = .ok (.iload_n 3, 1) := by decide +kernel
theorem dX7_read_41 : decode cX7_read 41 = .ok (.if_icmp .lt 6, 3) := by decide +kernel
theorem dX7_read_44 : decode cX7_read 44 = .ok (.goto 9, 3) := by decide +kernel
theorem dX7_read_47 : decode cX7_read 47 = .ok (.iload 5, 2) := by decide +kernel
theorem dX7_read_49 : decode cX7_read 49 = .ok (.istore_n 3, 1) := by decide +kernel
theorem dX7_read_50 : decode cX7_read 50 = .ok (.iload 4, 2) := by decide +kernel
theorem dX7_read_52 : decode cX7_read 52 = .ok (.istore_n 2, 1) := by decide +kernel
theorem dX7_read_53 : decode cX7_read 53 = .ok (.iinc 4 1, 3) := by decide +kernel
theorem dX7_read_56 : decode cX7_read 56 = .ok (.goto (-49), 3) := by decide +kernel
theorem dX7_read_59 : decode cX7_read 59 = .ok (.iload_n 2, 1) := by decide +kernel
theorem dX7_read_60 : decode cX7_read 60 = .ok (.ireturn, 1) := by decide +kernel
theorem dX7_readAt_0 : decode cX7_readAt 0 = .ok (.aload_n 0, 1) := by decide +kernel
theorem dX7_readAt_1 : decode cX7_readAt 1 = .ok (.aload_n 0, 1) := by decide +kernel
theorem dX7_readAt_2 : decode cX7_readAt 2 = .ok (.iload_n 1, 1) := by decide +kernel
theorem dX7_readAt_3 : decode cX7_readAt 3 = .ok (.iload_n 2, 1) := by decide +kernel
theorem dX7_readAt_4 : decode cX7_readAt 4 = .ok (.iload_n 3, 1) := by decide +kernel
theorem dX7_readAt_5 : decode cX7_readAt 5 = .ok (.invokevirtual 203, 3) := by decide +kernel
theorem dX7_readAt_8 : decode cX7_readAt 8 = .ok (.invokevirtual 206, 3) := by decide +kernel
theorem dX7_readAt_11 : decode cX7_readAt 11 = .ok (.ireturn, 1) := by decide +kernel
theorem dX7_melt_0 : decode cX7_melt 0 = .ok (.aload_n 0, 1) := by decide +kernel
theorem dX7_melt_1 : decode cX7_melt 1 = .ok (.iload_n 1, 1) := by decide +kernel
theorem dX7_melt_2 : decode cX7_melt 2 = .ok (.invokevirtual 105, 3) := by decide +kernel
theorem dX7_melt_5 : decode cX7_melt 5 = .ok (.ifCond .ne 9, 3) := by decide +kernel
theorem dX7_melt_8 : decode cX7_melt 8 = .ok (.aload_n 0, 1) := by decide +kernel
theorem dX7_melt_9 : decode cX7_melt 9 = .ok (.iconst (-1), 1) := by decide +kernel
theorem dX7_melt_10 : decode cX7_melt 10 = .ok (.invokevirtual 94, 3) := by decide +kernel
theorem dX7_melt_13 : decode cX7_melt 13 = .ok (.ireturn, 1) := by decide +kernel
theorem dX7_melt_14 : decode cX7_melt 14 = .ok (.iload_n 2, 1) := by decide +kernel
theorem dX7_melt_15 : decode cX7_melt 15 = .ok (.iconst 0, 1) := by decide +kernel
theorem dX7_melt_16 : decode cX7_melt 16 = .ok (.bipush 23, 2) := by decide +kernel
theorem dX7_melt_18 : decode cX7_melt 18 = .ok (.invokestatic 87, 3) := by decide +kernel
theorem dX7_melt_21 : decode cX7_melt 21 = .ok (.ifCond .eq 12, 3) := by decide +kernel
theorem dX7_melt_24 : decode cX7_melt 24 = .ok (.aload_n 0, 1) := by decide +kernel
theorem dX7_melt_25 : decode cX7_melt 25 = .ok (.iload_n 1, 1) := by decide +kernel
theorem dX7_melt_26 : decode cX7_melt 26 = .ok (.iload_n 2, 1) := by decide +kernel
theorem dX7_melt_27 : decode cX7_melt 27 = .ok (.invokevirtual 124, 3) := by decide +kernel
theorem dX7_melt_30 : decode cX7_melt 30 = .ok (.goto 9, 3) := by decide +kernel
theorem dX7_melt_33 : decode cX7_melt 33 = .ok (.aload_n 0, 1) := by decide +kernel
theorem dX7_melt_34 : decode cX7_melt 34 = .ok (.bipush (-6), 2) := by decide +kernel
theorem dX7_melt_36 : decode cX7_melt 36 = .ok (.invokevirtual 94, 3) := by decide +kernel
theorem dX7_melt_39 : decode cX7_melt 39 = .ok (.ireturn, 1) := by decide +kernel
theorem dX7_isLetterOrNone_0 : decode cX7_isLetterOrNone 0 = .ok (.iload_n 1, 1) := by decide +kernel
theorem dX7_isLetterOrNone_1 : decode cX7_isLetterOrNone 1 = .ok (.iconst (-1), 1) := by decide +kernel
theorem dX7_isLetterOrNone_2 : decode cX7_isLetterOrNone 2 = .ok (.if_icmp .eq 11, 3) := by decide +kernel
theorem dX7_isLetterOrNone_5 : decode cX7_isLetterOrNone 5 = .ok (.aload_n 0, 1) := by decide +kernel
theorem dX7_isLetterOrNone_6 : decode cX7_isLetterOrNone 6 = .ok (.iload_n 1, 1) := by decide +kernel
theorem dX7_isLetterOrNone_7 : decode cX7_isLetterOrNone 7 = .ok (.invokevirtual 128, 3) := by decide +kernel
theorem dX7_isLetterOrNone_10 : decode cX7_isLetterOrNone 10 = .ok (.ifCond .eq 7, 3) := by decide +kernel
theorem dX7_isLetterOrNone_13 : decode cX7_isLetterOrNone 13 = .ok (.iconst 1, 1) := by decide +kernel
theorem dX7_isLetterOrNone_14 : decode cX7_isLetterOrNone 14 = .ok (.goto 4, 3) := by decide +kernel
theorem dX7_isLetterOrNone_17 : decode cX7_isLetterOrNone 17 = .ok (.iconst 0, 1) := by decide +kernel
theorem dX7_isLetterOrNone_18 : decode cX7_isLetterOrNone 18 = .ok (.ireturn, 1) := by decide +kernel
theorem dX7_ice_0 : decode cX7_ice 0 = .ok (.aload_n 0, 1) := by decide +kernel
theorem dX7_ice_1 : decode cX7_ice 1 = .ok (.iload_n 1, 1) := by decide +kernel
theorem dX7_ice_2 : decode cX7_ice 2 = .ok (.invokevirtual 105, 3) := by decide +kernel
theorem dX7_ice_5 : decode cX7_ice 5 = .ok (.ifCond .eq 11, 3) := by decide +kernel
theorem dX7_ice_8 : decode cX7_ice 8 = .ok (.aload_n 0, 1) := by decide +kernel
theorem dX7_ice_9 : decode cX7_ice 9 = .ok (.iload_n 2, 1) := by decide +kernel
theorem dX7_ice_10 : decode cX7_ice 10 = .ok (.invokevirtual 209, 3) := by decide +kernel
theorem dX7_ice_13 : decode cX7_ice 13 = .ok (.ifCond .ne 9, 3) := by decide +kernel
theorem dX7_ice_16 : decode cX7_ice 16 = .ok (.aload_n 0, 1) := by decide +kernel
theorem dX7_ice_17 : decode cX7_ice 17 = .ok (.iconst (-1), 1) := by decide +kernel
theorem dX7_ice_18 : decode cX7_ice 18 = .ok (.invokevirtual 94, 3) := by decide +kernel
theorem dX7_ice_21 : decode cX7_ice 21 = .ok (.ireturn, 1) := by decide +kernel
theorem dX7_ice_22 : decode cX7_ice 22 = .ok (.iload 4, 2) := by decide +kernel
theorem dX7_ice_24 : decode cX7_ice 24 = .ok (.iconst 0, 1) := by decide +kernel
theorem dX7_ice_25 : decode cX7_ice 25 = .ok (.bipush 15, 2) := by decide +kernel
theorem dX7_ice_27 : decode cX7_ice 27 = .ok (.invokestatic 87, 3) := by decide +kernel
theorem dX7_ice_30 : decode cX7_ice 30 = .ok (.ifCond .ne 10, 3) := by decide +kernel
theorem dX7_ice_33 : decode cX7_ice 33 = .ok (.aload_n 0, 1) := by decide +kernel
theorem dX7_ice_34 : decode cX7_ice 34 = .ok (.bipush (-5), 2) := by decide +kernel
theorem dX7_ice_36 : decode cX7_ice 36 = .ok (.invokevirtual 94, 3) := by decide +kernel
theorem dX7_ice_39 : decode cX7_ice 39 = .ok (.ireturn, 1) := by decide +kernel
theorem dX7_ice_40 : decode cX7_ice 40 = .ok (.iload_n 3, 1) := by decide +kernel
theorem dX7_ice_41 : decode cX7_ice 41 = .ok (.iconst 0, 1) := by decide +kernel
theorem dX7_ice_42 : decode cX7_ice 42 = .ok (.bipush 24, 2) := by decide +kernel
theorem dX7_ice_44 : decode cX7_ice 44 = .ok (.invokestatic 87, 3) := by decide +kernel
theorem dX7_ice_47 : decode cX7_ice 47 = .ok (.ifCond .ne 10, 3) := by decide +kernel
theorem dX7_ice_50 : decode cX7_ice 50 = .ok (.aload_n 0, 1) := by decide +kernel
theorem dX7_ice_51 : decode cX7_ice 51 = .ok (.bipush (-6), 2) := by decide +kernel
theorem dX7_ice_53 : decode cX7_ice 53 = .ok (.invokevirtual 94, 3) := by decide +kernel
theorem dX7_ice_56 : decode cX7_ice 56 = .ok (.ireturn, 1) := by decide +kernel
theorem dX7_ice_57 : decode cX7_ice 57 = .ok (.aload_n 0, 1) := by decide +kernel
theorem dX7_ice_58 : decode cX7_ice 58 = .ok (.iload_n 1, 1) := by decide +kernel
theorem dX7_ice_59 : decode cX7_ice 59 = .ok (.iload_n 2, 1) := by decide +kernel
theorem dX7_ice_60 : decode cX7_ice 60 = .ok (.iload_n 3, 1) := by decide +kernel
theorem dX7_ice_61 : decode cX7_ice 61 = .ok (.invokevirtual 203, 3) := by decide +kernel
theorem dX7_ice_64 : decode cX7_ice 64 = .ok (.pop, 1) := by decide +kernel
theorem dX7_ice_65 : decode cX7_ice 65 = .ok (.aload_n 0, 1) := by decide +kernel
theorem dX7_ice_66 : decode cX7_ice 66 = .ok (.getfield 50, 3) := by decide +kernel
theorem dX7_ice_69 : decode cX7_ice 69 = .ok (.iload 4, 2) := by decide +kernel
theorem dX7_ice_71 : decode cX7_ice 71 = .ok (.iaload, 1) := by decide +kernel
theorem dX7_ice_72 : decode cX7_ice 72 = .ok (.ireturn, 1) := by decide +kernel
theorem dX7_shape_0 : decode cX7_shape 0 = .ok (.aload_n 0, 1) := by decide +kernel
theorem dX7_shape_1 : decode cX7_shape 1 = .ok (.iload_n 1, 1) := by decide +kernel
theorem dX7_shape_2 : decode cX7_shape 2 = .ok (.invokevirtual 105, 3) := by decide +kernel
theorem dX7_shape_5 : decode cX7_shape 5 = .ok (.ifCond .eq 11, 3) := by decide +kernel
theorem dX7_shape_8 : decode cX7_shape 8 = .ok (.aload_n 0, 1) := by decide +kernel
theorem dX7_shape_9 : decode cX7_shape 9 = .ok (.iload_n 2, 1) := by decide +kernel
theorem dX7_shape_10 : decode cX7_shape 10 = .ok (.invokevirtual 209, 3) := by decide +kernel
theorem dX7_shape_13 : decode cX7_shape 13 = .ok (.ifCond .ne 9, 3) := by decide +kernel
theorem dX7_shape_16 : decode cX7_shape 16 = .ok (.aload_n 0, 1) := by decide +kernel
theorem dX7_shape_17 : decode cX7_shape 17 = .ok (.iconst (-1), 1) := by decide +kernel
theorem dX7_shape_18 : decode cX7_shape 18 = .ok (.invokevirtual 94, 3) := by decide +kernel
theorem dX7_shape_21 : decode cX7_shape 21 = .ok (.ireturn, 1) := by decide +kernel
theorem dX7_shape_22 : decode cX7_shape 22 = .ok (.iload_n 3, 1) := by decide +kernel
theorem dX7_shape_23 : decode cX7_shape 23 = .ok (.iconst 0, 1) := by decide +kernel
theorem dX7_shape_24 : decode cX7_shape 24 = .ok (.bipush 24, 2) := by decide +kernel
theorem dX7_shape_26 : decode cX7_shape 26 = .ok (.invokestatic 87, 3) := by decide +kernel
theorem dX7_shape_29 : decode cX7_shape 29 = .ok (.ifCond .eq 13, 3) := by decide +kernel
theorem dX7_shape_32 : decode cX7_shape 32 = .ok (.aload_n 0, 1) := by decide +kernel
theorem dX7_shape_33 : decode cX7_shape 33 = .ok (.iload_n 1, 1) := by decide +kernel
theorem dX7_shape_34 : decode cX7_shape 34 = .ok (.iload_n 2, 1) := by decide +kernel
theorem dX7_shape_35 : decode cX7_shape 35 = .ok (.iload_n 3, 1) := by decide +kernel
theorem dX7_shape_36 : decode cX7_shape 36 = .ok (.invokevirtual 203, 3) := by decide +kernel
theorem dX7_shape_39 : decode cX7_shape 39 = .ok (.goto 9, 3) := by decide +kernel
theorem dX7_shape_42 : decode cX7_shape 42 = .ok (.aload_n 0, 1) := by decide +kernel
theorem dX7_shape_43 : decode cX7_shape 43 = .ok (.bipush (-6), 2) := by decide +kernel
theorem dX7_shape_45 : decode cX7_shape 45 = .ok (.invokevirtual 94, 3) := by decide +kernel
theorem dX7_shape_48 : decode cX7_shape 48 = .ok (.ireturn, 1) := by decide +kernel
theorem dX7_reads_0 : decode cX7_reads 0 = .ok (.iload_n 1, 1) := by decide +kernel
theorem dX7_reads_1 : decode cX7_reads 1 = .ok (.iconst 0, 1) := by decide +kernel
theorem dX7_reads_2 : decode cX7_reads 2 = .ok (.ldc 127, 2) := by decide +kernel
theorem dX7_reads_4 : decode cX7_reads 4 = .ok (.invokestatic 87, 3) := by decide +kernel
theorem dX7_reads_7 : decode cX7_reads 7 = .ok (.ifCond .eq 11, 3) := by decide +kernel
theorem dX7_reads_10 : decode cX7_reads 10 = .ok (.aload_n 0, 1) := by decide +kernel
theorem dX7_reads_11 : decode cX7_reads 11 = .ok (.iload_n 1, 1) := by decide +kernel
theorem dX7_reads_12 : decode cX7_reads 12 = .ok (.invokevirtual 206, 3) := by decide +kernel
theorem dX7_reads_15 : decode cX7_reads 15 = .ok (.goto 9, 3) := by decide +kernel
theorem dX7_reads_18 : decode cX7_reads 18 = .ok (.aload_n 0, 1) := by decide +kernel
theorem dX7_reads_19 : decode cX7_reads 19 = .ok (.bipush (-6), 2) := by decide +kernel
theorem dX7_reads_21 : decode cX7_reads 21 = .ok (.invokevirtual 131, 3) := by decide +kernel
theorem dX7_reads_24 : decode cX7_reads 24 = .ok (.ireturn, 1) := by decide +kernel
theorem dX7_readsAs_0 : decode cX7_readsAs 0 = .ok (.aload_n 0, 1) := by decide +kernel
theorem dX7_readsAs_1 : decode cX7_readsAs 1 = .ok (.iload_n 1, 1) := by decide +kernel
theorem dX7_readsAs_2 : decode cX7_readsAs 2 = .ok (.invokevirtual 105, 3) := by decide +kernel
theorem dX7_readsAs_5 : decode cX7_readsAs 5 = .ok (.ifCond .eq 11, 3) := by decide +kernel
theorem dX7_readsAs_8 : decode cX7_readsAs 8 = .ok (.aload_n 0, 1) := by decide +kernel
theorem dX7_readsAs_9 : decode cX7_readsAs 9 = .ok (.iload_n 2, 1) := by decide +kernel
theorem dX7_readsAs_10 : decode cX7_readsAs 10 = .ok (.invokevirtual 209, 3) := by decide +kernel
theorem dX7_readsAs_13 : decode cX7_readsAs 13 = .ok (.ifCond .ne 9, 3) := by decide +kernel
theorem dX7_readsAs_16 : decode cX7_readsAs 16 = .ok (.aload_n 0, 1) := by decide +kernel
theorem dX7_readsAs_17 : decode cX7_readsAs 17 = .ok (.iconst (-1), 1) := by decide +kernel
theorem dX7_readsAs_18 : decode cX7_readsAs 18 = .ok (.invokevirtual 131, 3) := by decide +kernel
theorem dX7_readsAs_21 : decode cX7_readsAs 21 = .ok (.ireturn, 1) := by decide +kernel
theorem dX7_readsAs_22 : decode cX7_readsAs 22 = .ok (.iload_n 3, 1) := by decide +kernel
theorem dX7_readsAs_23 : decode cX7_readsAs 23 = .ok (.iconst 0, 1) := by decide +kernel
theorem dX7_readsAs_24 : decode cX7_readsAs 24 = .ok (.bipush 24, 2) := by decide +kernel
theorem dX7_readsAs_26 : decode cX7_readsAs 26 = .ok (.invokestatic 87, 3) := by decide +kernel
theorem dX7_readsAs_29 : decode cX7_readsAs 29 = .ok (.ifCond .eq 13, 3) := by decide +kernel
theorem dX7_readsAs_32 : decode cX7_readsAs 32 = .ok (.aload_n 0, 1) := by decide +kernel
theorem dX7_readsAs_33 : decode cX7_readsAs 33 = .ok (.iload_n 1, 1) := by decide +kernel
theorem dX7_readsAs_34 : decode cX7_readsAs 34 = .ok (.iload_n 2, 1) := by decide +kernel
theorem dX7_readsAs_35 : decode cX7_readsAs 35 = .ok (.iload_n 3, 1) := by decide +kernel
theorem dX7_readsAs_36 : decode cX7_readsAs 36 = .ok (.invokevirtual 212, 3) := by decide +kernel
theorem dX7_readsAs_39 : decode cX7_readsAs 39 = .ok (.goto 9, 3) := by decide +kernel
theorem dX7_readsAs_42 : decode cX7_readsAs 42 = .ok (.aload_n 0, 1) := by decide +kernel
theorem dX7_readsAs_43 : decode cX7_readsAs 43 = .ok (.bipush (-6), 2) := by decide +kernel
theorem dX7_readsAs_45 : decode cX7_readsAs 45 = .ok (.invokevirtual 131, 3) := by decide +kernel
theorem dX7_readsAs_48 : decode cX7_readsAs 48 = .ok (.ireturn, 1) := by decide +kernel
theorem dX7_lasts_0 : decode cX7_lasts 0 = .ok (.aload_n 0, 1) := by decide +kernel
theorem dX7_lasts_1 : decode cX7_lasts 1 = .ok (.iload_n 1, 1) := by decide +kernel
theorem dX7_lasts_2 : decode cX7_lasts 2 = .ok (.invokevirtual 105, 3) := by decide +kernel
theorem dX7_lasts_5 : decode cX7_lasts 5 = .ok (.ifCond .eq 11, 3) := by decide +kernel
theorem dX7_lasts_8 : decode cX7_lasts 8 = .ok (.aload_n 0, 1) := by decide +kernel
theorem dX7_lasts_9 : decode cX7_lasts 9 = .ok (.iload_n 2, 1) := by decide +kernel
theorem dX7_lasts_10 : decode cX7_lasts 10 = .ok (.invokevirtual 128, 3) := by decide +kernel
theorem dX7_lasts_13 : decode cX7_lasts 13 = .ok (.ifCond .ne 9, 3) := by decide +kernel
theorem dX7_lasts_16 : decode cX7_lasts 16 = .ok (.aload_n 0, 1) := by decide +kernel
theorem dX7_lasts_17 : decode cX7_lasts 17 = .ok (.iconst (-1), 1) := by decide +kernel
theorem dX7_lasts_18 : decode cX7_lasts 18 = .ok (.invokevirtual 131, 3) := by decide +kernel
theorem dX7_lasts_21 : decode cX7_lasts 21 = .ok (.ireturn, 1) := by decide +kernel
theorem dX7_lasts_22 : decode cX7_lasts 22 = .ok (.iconst 0, 1) := by decide +kernel
theorem dX7_lasts_23 : decode cX7_lasts 23 = .ok (.istore_n 3, 1) := by decide +kernel
theorem dX7_lasts_24 : decode cX7_lasts 24 = .ok (.iload_n 3, 1) := by decide +kernel
theorem dX7_lasts_25 : decode cX7_lasts 25 = .ok (.bipush 25, 2) := by decide +kernel
theorem dX7_lasts_27 : decode cX7_lasts 27 = .ok (.if_icmp .ge 20, 3) := by decide +kernel
theorem dX7_lasts_30 : decode cX7_lasts 30 = .ok (.aload_n 0, 1) := by decide +kernel
theorem dX7_lasts_31 : decode cX7_lasts 31 = .ok (.iload_n 1, 1) := by decide +kernel
theorem dX7_lasts_32 : decode cX7_lasts 32 = .ok (.iload_n 2, 1) := by decide +kernel
theorem dX7_lasts_33 : decode cX7_lasts 33 = .ok (.iload_n 3, 1) := by decide +kernel
theorem dX7_lasts_34 : decode cX7_lasts 34 = .ok (.invokevirtual 212, 3) := by decide +kernel
theorem dX7_lasts_37 : decode cX7_lasts 37 = .ok (.iload_n 2, 1) := by decide +kernel
theorem dX7_lasts_38 : decode cX7_lasts 38 = .ok (.if_icmp .ne 9, 3) := by decide +kernel
theorem dX7_lasts_41 : decode cX7_lasts 41 = .ok (.iinc 3 1, 3) := by decide +kernel
theorem dX7_lasts_44 : decode cX7_lasts 44 = .ok (.goto (-20), 3) := by decide +kernel
theorem dX7_lasts_47 : decode cX7_lasts 47 = .ok (.iload_n 3, 1) := by decide +kernel
theorem dX7_lasts_48 : decode cX7_lasts 48 = .ok (.iconst 1, 1) := by decide +kernel
theorem dX7_lasts_49 : decode cX7_lasts 49 = .ok (.isub, 1) := by decide +kernel
theorem dX7_lasts_50 : decode cX7_lasts 50 = .ok (.ireturn, 1) := by decide +kernel
theorem dX7_page_0 : decode cX7_page 0 = .ok (.iload_n 1, 1) := by decide +kernel
theorem dX7_page_1 : decode cX7_page 1 = .ok (.iconst 0, 1) := by decide +kernel
theorem dX7_page_2 : decode cX7_page 2 = .ok (.bipush 24, 2) := by decide +kernel
theorem dX7_page_4 : decode cX7_page 4 = .ok (.invokestatic 87, 3) := by decide +kernel
theorem dX7_page_7 : decode cX7_page 7 = .ok (.ifCond .ne 10, 3) := by decide +kernel
theorem dX7_page_10 : decode cX7_page 10 = .ok (.aload_n 0, 1) := by decide +kernel
theorem dX7_page_11 : decode cX7_page 11 = .ok (.bipush (-6), 2) := by decide +kernel
theorem dX7_page_13 : decode cX7_page 13 = .ok (.invokevirtual 94, 3) := by decide +kernel
theorem dX7_page_16 : decode cX7_page 16 = .ok (.ireturn, 1) := by decide +kernel
theorem dX7_page_17 : decode cX7_page 17 = .ok (.iconst 0, 1) := by decide +kernel
theorem dX7_page_18 : decode cX7_page 18 = .ok (.istore_n 2, 1) := by decide +kernel
theorem dX7_page_19 : decode cX7_page 19 = .ok (.iconst 0, 1) := by decide +kernel
theorem dX7_page_20 : decode cX7_page 20 = .ok (.istore_n 3, 1) := by decide +kernel
theorem dX7_page_21 : decode cX7_page 21 = .ok (.iload_n 3, 1) := by decide +kernel
theorem dX7_page_22 : decode cX7_page 22 = .ok (.aload_n 0, 1) := by decide +kernel
theorem dX7_page_23 : decode cX7_page 23 = .ok (.getfield 84, 3) := by decide +kernel
theorem dX7_page_26 : decode cX7_page 26 = .ok (.if_icmp .ge 46, 3) := by decide +kernel
theorem dX7_page_29 : decode cX7_page 29 = .ok (.aload_n 0, 1) := by decide +kernel
theorem dX7_page_30 : decode cX7_page 30 = .ok (.getfield 32, 3) := by decide +kernel
theorem dX7_page_33 : decode cX7_page 33 = .ok (.iload_n 3, 1) := by decide +kernel
theorem dX7_page_34 : decode cX7_page 34 = .ok (.iaload, 1) := by decide +kernel
theorem dX7_page_35 : decode cX7_page 35 = .ok (.iconst (-1), 1) := by decide +kernel
theorem dX7_page_36 : decode cX7_page 36 = .ok (.if_icmp .eq 30, 3) := by decide +kernel
theorem dX7_page_39 : decode cX7_page 39 = .ok (.aload_n 0, 1) := by decide +kernel
theorem dX7_page_40 : decode cX7_page 40 = .ok (.iload_n 3, 1) := by decide +kernel
theorem dX7_page_41 : decode cX7_page 41 = .ok (.aload_n 0, 1) := by decide +kernel
theorem dX7_page_42 : decode cX7_page 42 = .ok (.getfield 32, 3) := by decide +kernel
theorem dX7_page_45 : decode cX7_page 45 = .ok (.iload_n 3, 1) := by decide +kernel
theorem dX7_page_46 : decode cX7_page 46 = .ok (.iaload, 1) := by decide +kernel
theorem dX7_page_47 : decode cX7_page 47 = .ok (.iload_n 1, 1) := by decide +kernel
theorem dX7_page_48 : decode cX7_page 48 = .ok (.invokevirtual 212, 3) := by decide +kernel
theorem dX7_page_51 : decode cX7_page 51 = .ok (.aload_n 0, 1) := by decide +kernel
theorem dX7_page_52 : decode cX7_page 52 = .ok (.getfield 32, 3) := by decide +kernel
theorem dX7_page_55 : decode cX7_page 55 = .ok (.iload_n 3, 1) := by decide +kernel
theorem dX7_page_56 : decode cX7_page 56 = .ok (.iaload, 1) := by decide +kernel
theorem dX7_page_57 : decode cX7_page 57 = .ok (.if_icmp .ne 9, 3) := by decide +kernel
theorem dX7_page_60 : decode cX7_page 60 = .ok (.iload_n 2, 1) := by decide +kernel
theorem dX7_page_61 : decode cX7_page 61 = .ok (.iconst 1, 1) := by decide +kernel
theorem dX7_page_62 : decode cX7_page 62 = .ok (.iload_n 3, 1) := by decide +kernel
theorem dX7_page_63 : decode cX7_page 63 = .ok (.ishl, 1) := by decide +kernel
theorem dX7_page_64 : decode cX7_page 64 = .ok (.ior, 1) := by decide +kernel
theorem dX7_page_65 : decode cX7_page 65 = .ok (.istore_n 2, 1) := by decide +kernel
theorem dX7_page_66 : decode cX7_page 66 = .ok (.iinc 3 1, 3) := by decide +kernel
theorem dX7_page_69 : decode cX7_page 69 = .ok (.goto (-48), 3) := by decide +kernel
theorem dX7_page_72 : decode cX7_page 72 = .ok (.iload_n 2, 1) := by decide +kernel
theorem dX7_page_73 : decode cX7_page 73 = .ok (.ireturn, 1) := by decide +kernel
theorem dX7_prints_0 : decode cX7_prints 0 = .ok (.aload_n 0, 1) := by decide +kernel
theorem dX7_prints_1 : decode cX7_prints 1 = .ok (.iload_n 1, 1) := by decide +kernel
theorem dX7_prints_2 : decode cX7_prints 2 = .ok (.invokevirtual 102, 3) := by decide +kernel
theorem dX7_prints_5 : decode cX7_prints 5 = .ok (.istore 5, 2) := by decide +kernel
theorem dX7_prints_7 : decode cX7_prints 7 = .ok (.iload 5, 2) := by decide +kernel
theorem dX7_prints_9 : decode cX7_prints 9 = .ok (.ifCond .ge 10, 3) := by decide +kernel
theorem dX7_prints_12 : decode cX7_prints 12 = .ok (.aload_n 0, 1) := by decide +kernel
theorem dX7_prints_13 : decode cX7_prints 13 = .ok (.iload 5, 2) := by decide +kernel
theorem dX7_prints_15 : decode cX7_prints 15 = .ok (.invokevirtual 94, 3) := by decide +kernel
theorem dX7_prints_18 : decode cX7_prints 18 = .ok (.ireturn, 1) := by decide +kernel
theorem dX7_prints_19 : decode cX7_prints 19 = .ok (.iload_n 2, 1) := by decide +kernel
theorem dX7_prints_20 : decode cX7_prints 20 = .ok (.ifCond .ge 10, 3) := by decide +kernel
theorem dX7_prints_23 : decode cX7_prints 23 = .ok (.aload_n 0, 1) := by decide +kernel
theorem dX7_prints_24 : decode cX7_prints 24 = .ok (.bipush (-4), 2) := by decide +kernel
theorem dX7_prints_26 : decode cX7_prints 26 = .ok (.invokevirtual 94, 3) := by decide +kernel
theorem dX7_prints_29 : decode cX7_prints 29 = .ok (.ireturn, 1) := by decide +kernel
theorem dX7_prints_30 : decode cX7_prints 30 = .ok (.iload_n 2, 1) := by decide +kernel
theorem dX7_prints_31 : decode cX7_prints 31 = .ok (.aload_n 0, 1) := by decide +kernel
theorem dX7_prints_32 : decode cX7_prints 32 = .ok (.getfield 13, 3) := by decide +kernel
theorem dX7_prints_35 : decode cX7_prints 35 = .ok (.iload_n 1, 1) := by decide +kernel
theorem dX7_prints_36 : decode cX7_prints 36 = .ok (.iaload, 1) := by decide +kernel
theorem dX7_prints_37 : decode cX7_prints 37 = .ok (.if_icmp .gt 15, 3) := by decide +kernel
theorem dX7_prints_40 : decode cX7_prints 40 = .ok (.iload 4, 2) := by decide +kernel
theorem dX7_prints_42 : decode cX7_prints 42 = .ok (.iconst (-1), 1) := by decide +kernel
theorem dX7_prints_43 : decode cX7_prints 43 = .ok (.iload_n 2, 1) := by decide +kernel
theorem dX7_prints_44 : decode cX7_prints 44 = .ok (.iconst 1, 1) := by decide +kernel
theorem dX7_prints_45 : decode cX7_prints 45 = .ok (.isub, 1) := by decide +kernel
theorem dX7_prints_46 : decode cX7_prints 46 = .ok (.invokestatic 87, 3) := by decide +kernel
theorem dX7_prints_49 : decode cX7_prints 49 = .ok (.ifCond .ne 10, 3) := by decide +kernel
theorem dX7_prints_52 : decode cX7_prints 52 = .ok (.aload_n 0, 1) := by decide +kernel
theorem dX7_prints_53 : decode cX7_prints 53 = .ok (.bipush (-5), 2) := by decide +kernel
theorem dX7_prints_55 : decode cX7_prints 55 = .ok (.invokevirtual 94, 3) := by decide +kernel
theorem dX7_prints_58 : decode cX7_prints 58 = .ok (.ireturn, 1) := by decide +kernel
theorem dX7_prints_59 : decode cX7_prints 59 = .ok (.iconst 0, 1) := by decide +kernel
theorem dX7_prints_60 : decode cX7_prints 60 = .ok (.istore 6, 2) := by decide +kernel
theorem dX7_prints_62 : decode cX7_prints 62 = .ok (.iload 6, 2) := by decide +kernel
theorem dX7_prints_64 : decode cX7_prints 64 = .ok (.iload_n 2, 1) := by decide +kernel
theorem dX7_prints_65 : decode cX7_prints 65 = .ok (.if_icmp .ge 37, 3) := by decide +kernel
theorem dX7_prints_68 : decode cX7_prints 68 = .ok (.aload_n 0, 1) := by decide +kernel
theorem dX7_prints_69 : decode cX7_prints 69 = .ok (.aload_n 0, 1) := by decide +kernel
theorem dX7_prints_70 : decode cX7_prints 70 = .ok (.getfield 16, 3) := by decide +kernel
theorem dX7_prints_73 : decode cX7_prints 73 = .ok (.sipush 160, 3) := by decide +kernel
theorem dX7_prints_76 : decode cX7_prints 76 = .ok (.iload_n 1, 1) := by decide +kernel
theorem dX7_prints_77 : decode cX7_prints 77 = .ok (.imul, 1) := by decide +kernel
theorem dX7_prints_78 : decode cX7_prints 78 = .ok (.iload 6, 2) := by decide +kernel
theorem dX7_prints_80 : decode cX7_prints 80 = .ok (.iadd, 1) := by decide +kernel
theorem dX7_prints_81 : decode cX7_prints 81 = .ok (.laload, 1) := by decide +kernel
theorem dX7_prints_82 : decode cX7_prints 82 = .ok (.l2i, 1) := by decide +kernel
theorem dX7_prints_83 : decode cX7_prints 83 = .ok (.invokevirtual 128, 3) := by decide +kernel
theorem dX7_prints_86 : decode cX7_prints 86 = .ok (.ifCond .ne 10, 3) := by decide +kernel
theorem dX7_prints_89 : decode cX7_prints 89 = .ok (.aload_n 0, 1) := by decide +kernel
theorem dX7_prints_90 : decode cX7_prints 90 = .ok (.bipush (-6), 2) := by decide +kernel
theorem dX7_prints_92 : decode cX7_prints 92 = .ok (.invokevirtual 94, 3) := by decide +kernel
theorem dX7_prints_95 : decode cX7_prints 95 = .ok (.ireturn, 1) := by decide +kernel
theorem dX7_prints_96 : decode cX7_prints 96 = .ok (.iinc 6 1, 3) := by decide +kernel
theorem dX7_prints_99 : decode cX7_prints 99 = .ok (.goto (-37), 3) := by decide +kernel
theorem dX7_prints_102 : decode cX7_prints 102 = .ok (.iload_n 3, 1) := by decide +kernel
theorem dX7_prints_103 : decode cX7_prints 103 = .ok (.iconst 0, 1) := by decide +kernel
theorem dX7_prints_104 : decode cX7_prints 104 = .ok (.bipush 24, 2) := by decide +kernel
theorem dX7_prints_106 : decode cX7_prints 106 = .ok (.invokestatic 87, 3) := by decide +kernel
theorem dX7_prints_109 : decode cX7_prints 109 = .ok (.ifCond .ne 10, 3) := by decide +kernel
theorem dX7_prints_112 : decode cX7_prints 112 = .ok (.aload_n 0, 1) := by decide +kernel
theorem dX7_prints_113 : decode cX7_prints 113 = .ok (.bipush (-6), 2) := by decide +kernel
theorem dX7_prints_115 : decode cX7_prints 115 = .ok (.invokevirtual 94, 3) := by decide +kernel
theorem dX7_prints_118 : decode cX7_prints 118 = .ok (.ireturn, 1) := by decide +kernel
theorem dX7_prints_119 : decode cX7_prints 119 = .ok (.iload_n 2, 1) := by decide +kernel
theorem dX7_prints_120 : decode cX7_prints 120 = .ok (.aload_n 0, 1) := by decide +kernel
theorem dX7_prints_121 : decode cX7_prints 121 = .ok (.getfield 84, 3) := by decide +kernel
theorem dX7_prints_124 : decode cX7_prints 124 = .ok (.if_icmp .le 10, 3) := by decide +kernel
theorem dX7_prints_127 : decode cX7_prints 127 = .ok (.aload_n 0, 1) := by decide +kernel
theorem dX7_prints_128 : decode cX7_prints 128 = .ok (.bipush (-7), 2) := by decide +kernel
theorem dX7_prints_130 : decode cX7_prints 130 = .ok (.invokevirtual 94, 3) := by decide +kernel
theorem dX7_prints_133 : decode cX7_prints 133 = .ok (.ireturn, 1) := by decide +kernel
theorem dX7_prints_134 : decode cX7_prints 134 = .ok (.iconst (-1), 1) := by decide +kernel
theorem dX7_prints_135 : decode cX7_prints 135 = .ok (.istore 6, 2) := by decide +kernel
theorem dX7_prints_137 : decode cX7_prints 137 = .ok (.iconst 0, 1) := by decide +kernel
theorem dX7_prints_138 : decode cX7_prints 138 = .ok (.istore 7, 2) := by decide +kernel
theorem dX7_prints_140 : decode cX7_prints 140 = .ok (.iload 7, 2) := by decide +kernel
theorem dX7_prints_142 : decode cX7_prints 142 = .ok (.iconst 1, 1) := by decide +kernel
theorem dX7_prints_143 : decode cX7_prints 143 = .ok (.aload_n 0, 1) := by decide +kernel
theorem dX7_prints_144 : decode cX7_prints 144 = .ok (.getfield 84, 3) := by decide +kernel
theorem dX7_prints_147 : decode cX7_prints 147 = .ok (.ishl, 1) := by decide +kernel
theorem dX7_prints_148 : decode cX7_prints 148 = .ok (.if_icmp .ge 227, 3) := by decide +kernel
theorem dX7_prints_151 : decode cX7_prints 151 = .ok (.iload 7, 2) := by decide +kernel
theorem dX7_prints_153 : decode cX7_prints 153 = .ok (.invokestatic 198, 3) := by decide +kernel
theorem dX7_prints_156 : decode cX7_prints 156 = .ok (.iload_n 2, 1) := by decide +kernel
theorem dX7_prints_157 : decode cX7_prints 157 = .ok (.if_icmp .eq 6, 3) := by decide +kernel
theorem dX7_prints_160 : decode cX7_prints 160 = .ok (.goto 209, 3) := by decide +kernel
theorem dX7_prints_163 : decode cX7_prints 163 = .ok (.iconst 0, 1) := by decide +kernel
theorem dX7_prints_164 : decode cX7_prints 164 = .ok (.istore 8, 2) := by decide +kernel
theorem dX7_prints_166 : decode cX7_prints 166 = .ok (.iconst 0, 1) := by decide +kernel
theorem dX7_prints_167 : decode cX7_prints 167 = .ok (.istore 9, 2) := by decide +kernel
theorem dX7_prints_169 : decode cX7_prints 169 = .ok (.iconst 0, 1) := by decide +kernel
theorem dX7_prints_170 : decode cX7_prints 170 = .ok (.istore 10, 2) := by decide +kernel
theorem dX7_prints_172 : decode cX7_prints 172 = .ok (.iload 10, 2) := by decide +kernel
theorem dX7_prints_174 : decode cX7_prints 174 = .ok (.aload_n 0, 1) := by decide +kernel
theorem dX7_prints_175 : decode cX7_prints 175 = .ok (.getfield 84, 3) := by decide +kernel
theorem dX7_prints_178 : decode cX7_prints 178 = .ok (.if_icmp .ge 67, 3) := by decide +kernel
theorem dX7_prints_181 : decode cX7_prints 181 = .ok (.iload 7, 2) := by decide +kernel
theorem dX7_prints_183 : decode cX7_prints 183 = .ok (.iload 10, 2) := by decide +kernel
theorem dX7_prints_185 : decode cX7_prints 185 = .ok (.ishr, 1) := by decide +kernel
theorem dX7_prints_186 : decode cX7_prints 186 = .ok (.iconst 1, 1) := by decide +kernel
theorem dX7_prints_187 : decode cX7_prints 187 = .ok (.iand, 1) := by decide +kernel
theorem dX7_prints_188 : decode cX7_prints 188 = .ok (.ifCond .ne 6, 3) := by decide +kernel
theorem dX7_prints_191 : decode cX7_prints 191 = .ok (.goto 48, 3) := by decide +kernel
theorem dX7_prints_194 : decode cX7_prints 194 = .ok (.aload_n 0, 1) := by decide +kernel
theorem dX7_prints_195 : decode cX7_prints 195 = .ok (.getfield 16, 3) := by decide +kernel
theorem dX7_prints_198 : decode cX7_prints 198 = .ok (.sipush 160, 3) := by decide +kernel
theorem dX7_prints_201 : decode cX7_prints 201 = .ok (.iload_n 1, 1) := by decide +kernel
theorem dX7_prints_202 : decode cX7_prints 202 = .ok (.imul, 1) := by decide +kernel
theorem dX7_prints_203 : decode cX7_prints 203 = .ok (.iload 8, 2) := by decide +kernel
theorem dX7_prints_205 : decode cX7_prints 205 = .ok (.iadd, 1) := by decide +kernel
theorem dX7_prints_206 : decode cX7_prints 206 = .ok (.laload, 1) := by decide +kernel
theorem dX7_prints_207 : decode cX7_prints 207 = .ok (.l2i, 1) := by decide +kernel
theorem dX7_prints_208 : decode cX7_prints 208 = .ok (.istore 11, 2) := by decide +kernel
theorem dX7_prints_210 : decode cX7_prints 210 = .ok (.aload_n 0, 1) := by decide +kernel
theorem dX7_prints_211 : decode cX7_prints 211 = .ok (.iload 10, 2) := by decide +kernel
theorem dX7_prints_213 : decode cX7_prints 213 = .ok (.iload 11, 2) := by decide +kernel
theorem dX7_prints_215 : decode cX7_prints 215 = .ok (.iload_n 3, 1) := by decide +kernel
theorem dX7_prints_216 : decode cX7_prints 216 = .ok (.invokevirtual 212, 3) := by decide +kernel
theorem dX7_prints_219 : decode cX7_prints 219 = .ok (.iload 11, 2) := by decide +kernel
theorem dX7_prints_221 : decode cX7_prints 221 = .ok (.if_icmp .ne 6, 3) := by decide +kernel
theorem dX7_prints_224 : decode cX7_prints 224 = .ok (.iinc 9 1, 3) := by decide +kernel
theorem dX7_prints_227 : decode cX7_prints 227 = .ok (.aload_n 0, 1) := by decide +kernel
theorem dX7_prints_228 : decode cX7_prints 228 = .ok (.getfield 59, 3) := by decide +kernel
theorem dX7_prints_231 : decode cX7_prints 231 = .ok (.iload 8, 2) := by decide +kernel
theorem dX7_prints_233 : decode cX7_prints 233 = .ok (.iinc 8 1, 3) := by decide +kernel
theorem dX7_prints_236 : decode cX7_prints 236 = .ok (.iload 10, 2) := by decide +kernel
theorem dX7_prints_238 : decode cX7_prints 238 = .ok (.iastore, 1) := by decide +kernel
theorem dX7_prints_239 : decode cX7_prints 239 = .ok (.iinc 10 1, 3) := by decide +kernel
theorem dX7_prints_242 : decode cX7_prints 242 = .ok (.goto (-70), 3) := by decide +kernel
theorem dX7_prints_245 : decode cX7_prints 245 = .ok (.iload 9, 2) := by decide +kernel
theorem dX7_prints_247 : decode cX7_prints 247 = .ok (.iload 6, 2) := by decide +kernel
theorem dX7_prints_249 : decode cX7_prints 249 = .ok (.if_icmp .le 7, 3) := by decide +kernel
theorem dX7_prints_252 : decode cX7_prints 252 = .ok (.iconst 1, 1) := by decide +kernel
theorem dX7_prints_253 : decode cX7_prints 253 = .ok (.goto 4, 3) := by decide +kernel
theorem dX7_prints_256 : decode cX7_prints 256 = .ok (.iconst 0, 1) := by decide +kernel
theorem dX7_prints_257 : decode cX7_prints 257 = .ok (.istore 10, 2) := by decide +kernel
theorem dX7_prints_259 : decode cX7_prints 259 = .ok (.iconst 0, 1) := by decide +kernel
theorem dX7_prints_260 : decode cX7_prints 260 = .ok (.istore 11, 2) := by decide +kernel
theorem dX7_prints_262 : decode cX7_prints 262 = .ok (.iload 11, 2) := by decide +kernel
theorem dX7_prints_264 : decode cX7_prints 264 = .ok (.iload_n 2, 1) := by decide +kernel
theorem dX7_prints_265 : decode cX7_prints 265 = .ok (.if_icmp .ge 63, 3) := by decide +kernel
theorem dX7_prints_268 : decode cX7_prints 268 = .ok (.iload 9, 2) := by decide +kernel
theorem dX7_prints_270 : decode cX7_prints 270 = .ok (.iload 6, 2) := by decide +kernel
theorem dX7_prints_272 : decode cX7_prints 272 = .ok (.if_icmp .ne 56, 3) := by decide +kernel
theorem dX7_prints_275 : decode cX7_prints 275 = .ok (.aload_n 0, 1) := by decide +kernel
theorem dX7_prints_276 : decode cX7_prints 276 = .ok (.getfield 59, 3) := by decide +kernel
theorem dX7_prints_279 : decode cX7_prints 279 = .ok (.iload 11, 2) := by decide +kernel
theorem dX7_prints_281 : decode cX7_prints 281 = .ok (.iaload, 1) := by decide +kernel
theorem dX7_prints_282 : decode cX7_prints 282 = .ok (.aload_n 0, 1) := by decide +kernel
theorem dX7_prints_283 : decode cX7_prints 283 = .ok (.getfield 62, 3) := by decide +kernel
theorem dX7_prints_286 : decode cX7_prints 286 = .ok (.iload 11, 2) := by decide +kernel
theorem dX7_prints_288 : decode cX7_prints 288 = .ok (.iaload, 1) := by decide +kernel
theorem dX7_prints_289 : decode cX7_prints 289 = .ok (.if_icmp .ne 6, 3) := by decide +kernel
theorem dX7_prints_292 : decode cX7_prints 292 = .ok (.goto 30, 3) := by decide +kernel
theorem dX7_prints_295 : decode cX7_prints 295 = .ok (.aload_n 0, 1) := by decide +kernel
theorem dX7_prints_296 : decode cX7_prints 296 = .ok (.getfield 59, 3) := by decide +kernel
theorem dX7_prints_299 : decode cX7_prints 299 = .ok (.iload 11, 2) := by decide +kernel
theorem dX7_prints_301 : decode cX7_prints 301 = .ok (.iaload, 1) := by decide +kernel
theorem dX7_prints_302 : decode cX7_prints 302 = .ok (.aload_n 0, 1) := by decide +kernel
theorem dX7_prints_303 : decode cX7_prints 303 = .ok (.getfield 62, 3) := by decide +kernel
theorem dX7_prints_306 : decode cX7_prints 306 = .ok (.iload 11, 2) := by decide +kernel
theorem dX7_prints_308 : decode cX7_prints 308 = .ok (.iaload, 1) := by decide +kernel
theorem dX7_prints_309 : decode cX7_prints 309 = .ok (.if_icmp .ge 7, 3) := by decide +kernel
theorem dX7_prints_312 : decode cX7_prints 312 = .ok (.iconst 1, 1) := by decide +kernel
theorem dX7_prints_313 : decode cX7_prints 313 = .ok (.goto 4, 3) := by decide +kernel
theorem dX7_prints_316 : decode cX7_prints 316 = .ok (.iconst 0, 1) := by decide +kernel
theorem dX7_prints_317 : decode cX7_prints 317 = .ok (.istore 10, 2) := by decide +kernel
theorem dX7_prints_319 : decode cX7_prints 319 = .ok (.goto 9, 3) := by decide +kernel
theorem dX7_prints_322 : decode cX7_prints 322 = .ok (.iinc 11 1, 3) := by decide +kernel
theorem dX7_prints_325 : decode cX7_prints 325 = .ok (.goto (-63), 3) := by decide +kernel
theorem dX7_prints_328 : decode cX7_prints 328 = .ok (.iload 10, 2) := by decide +kernel
theorem dX7_prints_330 : decode cX7_prints 330 = .ok (.ifCond .ne 6, 3) := by decide +kernel
theorem dX7_prints_333 : decode cX7_prints 333 = .ok (.goto 36, 3) := by decide +kernel
theorem dX7_prints_336 : decode cX7_prints 336 = .ok (.iload 9, 2) := by decide +kernel
theorem dX7_prints_338 : decode cX7_prints 338 = .ok (.istore 6, 2) := by decide +kernel
theorem dX7_prints_340 : decode cX7_prints 340 = .ok (.iconst 0, 1) := by decide +kernel
theorem dX7_prints_341 : decode cX7_prints 341 = .ok (.istore 11, 2) := by decide +kernel
theorem dX7_prints_343 : decode cX7_prints 343 = .ok (.iload 11, 2) := by decide +kernel
theorem dX7_prints_345 : decode cX7_prints 345 = .ok (.iload_n 2, 1) := by decide +kernel
theorem dX7_prints_346 : decode cX7_prints 346 = .ok (.if_icmp .ge 23, 3) := by decide +kernel
theorem dX7_prints_349 : decode cX7_prints 349 = .ok (.aload_n 0, 1) := by decide +kernel
theorem dX7_prints_350 : decode cX7_prints 350 = .ok (.getfield 62, 3) := by decide +kernel
theorem dX7_prints_353 : decode cX7_prints 353 = .ok (.iload 11, 2) := by decide +kernel
theorem dX7_prints_355 : decode cX7_prints 355 = .ok (.aload_n 0, 1) := by decide +kernel
theorem dX7_prints_356 : decode cX7_prints 356 = .ok (.getfield 59, 3) := by decide +kernel
theorem dX7_prints_359 : decode cX7_prints 359 = .ok (.iload 11, 2) := by decide +kernel
theorem dX7_prints_361 : decode cX7_prints 361 = .ok (.iaload, 1) := by decide +kernel
theorem dX7_prints_362 : decode cX7_prints 362 = .ok (.iastore, 1) := by decide +kernel
theorem dX7_prints_363 : decode cX7_prints 363 = .ok (.iinc 11 1, 3) := by decide +kernel
theorem dX7_prints_366 : decode cX7_prints 366 = .ok (.goto (-23), 3) := by decide +kernel
theorem dX7_prints_369 : decode cX7_prints 369 = .ok (.iinc 7 1, 3) := by decide +kernel
theorem dX7_prints_372 : decode cX7_prints 372 = .ok (.goto (-232), 3) := by decide +kernel
theorem dX7_prints_375 : decode cX7_prints 375 = .ok (.iload 4, 2) := by decide +kernel
theorem dX7_prints_377 : decode cX7_prints 377 = .ok (.iconst (-1), 1) := by decide +kernel
theorem dX7_prints_378 : decode cX7_prints 378 = .ok (.if_icmp .ne 8, 3) := by decide +kernel
theorem dX7_prints_381 : decode cX7_prints 381 = .ok (.iload 6, 2) := by decide +kernel
theorem dX7_prints_383 : decode cX7_prints 383 = .ok (.goto 10, 3) := by decide +kernel
theorem dX7_prints_386 : decode cX7_prints 386 = .ok (.aload_n 0, 1) := by decide +kernel
theorem dX7_prints_387 : decode cX7_prints 387 = .ok (.getfield 62, 3) := by decide +kernel
theorem dX7_prints_390 : decode cX7_prints 390 = .ok (.iload 4, 2) := by decide +kernel
theorem dX7_prints_392 : decode cX7_prints 392 = .ok (.iaload, 1) := by decide +kernel
theorem dX7_prints_393 : decode cX7_prints 393 = .ok (.ireturn, 1) := by decide +kernel
theorem dX7_becomes_0 : decode cX7_becomes 0 = .ok (.aload_n 0, 1) := by decide +kernel
theorem dX7_becomes_1 : decode cX7_becomes 1 = .ok (.iload_n 1, 1) := by decide +kernel
theorem dX7_becomes_2 : decode cX7_becomes 2 = .ok (.invokevirtual 128, 3) := by decide +kernel
theorem dX7_becomes_5 : decode cX7_becomes 5 = .ok (.ifCond .ne 9, 3) := by decide +kernel
theorem dX7_becomes_8 : decode cX7_becomes 8 = .ok (.aload_n 0, 1) := by decide +kernel
theorem dX7_becomes_9 : decode cX7_becomes 9 = .ok (.iconst (-1), 1) := by decide +kernel
theorem dX7_becomes_10 : decode cX7_becomes 10 = .ok (.invokevirtual 94, 3) := by decide +kernel
theorem dX7_becomes_13 : decode cX7_becomes 13 = .ok (.ireturn, 1) := by decide +kernel
theorem dX7_becomes_14 : decode cX7_becomes 14 = .ok (.iconst 0, 1) := by decide +kernel
theorem dX7_becomes_15 : decode cX7_becomes 15 = .ok (.istore_n 2, 1) := by decide +kernel
theorem dX7_becomes_16 : decode cX7_becomes 16 = .ok (.iconst 0, 1) := by decide +kernel
theorem dX7_becomes_17 : decode cX7_becomes 17 = .ok (.istore_n 3, 1) := by decide +kernel
theorem dX7_becomes_18 : decode cX7_becomes 18 = .ok (.iload_n 3, 1) := by decide +kernel
theorem dX7_becomes_19 : decode cX7_becomes 19 = .ok (.aload_n 0, 1) := by decide +kernel
theorem dX7_becomes_20 : decode cX7_becomes 20 = .ok (.getfield 84, 3) := by decide +kernel
theorem dX7_becomes_23 : decode cX7_becomes 23 = .ok (.if_icmp .ge 74, 3) := by decide +kernel
theorem dX7_becomes_26 : decode cX7_becomes 26 = .ok (.aload_n 0, 1) := by decide +kernel
theorem dX7_becomes_27 : decode cX7_becomes 27 = .ok (.iload_n 3, 1) := by decide +kernel
theorem dX7_becomes_28 : decode cX7_becomes 28 = .ok (.iload_n 1, 1) := by decide +kernel
theorem dX7_becomes_29 : decode cX7_becomes 29 = .ok (.invokevirtual 188, 3) := by decide +kernel
theorem dX7_becomes_32 : decode cX7_becomes 32 = .ok (.iconst 0, 1) := by decide +kernel
theorem dX7_becomes_33 : decode cX7_becomes 33 = .ok (.istore 4, 2) := by decide +kernel
theorem dX7_becomes_35 : decode cX7_becomes 35 = .ok (.iload 4, 2) := by decide +kernel
theorem dX7_becomes_37 : decode cX7_becomes 37 = .ok (.bipush 25, 2) := by decide +kernel
theorem dX7_becomes_39 : decode cX7_becomes 39 = .ok (.if_icmp .ge 52, 3) := by decide +kernel
theorem dX7_becomes_42 : decode cX7_becomes 42 = .ok (.aload_n 0, 1) := by decide +kernel
theorem dX7_becomes_43 : decode cX7_becomes 43 = .ok (.aload_n 0, 1) := by decide +kernel
theorem dX7_becomes_44 : decode cX7_becomes 44 = .ok (.invokevirtual 195, 3) := by decide +kernel
theorem dX7_becomes_47 : decode cX7_becomes 47 = .ok (.invokevirtual 206, 3) := by decide +kernel
theorem dX7_becomes_50 : decode cX7_becomes 50 = .ok (.istore 5, 2) := by decide +kernel
theorem dX7_becomes_52 : decode cX7_becomes 52 = .ok (.iload 5, 2) := by decide +kernel
theorem dX7_becomes_54 : decode cX7_becomes 54 = .ok (.iconst (-1), 1) := by decide +kernel
theorem dX7_becomes_55 : decode cX7_becomes 55 = .ok (.if_icmp .eq 16, 3) := by decide +kernel
theorem dX7_becomes_58 : decode cX7_becomes 58 = .ok (.iload 5, 2) := by decide +kernel
theorem dX7_becomes_60 : decode cX7_becomes 60 = .ok (.iload_n 1, 1) := by decide +kernel
theorem dX7_becomes_61 : decode cX7_becomes 61 = .ok (.if_icmp .eq 10, 3) := by decide +kernel
theorem dX7_becomes_64 : decode cX7_becomes 64 = .ok (.iload_n 2, 1) := by decide +kernel
theorem dX7_becomes_65 : decode cX7_becomes 65 = .ok (.iconst 1, 1) := by decide +kernel
theorem dX7_becomes_66 : decode cX7_becomes 66 = .ok (.iload 5, 2) := by decide +kernel
theorem dX7_becomes_68 : decode cX7_becomes 68 = .ok (.ishl, 1) := by decide +kernel
theorem dX7_becomes_69 : decode cX7_becomes 69 = .ok (.ior, 1) := by decide +kernel
theorem dX7_becomes_70 : decode cX7_becomes 70 = .ok (.istore_n 2, 1) := by decide +kernel
theorem dX7_becomes_71 : decode cX7_becomes 71 = .ok (.iload 4, 2) := by decide +kernel
theorem dX7_becomes_73 : decode cX7_becomes 73 = .ok (.bipush 24, 2) := by decide +kernel
theorem dX7_becomes_75 : decode cX7_becomes 75 = .ok (.if_icmp .ge 10, 3) := by decide +kernel
theorem dX7_becomes_78 : decode cX7_becomes 78 = .ok (.aload_n 0, 1) := by decide +kernel
theorem dX7_becomes_79 : decode cX7_becomes 79 = .ok (.iload_n 3, 1) := by decide +kernel
theorem dX7_becomes_80 : decode cX7_becomes 80 = .ok (.iload 4, 2) := by decide +kernel
theorem dX7_becomes_82 : decode cX7_becomes 82 = .ok (.invokevirtual 192, 3) := by decide +kernel
theorem dX7_becomes_85 : decode cX7_becomes 85 = .ok (.iinc 4 1, 3) := by decide +kernel
theorem dX7_becomes_88 : decode cX7_becomes 88 = .ok (.goto (-53), 3) := by decide +kernel
theorem dX7_becomes_91 : decode cX7_becomes 91 = .ok (.iinc 3 1, 3) := by decide +kernel
theorem dX7_becomes_94 : decode cX7_becomes 94 = .ok (.goto (-76), 3) := by decide +kernel
theorem dX7_becomes_97 : decode cX7_becomes 97 = .ok (.iload_n 2, 1) := by decide +kernel
theorem dX7_becomes_98 : decode cX7_becomes 98 = .ok (.ireturn, 1) := by decide +kernel
theorem dX7_turns_0 : decode cX7_turns 0 = .ok (.aload_n 0, 1) := by decide +kernel
theorem dX7_turns_1 : decode cX7_turns 1 = .ok (.iload_n 1, 1) := by decide +kernel
theorem dX7_turns_2 : decode cX7_turns 2 = .ok (.invokevirtual 105, 3) := by decide +kernel
theorem dX7_turns_5 : decode cX7_turns 5 = .ok (.ifCond .eq 19, 3) := by decide +kernel
theorem dX7_turns_8 : decode cX7_turns 8 = .ok (.aload_n 0, 1) := by decide +kernel
theorem dX7_turns_9 : decode cX7_turns 9 = .ok (.iload_n 2, 1) := by decide +kernel
theorem dX7_turns_10 : decode cX7_turns 10 = .ok (.invokevirtual 128, 3) := by decide +kernel
theorem dX7_turns_13 : decode cX7_turns 13 = .ok (.ifCond .eq 11, 3) := by decide +kernel
theorem dX7_turns_16 : decode cX7_turns 16 = .ok (.aload_n 0, 1) := by decide +kernel
theorem dX7_turns_17 : decode cX7_turns 17 = .ok (.iload_n 3, 1) := by decide +kernel
theorem dX7_turns_18 : decode cX7_turns 18 = .ok (.invokevirtual 128, 3) := by decide +kernel
theorem dX7_turns_21 : decode cX7_turns 21 = .ok (.ifCond .ne 9, 3) := by decide +kernel
theorem dX7_turns_24 : decode cX7_turns 24 = .ok (.aload_n 0, 1) := by decide +kernel
theorem dX7_turns_25 : decode cX7_turns 25 = .ok (.iconst (-1), 1) := by decide +kernel
theorem dX7_turns_26 : decode cX7_turns 26 = .ok (.invokevirtual 131, 3) := by decide +kernel
theorem dX7_turns_29 : decode cX7_turns 29 = .ok (.ireturn, 1) := by decide +kernel
theorem dX7_turns_30 : decode cX7_turns 30 = .ok (.iconst 0, 1) := by decide +kernel
theorem dX7_turns_31 : decode cX7_turns 31 = .ok (.istore 4, 2) := by decide +kernel
theorem dX7_turns_33 : decode cX7_turns 33 = .ok (.iload 4, 2) := by decide +kernel
theorem dX7_turns_35 : decode cX7_turns 35 = .ok (.bipush 25, 2) := by decide +kernel
theorem dX7_turns_37 : decode cX7_turns 37 = .ok (.if_icmp .ge 24, 3) := by decide +kernel
theorem dX7_turns_40 : decode cX7_turns 40 = .ok (.aload_n 0, 1) := by decide +kernel
theorem dX7_turns_41 : decode cX7_turns 41 = .ok (.iload_n 1, 1) := by decide +kernel
theorem dX7_turns_42 : decode cX7_turns 42 = .ok (.iload_n 2, 1) := by decide +kernel
theorem dX7_turns_43 : decode cX7_turns 43 = .ok (.iload 4, 2) := by decide +kernel
theorem dX7_turns_45 : decode cX7_turns 45 = .ok (.invokevirtual 212, 3) := by decide +kernel
theorem dX7_turns_48 : decode cX7_turns 48 = .ok (.iload_n 3, 1) := by decide +kernel
theorem dX7_turns_49 : decode cX7_turns 49 = .ok (.if_icmp .ne 6, 3) := by decide +kernel
theorem dX7_turns_52 : decode cX7_turns 52 = .ok (.iload 4, 2) := by decide +kernel
theorem dX7_turns_54 : decode cX7_turns 54 = .ok (.ireturn, 1) := by decide +kernel
theorem dX7_turns_55 : decode cX7_turns 55 = .ok (.iinc 4 1, 3) := by decide +kernel
theorem dX7_turns_58 : decode cX7_turns 58 = .ok (.goto (-25), 3) := by decide +kernel
theorem dX7_turns_61 : decode cX7_turns 61 = .ok (.iconst (-1), 1) := by decide +kernel
theorem dX7_turns_62 : decode cX7_turns 62 = .ok (.ireturn, 1) := by decide +kernel
theorem dX7_could_0 : decode cX7_could 0 = .ok (.aload_n 0, 1) := by decide +kernel
theorem dX7_could_1 : decode cX7_could 1 = .ok (.iload_n 1, 1) := by decide +kernel
theorem dX7_could_2 : decode cX7_could 2 = .ok (.invokevirtual 105, 3) := by decide +kernel
theorem dX7_could_5 : decode cX7_could 5 = .ok (.ifCond .ne 9, 3) := by decide +kernel
theorem dX7_could_8 : decode cX7_could 8 = .ok (.aload_n 0, 1) := by decide +kernel
theorem dX7_could_9 : decode cX7_could 9 = .ok (.iconst (-1), 1) := by decide +kernel
theorem dX7_could_10 : decode cX7_could 10 = .ok (.invokevirtual 94, 3) := by decide +kernel
theorem dX7_could_13 : decode cX7_could 13 = .ok (.ireturn, 1) := by decide +kernel
theorem dX7_could_14 : decode cX7_could 14 = .ok (.iload_n 2, 1) := by decide +kernel
theorem dX7_could_15 : decode cX7_could 15 = .ok (.iconst 0, 1) := by decide +kernel
theorem dX7_could_16 : decode cX7_could 16 = .ok (.ldc 127, 2) := by decide +kernel
theorem dX7_could_18 : decode cX7_could 18 = .ok (.invokestatic 87, 3) := by decide +kernel
theorem dX7_could_21 : decode cX7_could 21 = .ok (.ifCond .eq 13, 3) := by decide +kernel
theorem dX7_could_24 : decode cX7_could 24 = .ok (.iload_n 3, 1) := by decide +kernel
theorem dX7_could_25 : decode cX7_could 25 = .ok (.iconst 0, 1) := by decide +kernel
theorem dX7_could_26 : decode cX7_could 26 = .ok (.bipush 24, 2) := by decide +kernel
theorem dX7_could_28 : decode cX7_could 28 = .ok (.invokestatic 87, 3) := by decide +kernel
theorem dX7_could_31 : decode cX7_could 31 = .ok (.ifCond .ne 10, 3) := by decide +kernel
theorem dX7_could_34 : decode cX7_could 34 = .ok (.aload_n 0, 1) := by decide +kernel
theorem dX7_could_35 : decode cX7_could 35 = .ok (.bipush (-6), 2) := by decide +kernel
theorem dX7_could_37 : decode cX7_could 37 = .ok (.invokevirtual 94, 3) := by decide +kernel
theorem dX7_could_40 : decode cX7_could 40 = .ok (.ireturn, 1) := by decide +kernel
theorem dX7_could_41 : decode cX7_could 41 = .ok (.aload_n 0, 1) := by decide +kernel
theorem dX7_could_42 : decode cX7_could 42 = .ok (.iload_n 1, 1) := by decide +kernel
theorem dX7_could_43 : decode cX7_could 43 = .ok (.iconst (-1), 1) := by decide +kernel
theorem dX7_could_44 : decode cX7_could 44 = .ok (.iload_n 3, 1) := by decide +kernel
theorem dX7_could_45 : decode cX7_could 45 = .ok (.invokevirtual 203, 3) := by decide +kernel
theorem dX7_could_48 : decode cX7_could 48 = .ok (.iload_n 2, 1) := by decide +kernel
theorem dX7_could_49 : decode cX7_could 49 = .ok (.if_icmp .ne 9, 3) := by decide +kernel
theorem dX7_could_52 : decode cX7_could 52 = .ok (.sipush 256, 3) := by decide +kernel
theorem dX7_could_55 : decode cX7_could 55 = .ok (.goto 4, 3) := by decide +kernel
theorem dX7_could_58 : decode cX7_could 58 = .ok (.iconst 0, 1) := by decide +kernel
theorem dX7_could_59 : decode cX7_could 59 = .ok (.istore 4, 2) := by decide +kernel
theorem dX7_could_61 : decode cX7_could 61 = .ok (.iconst 0, 1) := by decide +kernel
theorem dX7_could_62 : decode cX7_could 62 = .ok (.istore 5, 2) := by decide +kernel
theorem dX7_could_64 : decode cX7_could 64 = .ok (.iload 5, 2) := by decide +kernel
theorem dX7_could_66 : decode cX7_could 66 = .ok (.aload_n 0, 1) := by decide +kernel
theorem dX7_could_67 : decode cX7_could 67 = .ok (.getfield 91, 3) := by decide +kernel
theorem dX7_could_70 : decode cX7_could 70 = .ok (.if_icmp .ge 30, 3) := by decide +kernel
theorem dX7_could_73 : decode cX7_could 73 = .ok (.aload_n 0, 1) := by decide +kernel
theorem dX7_could_74 : decode cX7_could 74 = .ok (.iload_n 1, 1) := by decide +kernel
theorem dX7_could_75 : decode cX7_could 75 = .ok (.iload 5, 2) := by decide +kernel
theorem dX7_could_77 : decode cX7_could 77 = .ok (.iload_n 3, 1) := by decide +kernel
theorem dX7_could_78 : decode cX7_could 78 = .ok (.invokevirtual 203, 3) := by decide +kernel
theorem dX7_could_81 : decode cX7_could 81 = .ok (.iload_n 2, 1) := by decide +kernel
theorem dX7_could_82 : decode cX7_could 82 = .ok (.if_icmp .ne 12, 3) := by decide +kernel
theorem dX7_could_85 : decode cX7_could 85 = .ok (.iload 4, 2) := by decide +kernel
theorem dX7_could_87 : decode cX7_could 87 = .ok (.iconst 1, 1) := by decide +kernel
theorem dX7_could_88 : decode cX7_could 88 = .ok (.iload 5, 2) := by decide +kernel
theorem dX7_could_90 : decode cX7_could 90 = .ok (.ishl, 1) := by decide +kernel
theorem dX7_could_91 : decode cX7_could 91 = .ok (.ior, 1) := by decide +kernel
theorem dX7_could_92 : decode cX7_could 92 = .ok (.istore 4, 2) := by decide +kernel
theorem dX7_could_94 : decode cX7_could 94 = .ok (.iinc 5 1, 3) := by decide +kernel
theorem dX7_could_97 : decode cX7_could 97 = .ok (.goto (-33), 3) := by decide +kernel
theorem dX7_could_100 : decode cX7_could 100 = .ok (.iload 4, 2) := by decide +kernel
theorem dX7_could_102 : decode cX7_could 102 = .ok (.ireturn, 1) := by decide +kernel
theorem dX7_unlike_0 : decode cX7_unlike 0 = .ok (.aload_n 0, 1) := by decide +kernel
theorem dX7_unlike_1 : decode cX7_unlike 1 = .ok (.iload_n 1, 1) := by decide +kernel
theorem dX7_unlike_2 : decode cX7_unlike 2 = .ok (.invokevirtual 128, 3) := by decide +kernel
theorem dX7_unlike_5 : decode cX7_unlike 5 = .ok (.ifCond .eq 30, 3) := by decide +kernel
theorem dX7_unlike_8 : decode cX7_unlike 8 = .ok (.aload_n 0, 1) := by decide +kernel
theorem dX7_unlike_9 : decode cX7_unlike 9 = .ok (.iload_n 2, 1) := by decide +kernel
theorem dX7_unlike_10 : decode cX7_unlike 10 = .ok (.invokevirtual 128, 3) := by decide +kernel
theorem dX7_unlike_13 : decode cX7_unlike 13 = .ok (.ifCond .eq 22, 3) := by decide +kernel
theorem dX7_unlike_16 : decode cX7_unlike 16 = .ok (.aload_n 0, 1) := by decide +kernel
theorem dX7_unlike_17 : decode cX7_unlike 17 = .ok (.getfield 20, 3) := by decide +kernel
theorem dX7_unlike_20 : decode cX7_unlike 20 = .ok (.iload_n 1, 1) := by decide +kernel
theorem dX7_unlike_21 : decode cX7_unlike 21 = .ok (.iaload, 1) := by decide +kernel
theorem dX7_unlike_22 : decode cX7_unlike 22 = .ok (.aload_n 0, 1) := by decide +kernel
theorem dX7_unlike_23 : decode cX7_unlike 23 = .ok (.getfield 20, 3) := by decide +kernel
theorem dX7_unlike_26 : decode cX7_unlike 26 = .ok (.iload_n 2, 1) := by decide +kernel
theorem dX7_unlike_27 : decode cX7_unlike 27 = .ok (.iaload, 1) := by decide +kernel
theorem dX7_unlike_28 : decode cX7_unlike 28 = .ok (.ixor, 1) := by decide +kernel
theorem dX7_unlike_29 : decode cX7_unlike 29 = .ok (.invokestatic 198, 3) := by decide +kernel
theorem dX7_unlike_32 : decode cX7_unlike 32 = .ok (.goto 8, 3) := by decide +kernel
theorem dX7_unlike_35 : decode cX7_unlike 35 = .ok (.aload_n 0, 1) := by decide +kernel
theorem dX7_unlike_36 : decode cX7_unlike 36 = .ok (.iconst (-1), 1) := by decide +kernel
theorem dX7_unlike_37 : decode cX7_unlike 37 = .ok (.invokevirtual 94, 3) := by decide +kernel
theorem dX7_unlike_40 : decode cX7_unlike 40 = .ok (.ireturn, 1) := by decide +kernel
theorem dX7_closest_0 : decode cX7_closest 0 = .ok (.aload_n 0, 1) := by decide +kernel
theorem dX7_closest_1 : decode cX7_closest 1 = .ok (.getfield 91, 3) := by decide +kernel
theorem dX7_closest_4 : decode cX7_closest 4 = .ok (.iconst 2, 1) := by decide +kernel
theorem dX7_closest_5 : decode cX7_closest 5 = .ok (.if_icmp .ge 10, 3) := by decide +kernel
theorem dX7_closest_8 : decode cX7_closest 8 = .ok (.aload_n 0, 1) := by decide +kernel
theorem dX7_closest_9 : decode cX7_closest 9 = .ok (.bipush (-5), 2) := by decide +kernel
theorem dX7_closest_11 : decode cX7_closest 11 = .ok (.invokevirtual 94, 3) := by decide +kernel
theorem dX7_closest_14 : decode cX7_closest 14 = .ok (.ireturn, 1) := by decide +kernel
theorem dX7_closest_15 : decode cX7_closest 15 = .ok (.iconst (-1), 1) := by decide +kernel
theorem dX7_closest_16 : decode cX7_closest 16 = .ok (.istore_n 1, 1) := by decide +kernel
theorem dX7_closest_17 : decode cX7_closest 17 = .ok (.bipush 17, 2) := by decide +kernel
theorem dX7_closest_19 : decode cX7_closest 19 = .ok (.istore_n 2, 1) := by decide +kernel
theorem dX7_closest_20 : decode cX7_closest 20 = .ok (.iconst 0, 1) := by decide +kernel
theorem dX7_closest_21 : decode cX7_closest 21 = .ok (.istore_n 3, 1) := by decide +kernel
theorem dX7_closest_22 : decode cX7_closest 22 = .ok (.iload_n 3, 1) := by decide +kernel
theorem dX7_closest_23 : decode cX7_closest 23 = .ok (.aload_n 0, 1) := by decide +kernel
theorem dX7_closest_24 : decode cX7_closest 24 = .ok (.getfield 91, 3) := by decide +kernel
theorem dX7_closest_27 : decode cX7_closest 27 = .ok (.if_icmp .ge 68, 3) := by decide +kernel
theorem dX7_closest_30 : decode cX7_closest 30 = .ok (.iload_n 3, 1) := by decide +kernel
theorem dX7_closest_31 : decode cX7_closest 31 = .ok (.iconst 1, 1) := by decide +kernel
theorem dX7_closest_32 : decode cX7_closest 32 = .ok (.iadd, 1) := by decide +kernel
theorem dX7_closest_33 : decode cX7_closest 33 = .ok (.istore 4, 2) := by decide +kernel
theorem dX7_closest_35 : decode cX7_closest 35 = .ok (.iload 4, 2) := by decide +kernel
theorem dX7_closest_37 : decode cX7_closest 37 = .ok (.aload_n 0, 1) := by decide +kernel
theorem dX7_closest_38 : decode cX7_closest 38 = .ok (.getfield 91, 3) := by decide +kernel
theorem dX7_closest_41 : decode cX7_closest 41 = .ok (.if_icmp .ge 48, 3) := by decide +kernel
theorem dX7_closest_44 : decode cX7_closest 44 = .ok (.aload_n 0, 1) := by decide +kernel
theorem dX7_closest_45 : decode cX7_closest 45 = .ok (.getfield 20, 3) := by decide +kernel
theorem dX7_closest_48 : decode cX7_closest 48 = .ok (.iload_n 3, 1) := by decide +kernel
theorem dX7_closest_49 : decode cX7_closest 49 = .ok (.iaload, 1) := by decide +kernel
theorem dX7_closest_50 : decode cX7_closest 50 = .ok (.aload_n 0, 1) := by decide +kernel
theorem dX7_closest_51 : decode cX7_closest 51 = .ok (.getfield 20, 3) := by decide +kernel
theorem dX7_closest_54 : decode cX7_closest 54 = .ok (.iload 4, 2) := by decide +kernel
theorem dX7_closest_56 : decode cX7_closest 56 = .ok (.iaload, 1) := by decide +kernel
theorem dX7_closest_57 : decode cX7_closest 57 = .ok (.ixor, 1) := by decide +kernel
theorem dX7_closest_58 : decode cX7_closest 58 = .ok (.invokestatic 198, 3) := by decide +kernel
theorem dX7_closest_61 : decode cX7_closest 61 = .ok (.istore 5, 2) := by decide +kernel
theorem dX7_closest_63 : decode cX7_closest 63 = .ok (.iload 5, 2) := by decide +kernel
theorem dX7_closest_65 : decode cX7_closest 65 = .ok (.iload_n 2, 1) := by decide +kernel
theorem dX7_closest_66 : decode cX7_closest 66 = .ok (.if_icmp .lt 6, 3) := by decide +kernel
theorem dX7_closest_69 : decode cX7_closest 69 = .ok (.goto 14, 3) := by decide +kernel
theorem dX7_closest_72 : decode cX7_closest 72 = .ok (.iload 5, 2) := by decide +kernel
theorem dX7_closest_74 : decode cX7_closest 74 = .ok (.istore_n 2, 1) := by decide +kernel
theorem dX7_closest_75 : decode cX7_closest 75 = .ok (.bipush 10, 2) := by decide +kernel
theorem dX7_closest_77 : decode cX7_closest 77 = .ok (.iload_n 3, 1) := by decide +kernel
theorem dX7_closest_78 : decode cX7_closest 78 = .ok (.imul, 1) := by decide +kernel
theorem dX7_closest_79 : decode cX7_closest 79 = .ok (.iload 4, 2) := by decide +kernel
theorem dX7_closest_81 : decode cX7_closest 81 = .ok (.iadd, 1) := by decide +kernel
theorem dX7_closest_82 : decode cX7_closest 82 = .ok (.istore_n 1, 1) := by decide +kernel
theorem dX7_closest_83 : decode cX7_closest 83 = .ok (.iinc 4 1, 3) := by decide +kernel
theorem dX7_closest_86 : decode cX7_closest 86 = .ok (.goto (-51), 3) := by decide +kernel
theorem dX7_closest_89 : decode cX7_closest 89 = .ok (.iinc 3 1, 3) := by decide +kernel
theorem dX7_closest_92 : decode cX7_closest 92 = .ok (.goto (-70), 3) := by decide +kernel
theorem dX7_closest_95 : decode cX7_closest 95 = .ok (.iload_n 1, 1) := by decide +kernel
theorem dX7_closest_96 : decode cX7_closest 96 = .ok (.ireturn, 1) := by decide +kernel
theorem dX7_mend_0 : decode cX7_mend 0 = .ok (.aload_n 0, 1) := by decide +kernel
theorem dX7_mend_1 : decode cX7_mend 1 = .ok (.iload_n 1, 1) := by decide +kernel
theorem dX7_mend_2 : decode cX7_mend 2 = .ok (.invokevirtual 128, 3) := by decide +kernel
theorem dX7_mend_5 : decode cX7_mend 5 = .ok (.ifCond .ne 9, 3) := by decide +kernel
theorem dX7_mend_8 : decode cX7_mend 8 = .ok (.aload_n 0, 1) := by decide +kernel
theorem dX7_mend_9 : decode cX7_mend 9 = .ok (.iconst (-1), 1) := by decide +kernel
theorem dX7_mend_10 : decode cX7_mend 10 = .ok (.invokevirtual 94, 3) := by decide +kernel
theorem dX7_mend_13 : decode cX7_mend 13 = .ok (.ireturn, 1) := by decide +kernel
theorem dX7_mend_14 : decode cX7_mend 14 = .ok (.aload_n 0, 1) := by decide +kernel
theorem dX7_mend_15 : decode cX7_mend 15 = .ok (.getfield 91, 3) := by decide +kernel
theorem dX7_mend_18 : decode cX7_mend 18 = .ok (.iconst 2, 1) := by decide +kernel
theorem dX7_mend_19 : decode cX7_mend 19 = .ok (.if_icmp .ge 10, 3) := by decide +kernel
theorem dX7_mend_22 : decode cX7_mend 22 = .ok (.aload_n 0, 1) := by decide +kernel
theorem dX7_mend_23 : decode cX7_mend 23 = .ok (.bipush (-5), 2) := by decide +kernel
theorem dX7_mend_25 : decode cX7_mend 25 = .ok (.invokevirtual 94, 3) := by decide +kernel
theorem dX7_mend_28 : decode cX7_mend 28 = .ok (.ireturn, 1) := by decide +kernel
theorem dX7_mend_29 : decode cX7_mend 29 = .ok (.iconst (-1), 1) := by decide +kernel
theorem dX7_mend_30 : decode cX7_mend 30 = .ok (.istore_n 2, 1) := by decide +kernel
theorem dX7_mend_31 : decode cX7_mend 31 = .ok (.iconst (-1), 1) := by decide +kernel
theorem dX7_mend_32 : decode cX7_mend 32 = .ok (.istore_n 3, 1) := by decide +kernel
theorem dX7_mend_33 : decode cX7_mend 33 = .ok (.iconst 0, 1) := by decide +kernel
theorem dX7_mend_34 : decode cX7_mend 34 = .ok (.istore 4, 2) := by decide +kernel
theorem dX7_mend_36 : decode cX7_mend 36 = .ok (.iload 4, 2) := by decide +kernel
theorem dX7_mend_38 : decode cX7_mend 38 = .ok (.bipush 16, 2) := by decide +kernel
theorem dX7_mend_40 : decode cX7_mend 40 = .ok (.if_icmp .ge 81, 3) := by decide +kernel
theorem dX7_mend_43 : decode cX7_mend 43 = .ok (.bipush 17, 2) := by decide +kernel
theorem dX7_mend_45 : decode cX7_mend 45 = .ok (.istore 5, 2) := by decide +kernel
theorem dX7_mend_47 : decode cX7_mend 47 = .ok (.iconst 0, 1) := by decide +kernel
theorem dX7_mend_48 : decode cX7_mend 48 = .ok (.istore 6, 2) := by decide +kernel
theorem dX7_mend_50 : decode cX7_mend 50 = .ok (.iload 6, 2) := by decide +kernel
theorem dX7_mend_52 : decode cX7_mend 52 = .ok (.aload_n 0, 1) := by decide +kernel
theorem dX7_mend_53 : decode cX7_mend 53 = .ok (.getfield 91, 3) := by decide +kernel
theorem dX7_mend_56 : decode cX7_mend 56 = .ok (.if_icmp .ge 44, 3) := by decide +kernel
theorem dX7_mend_59 : decode cX7_mend 59 = .ok (.iload 6, 2) := by decide +kernel
theorem dX7_mend_61 : decode cX7_mend 61 = .ok (.iload_n 1, 1) := by decide +kernel
theorem dX7_mend_62 : decode cX7_mend 62 = .ok (.if_icmp .eq 32, 3) := by decide +kernel
theorem dX7_mend_65 : decode cX7_mend 65 = .ok (.iload 5, 2) := by decide +kernel
theorem dX7_mend_67 : decode cX7_mend 67 = .ok (.aload_n 0, 1) := by decide +kernel
theorem dX7_mend_68 : decode cX7_mend 68 = .ok (.getfield 20, 3) := by decide +kernel
theorem dX7_mend_71 : decode cX7_mend 71 = .ok (.iload_n 1, 1) := by decide +kernel
theorem dX7_mend_72 : decode cX7_mend 72 = .ok (.iaload, 1) := by decide +kernel
theorem dX7_mend_73 : decode cX7_mend 73 = .ok (.iconst 1, 1) := by decide +kernel
theorem dX7_mend_74 : decode cX7_mend 74 = .ok (.iload 4, 2) := by decide +kernel
theorem dX7_mend_76 : decode cX7_mend 76 = .ok (.ishl, 1) := by decide +kernel
theorem dX7_mend_77 : decode cX7_mend 77 = .ok (.ixor, 1) := by decide +kernel
theorem dX7_mend_78 : decode cX7_mend 78 = .ok (.aload_n 0, 1) := by decide +kernel
theorem dX7_mend_79 : decode cX7_mend 79 = .ok (.getfield 20, 3) := by decide +kernel
theorem dX7_mend_82 : decode cX7_mend 82 = .ok (.iload 6, 2) := by decide +kernel
theorem dX7_mend_84 : decode cX7_mend 84 = .ok (.iaload, 1) := by decide +kernel
theorem dX7_mend_85 : decode cX7_mend 85 = .ok (.ixor, 1) := by decide +kernel
theorem dX7_mend_86 : decode cX7_mend 86 = .ok (.invokestatic 198, 3) := by decide +kernel
theorem dX7_mend_89 : decode cX7_mend 89 = .ok (.invokestatic 185, 3) := by decide +kernel
theorem dX7_mend_92 : decode cX7_mend 92 = .ok (.istore 5, 2) := by decide +kernel
theorem dX7_mend_94 : decode cX7_mend 94 = .ok (.iinc 6 1, 3) := by decide +kernel
theorem dX7_mend_97 : decode cX7_mend 97 = .ok (.goto (-47), 3) := by decide +kernel
theorem dX7_mend_100 : decode cX7_mend 100 = .ok (.iload 5, 2) := by decide +kernel
theorem dX7_mend_102 : decode cX7_mend 102 = .ok (.iload_n 3, 1) := by decide +kernel
theorem dX7_mend_103 : decode cX7_mend 103 = .ok (.if_icmp .gt 6, 3) := by decide +kernel
theorem dX7_mend_106 : decode cX7_mend 106 = .ok (.goto 9, 3) := by decide +kernel
theorem dX7_mend_109 : decode cX7_mend 109 = .ok (.iload 5, 2) := by decide +kernel
theorem dX7_mend_111 : decode cX7_mend 111 = .ok (.istore_n 3, 1) := by decide +kernel
theorem dX7_mend_112 : decode cX7_mend 112 = .ok (.iload 4, 2) := by decide +kernel
theorem dX7_mend_114 : decode cX7_mend 114 = .ok (.istore_n 2, 1) := by decide +kernel
theorem dX7_mend_115 : decode cX7_mend 115 = .ok (.iinc 4 1, 3) := by decide +kernel
theorem dX7_mend_118 : decode cX7_mend 118 = .ok (.goto (-82), 3) := by decide +kernel
theorem dX7_mend_121 : decode cX7_mend 121 = .ok (.iload_n 2, 1) := by decide +kernel
theorem dX7_mend_122 : decode cX7_mend 122 = .ok (.ireturn, 1) := by decide +kernel
theorem dX7_stove_0 : decode cX7_stove 0 = .ok (.aload_n 0, 1) := by decide +kernel
theorem dX7_stove_1 : decode cX7_stove 1 = .ok (.iload_n 1, 1) := by decide +kernel
theorem dX7_stove_2 : decode cX7_stove 2 = .ok (.invokevirtual 105, 3) := by decide +kernel
theorem dX7_stove_5 : decode cX7_stove 5 = .ok (.ifCond .eq 11, 3) := by decide +kernel
theorem dX7_stove_8 : decode cX7_stove 8 = .ok (.aload_n 0, 1) := by decide +kernel
theorem dX7_stove_9 : decode cX7_stove 9 = .ok (.iload_n 2, 1) := by decide +kernel
theorem dX7_stove_10 : decode cX7_stove 10 = .ok (.invokevirtual 128, 3) := by decide +kernel
theorem dX7_stove_13 : decode cX7_stove 13 = .ok (.ifCond .ne 9, 3) := by decide +kernel
theorem dX7_stove_16 : decode cX7_stove 16 = .ok (.aload_n 0, 1) := by decide +kernel
theorem dX7_stove_17 : decode cX7_stove 17 = .ok (.iconst (-1), 1) := by decide +kernel
theorem dX7_stove_18 : decode cX7_stove 18 = .ok (.invokevirtual 131, 3) := by decide +kernel
theorem dX7_stove_21 : decode cX7_stove 21 = .ok (.ireturn, 1) := by decide +kernel
theorem dX7_stove_22 : decode cX7_stove 22 = .ok (.iload_n 3, 1) := by decide +kernel
theorem dX7_stove_23 : decode cX7_stove 23 = .ok (.iconst 0, 1) := by decide +kernel
theorem dX7_stove_24 : decode cX7_stove 24 = .ok (.bipush 24, 2) := by decide +kernel
theorem dX7_stove_26 : decode cX7_stove 26 = .ok (.invokestatic 87, 3) := by decide +kernel
theorem dX7_stove_29 : decode cX7_stove 29 = .ok (.ifCond .ne 10, 3) := by decide +kernel
theorem dX7_stove_32 : decode cX7_stove 32 = .ok (.aload_n 0, 1) := by decide +kernel
theorem dX7_stove_33 : decode cX7_stove 33 = .ok (.bipush (-6), 2) := by decide +kernel
theorem dX7_stove_35 : decode cX7_stove 35 = .ok (.invokevirtual 131, 3) := by decide +kernel
theorem dX7_stove_38 : decode cX7_stove 38 = .ok (.ireturn, 1) := by decide +kernel
theorem dX7_stove_39 : decode cX7_stove 39 = .ok (.aload_n 0, 1) := by decide +kernel
theorem dX7_stove_40 : decode cX7_stove 40 = .ok (.getfield 26, 3) := by decide +kernel
theorem dX7_stove_43 : decode cX7_stove 43 = .ok (.iload_n 1, 1) := by decide +kernel
theorem dX7_stove_44 : decode cX7_stove 44 = .ok (.iaload, 1) := by decide +kernel
theorem dX7_stove_45 : decode cX7_stove 45 = .ok (.istore 4, 2) := by decide +kernel
theorem dX7_stove_47 : decode cX7_stove 47 = .ok (.iconst (-1), 1) := by decide +kernel
theorem dX7_stove_48 : decode cX7_stove 48 = .ok (.istore 5, 2) := by decide +kernel
theorem dX7_stove_50 : decode cX7_stove 50 = .ok (.bipush 9, 2) := by decide +kernel
theorem dX7_stove_52 : decode cX7_stove 52 = .ok (.istore 6, 2) := by decide +kernel
theorem dX7_stove_54 : decode cX7_stove 54 = .ok (.iload 6, 2) := by decide +kernel
theorem dX7_stove_56 : decode cX7_stove 56 = .ok (.ifCond .lt 37, 3) := by decide +kernel
theorem dX7_stove_59 : decode cX7_stove 59 = .ok (.iload 5, 2) := by decide +kernel
theorem dX7_stove_61 : decode cX7_stove 61 = .ok (.ifCond .ge 32, 3) := by decide +kernel
theorem dX7_stove_64 : decode cX7_stove 64 = .ok (.aload_n 0, 1) := by decide +kernel
theorem dX7_stove_65 : decode cX7_stove 65 = .ok (.getfield 26, 3) := by decide +kernel
theorem dX7_stove_68 : decode cX7_stove 68 = .ok (.iload_n 1, 1) := by decide +kernel
theorem dX7_stove_69 : decode cX7_stove 69 = .ok (.iload 6, 2) := by decide +kernel
theorem dX7_stove_71 : decode cX7_stove 71 = .ok (.iastore, 1) := by decide +kernel
theorem dX7_stove_72 : decode cX7_stove 72 = .ok (.aload_n 0, 1) := by decide +kernel
theorem dX7_stove_73 : decode cX7_stove 73 = .ok (.iload_n 1, 1) := by decide +kernel
theorem dX7_stove_74 : decode cX7_stove 74 = .ok (.iload_n 2, 1) := by decide +kernel
theorem dX7_stove_75 : decode cX7_stove 75 = .ok (.iload_n 3, 1) := by decide +kernel
theorem dX7_stove_76 : decode cX7_stove 76 = .ok (.invokevirtual 212, 3) := by decide +kernel
theorem dX7_stove_79 : decode cX7_stove 79 = .ok (.iload_n 2, 1) := by decide +kernel
theorem dX7_stove_80 : decode cX7_stove 80 = .ok (.if_icmp .ne 7, 3) := by decide +kernel
theorem dX7_stove_83 : decode cX7_stove 83 = .ok (.iload 6, 2) := by decide +kernel
theorem dX7_stove_85 : decode cX7_stove 85 = .ok (.istore 5, 2) := by decide +kernel
theorem dX7_stove_87 : decode cX7_stove 87 = .ok (.iinc 6 (-1), 3) := by decide +kernel
theorem dX7_stove_90 : decode cX7_stove 90 = .ok (.goto (-36), 3) := by decide +kernel
theorem dX7_stove_93 : decode cX7_stove 93 = .ok (.aload_n 0, 1) := by decide +kernel
theorem dX7_stove_94 : decode cX7_stove 94 = .ok (.getfield 26, 3) := by decide +kernel
theorem dX7_stove_97 : decode cX7_stove 97 = .ok (.iload_n 1, 1) := by decide +kernel
theorem dX7_stove_98 : decode cX7_stove 98 = .ok (.iload 4, 2) := by decide +kernel
theorem dX7_stove_100 : decode cX7_stove 100 = .ok (.iastore, 1) := by decide +kernel
theorem dX7_stove_101 : decode cX7_stove 101 = .ok (.iload 5, 2) := by decide +kernel
theorem dX7_stove_103 : decode cX7_stove 103 = .ok (.ireturn, 1) := by decide +kernel
theorem dX7_chill_0 : decode cX7_chill 0 = .ok (.aload_n 0, 1) := by decide +kernel
theorem dX7_chill_1 : decode cX7_chill 1 = .ok (.iload_n 1, 1) := by decide +kernel
theorem dX7_chill_2 : decode cX7_chill 2 = .ok (.invokevirtual 105, 3) := by decide +kernel
theorem dX7_chill_5 : decode cX7_chill 5 = .ok (.ifCond .eq 11, 3) := by decide +kernel
theorem dX7_chill_8 : decode cX7_chill 8 = .ok (.aload_n 0, 1) := by decide +kernel
theorem dX7_chill_9 : decode cX7_chill 9 = .ok (.iload_n 2, 1) := by decide +kernel
theorem dX7_chill_10 : decode cX7_chill 10 = .ok (.invokevirtual 128, 3) := by decide +kernel
theorem dX7_chill_13 : decode cX7_chill 13 = .ok (.ifCond .ne 9, 3) := by decide +kernel
theorem dX7_chill_16 : decode cX7_chill 16 = .ok (.aload_n 0, 1) := by decide +kernel
theorem dX7_chill_17 : decode cX7_chill 17 = .ok (.iconst (-1), 1) := by decide +kernel
theorem dX7_chill_18 : decode cX7_chill 18 = .ok (.invokevirtual 131, 3) := by decide +kernel
theorem dX7_chill_21 : decode cX7_chill 21 = .ok (.ireturn, 1) := by decide +kernel
theorem dX7_chill_22 : decode cX7_chill 22 = .ok (.iload_n 3, 1) := by decide +kernel
theorem dX7_chill_23 : decode cX7_chill 23 = .ok (.iconst 0, 1) := by decide +kernel
theorem dX7_chill_24 : decode cX7_chill 24 = .ok (.bipush 24, 2) := by decide +kernel
theorem dX7_chill_26 : decode cX7_chill 26 = .ok (.invokestatic 87, 3) := by decide +kernel
theorem dX7_chill_29 : decode cX7_chill 29 = .ok (.ifCond .ne 10, 3) := by decide +kernel
theorem dX7_chill_32 : decode cX7_chill 32 = .ok (.aload_n 0, 1) := by decide +kernel
theorem dX7_chill_33 : decode cX7_chill 33 = .ok (.bipush (-6), 2) := by decide +kernel
theorem dX7_chill_35 : decode cX7_chill 35 = .ok (.invokevirtual 131, 3) := by decide +kernel
theorem dX7_chill_38 : decode cX7_chill 38 = .ok (.ireturn, 1) := by decide +kernel
theorem dX7_chill_39 : decode cX7_chill 39 = .ok (.aload_n 0, 1) := by decide +kernel
theorem dX7_chill_40 : decode cX7_chill 40 = .ok (.getfield 65, 3) := by decide +kernel
theorem dX7_chill_43 : decode cX7_chill 43 = .ok (.istore 4, 2) := by decide +kernel
theorem dX7_chill_45 : decode cX7_chill 45 = .ok (.iconst (-1), 1) := by decide +kernel
theorem dX7_chill_46 : decode cX7_chill 46 = .ok (.istore 5, 2) := by decide +kernel
theorem dX7_chill_48 : decode cX7_chill 48 = .ok (.iconst 0, 1) := by decide +kernel
theorem dX7_chill_49 : decode cX7_chill 49 = .ok (.istore 6, 2) := by decide +kernel
theorem dX7_chill_51 : decode cX7_chill 51 = .ok (.iload 6, 2) := by decide +kernel
theorem dX7_chill_53 : decode cX7_chill 53 = .ok (.bipush 41, 2) := by decide +kernel
theorem dX7_chill_55 : decode cX7_chill 55 = .ok (.if_icmp .ge 35, 3) := by decide +kernel
theorem dX7_chill_58 : decode cX7_chill 58 = .ok (.iload 5, 2) := by decide +kernel
theorem dX7_chill_60 : decode cX7_chill 60 = .ok (.ifCond .ge 30, 3) := by decide +kernel
theorem dX7_chill_63 : decode cX7_chill 63 = .ok (.aload_n 0, 1) := by decide +kernel
theorem dX7_chill_64 : decode cX7_chill 64 = .ok (.iload 6, 2) := by decide +kernel
theorem dX7_chill_66 : decode cX7_chill 66 = .ok (.putfield 65, 3) := by decide +kernel
theorem dX7_chill_69 : decode cX7_chill 69 = .ok (.aload_n 0, 1) := by decide +kernel
theorem dX7_chill_70 : decode cX7_chill 70 = .ok (.iload_n 1, 1) := by decide +kernel
theorem dX7_chill_71 : decode cX7_chill 71 = .ok (.iload_n 2, 1) := by decide +kernel
theorem dX7_chill_72 : decode cX7_chill 72 = .ok (.iload_n 3, 1) := by decide +kernel
theorem dX7_chill_73 : decode cX7_chill 73 = .ok (.invokevirtual 212, 3) := by decide +kernel
theorem dX7_chill_76 : decode cX7_chill 76 = .ok (.iload_n 2, 1) := by decide +kernel
theorem dX7_chill_77 : decode cX7_chill 77 = .ok (.if_icmp .ne 7, 3) := by decide +kernel
theorem dX7_chill_80 : decode cX7_chill 80 = .ok (.iload 6, 2) := by decide +kernel
theorem dX7_chill_82 : decode cX7_chill 82 = .ok (.istore 5, 2) := by decide +kernel
theorem dX7_chill_84 : decode cX7_chill 84 = .ok (.iinc 6 1, 3) := by decide +kernel
theorem dX7_chill_87 : decode cX7_chill 87 = .ok (.goto (-36), 3) := by decide +kernel
theorem dX7_chill_90 : decode cX7_chill 90 = .ok (.aload_n 0, 1) := by decide +kernel
theorem dX7_chill_91 : decode cX7_chill 91 = .ok (.iload 4, 2) := by decide +kernel
theorem dX7_chill_93 : decode cX7_chill 93 = .ok (.putfield 65, 3) := by decide +kernel
theorem dX7_chill_96 : decode cX7_chill 96 = .ok (.iload 5, 2) := by decide +kernel
theorem dX7_chill_98 : decode cX7_chill 98 = .ok (.ireturn, 1) := by decide +kernel
theorem dX7_mistaken_0 : decode cX7_mistaken 0 = .ok (.iconst 0, 1) := by decide +kernel
theorem dX7_mistaken_1 : decode cX7_mistaken 1 = .ok (.istore_n 1, 1) := by decide +kernel
theorem dX7_mistaken_2 : decode cX7_mistaken 2 = .ok (.iconst 0, 1) := by decide +kernel
theorem dX7_mistaken_3 : decode cX7_mistaken 3 = .ok (.istore_n 2, 1) := by decide +kernel
theorem dX7_mistaken_4 : decode cX7_mistaken 4 = .ok (.iload_n 2, 1) := by decide +kernel
theorem dX7_mistaken_5 : decode cX7_mistaken 5 = .ok (.aload_n 0, 1) := by decide +kernel
theorem dX7_mistaken_6 : decode cX7_mistaken 6 = .ok (.getfield 84, 3) := by decide +kernel
theorem dX7_mistaken_9 : decode cX7_mistaken 9 = .ok (.if_icmp .ge 36, 3) := by decide +kernel
theorem dX7_mistaken_12 : decode cX7_mistaken 12 = .ok (.aload_n 0, 1) := by decide +kernel
theorem dX7_mistaken_13 : decode cX7_mistaken 13 = .ok (.getfield 32, 3) := by decide +kernel
theorem dX7_mistaken_16 : decode cX7_mistaken 16 = .ok (.iload_n 2, 1) := by decide +kernel
theorem dX7_mistaken_17 : decode cX7_mistaken 17 = .ok (.iaload, 1) := by decide +kernel
theorem dX7_mistaken_18 : decode cX7_mistaken 18 = .ok (.iconst (-1), 1) := by decide +kernel
theorem dX7_mistaken_19 : decode cX7_mistaken 19 = .ok (.if_icmp .ne 20, 3) := by decide +kernel
theorem dX7_mistaken_22 : decode cX7_mistaken 22 = .ok (.aload_n 0, 1) := by decide +kernel
theorem dX7_mistaken_23 : decode cX7_mistaken 23 = .ok (.iload_n 2, 1) := by decide +kernel
theorem dX7_mistaken_24 : decode cX7_mistaken 24 = .ok (.iconst (-1), 1) := by decide +kernel
theorem dX7_mistaken_25 : decode cX7_mistaken 25 = .ok (.iconst 0, 1) := by decide +kernel
theorem dX7_mistaken_26 : decode cX7_mistaken 26 = .ok (.invokevirtual 212, 3) := by decide +kernel
theorem dX7_mistaken_29 : decode cX7_mistaken 29 = .ok (.iconst (-1), 1) := by decide +kernel
theorem dX7_mistaken_30 : decode cX7_mistaken 30 = .ok (.if_icmp .eq 9, 3) := by decide +kernel
theorem dX7_mistaken_33 : decode cX7_mistaken 33 = .ok (.iload_n 1, 1) := by decide +kernel
theorem dX7_mistaken_34 : decode cX7_mistaken 34 = .ok (.iconst 1, 1) := by decide +kernel
theorem dX7_mistaken_35 : decode cX7_mistaken 35 = .ok (.iload_n 2, 1) := by decide +kernel
theorem dX7_mistaken_36 : decode cX7_mistaken 36 = .ok (.ishl, 1) := by decide +kernel
theorem dX7_mistaken_37 : decode cX7_mistaken 37 = .ok (.ior, 1) := by decide +kernel
theorem dX7_mistaken_38 : decode cX7_mistaken 38 = .ok (.istore_n 1, 1) := by decide +kernel
theorem dX7_mistaken_39 : decode cX7_mistaken 39 = .ok (.iinc 2 1, 3) := by decide +kernel
theorem dX7_mistaken_42 : decode cX7_mistaken 42 = .ok (.goto (-38), 3) := by decide +kernel
theorem dX7_mistaken_45 : decode cX7_mistaken 45 = .ok (.iload_n 1, 1) := by decide +kernel
theorem dX7_mistaken_46 : decode cX7_mistaken 46 = .ok (.ireturn, 1) := by decide +kernel
theorem dX7_let_0 : decode cX7_let 0 = .ok (.iconst 0, 1) := by decide +kernel
theorem dX7_let_1 : decode cX7_let 1 = .ok (.istore_n 1, 1) := by decide +kernel
theorem dX7_let_2 : decode cX7_let 2 = .ok (.iconst 1, 1) := by decide +kernel
theorem dX7_let_3 : decode cX7_let 3 = .ok (.istore_n 2, 1) := by decide +kernel
theorem dX7_let_4 : decode cX7_let 4 = .ok (.iconst 0, 1) := by decide +kernel
theorem dX7_let_5 : decode cX7_let 5 = .ok (.istore_n 3, 1) := by decide +kernel
theorem dX7_let_6 : decode cX7_let 6 = .ok (.iload_n 3, 1) := by decide +kernel
theorem dX7_let_7 : decode cX7_let 7 = .ok (.aload_n 0, 1) := by decide +kernel
theorem dX7_let_8 : decode cX7_let 8 = .ok (.getfield 84, 3) := by decide +kernel
theorem dX7_let_11 : decode cX7_let 11 = .ok (.if_icmp .ge 74, 3) := by decide +kernel
theorem dX7_let_14 : decode cX7_let 14 = .ok (.aload_n 0, 1) := by decide +kernel
theorem dX7_let_15 : decode cX7_let 15 = .ok (.getfield 59, 3) := by decide +kernel
theorem dX7_let_18 : decode cX7_let 18 = .ok (.iload_n 3, 1) := by decide +kernel
theorem dX7_let_19 : decode cX7_let 19 = .ok (.iconst 0, 1) := by decide +kernel
theorem dX7_let_20 : decode cX7_let 20 = .ok (.iastore, 1) := by decide +kernel
theorem dX7_let_21 : decode cX7_let 21 = .ok (.iconst 0, 1) := by decide +kernel
theorem dX7_let_22 : decode cX7_let 22 = .ok (.istore 4, 2) := by decide +kernel
theorem dX7_let_24 : decode cX7_let 24 = .ok (.iload 4, 2) := by decide +kernel
theorem dX7_let_26 : decode cX7_let 26 = .ok (.bipush 25, 2) := by decide +kernel
theorem dX7_let_28 : decode cX7_let 28 = .ok (.if_icmp .ge 51, 3) := by decide +kernel
theorem dX7_let_31 : decode cX7_let 31 = .ok (.aload_n 0, 1) := by decide +kernel
theorem dX7_let_32 : decode cX7_let 32 = .ok (.getfield 32, 3) := by decide +kernel
theorem dX7_let_35 : decode cX7_let 35 = .ok (.iload_n 3, 1) := by decide +kernel
theorem dX7_let_36 : decode cX7_let 36 = .ok (.iaload, 1) := by decide +kernel
theorem dX7_let_37 : decode cX7_let 37 = .ok (.iconst (-1), 1) := by decide +kernel
theorem dX7_let_38 : decode cX7_let 38 = .ok (.if_icmp .eq 41, 3) := by decide +kernel
theorem dX7_let_41 : decode cX7_let 41 = .ok (.aload_n 0, 1) := by decide +kernel
theorem dX7_let_42 : decode cX7_let 42 = .ok (.iload_n 3, 1) := by decide +kernel
theorem dX7_let_43 : decode cX7_let 43 = .ok (.aload_n 0, 1) := by decide +kernel
theorem dX7_let_44 : decode cX7_let 44 = .ok (.getfield 32, 3) := by decide +kernel
theorem dX7_let_47 : decode cX7_let 47 = .ok (.iload_n 3, 1) := by decide +kernel
theorem dX7_let_48 : decode cX7_let 48 = .ok (.iaload, 1) := by decide +kernel
theorem dX7_let_49 : decode cX7_let 49 = .ok (.iload 4, 2) := by decide +kernel
theorem dX7_let_51 : decode cX7_let 51 = .ok (.invokevirtual 212, 3) := by decide +kernel
theorem dX7_let_54 : decode cX7_let 54 = .ok (.aload_n 0, 1) := by decide +kernel
theorem dX7_let_55 : decode cX7_let 55 = .ok (.getfield 32, 3) := by decide +kernel
theorem dX7_let_58 : decode cX7_let 58 = .ok (.iload_n 3, 1) := by decide +kernel
theorem dX7_let_59 : decode cX7_let 59 = .ok (.iaload, 1) := by decide +kernel
theorem dX7_let_60 : decode cX7_let 60 = .ok (.if_icmp .ne 13, 3) := by decide +kernel
theorem dX7_let_63 : decode cX7_let 63 = .ok (.aload_n 0, 1) := by decide +kernel
theorem dX7_let_64 : decode cX7_let 64 = .ok (.getfield 59, 3) := by decide +kernel
theorem dX7_let_67 : decode cX7_let 67 = .ok (.iload_n 3, 1) := by decide +kernel
theorem dX7_let_68 : decode cX7_let 68 = .ok (.dup2, 1) := by decide +kernel
theorem dX7_let_69 : decode cX7_let 69 = .ok (.iaload, 1) := by decide +kernel
theorem dX7_let_70 : decode cX7_let 70 = .ok (.iconst 1, 1) := by decide +kernel
theorem dX7_let_71 : decode cX7_let 71 = .ok (.iadd, 1) := by decide +kernel
theorem dX7_let_72 : decode cX7_let 72 = .ok (.iastore, 1) := by decide +kernel
theorem dX7_let_73 : decode cX7_let 73 = .ok (.iinc 4 1, 3) := by decide +kernel
theorem dX7_let_76 : decode cX7_let 76 = .ok (.goto (-52), 3) := by decide +kernel
theorem dX7_let_79 : decode cX7_let 79 = .ok (.iinc 3 1, 3) := by decide +kernel
theorem dX7_let_82 : decode cX7_let 82 = .ok (.goto (-76), 3) := by decide +kernel
theorem dX7_let_85 : decode cX7_let 85 = .ok (.bipush 25, 2) := by decide +kernel
theorem dX7_let_87 : decode cX7_let 87 = .ok (.istore_n 3, 1) := by decide +kernel
theorem dX7_let_88 : decode cX7_let 88 = .ok (.iload_n 3, 1) := by decide +kernel
theorem dX7_let_89 : decode cX7_let 89 = .ok (.ifCond .le 64, 3) := by decide +kernel
theorem dX7_let_92 : decode cX7_let 92 = .ok (.iconst 0, 1) := by decide +kernel
theorem dX7_let_93 : decode cX7_let 93 = .ok (.istore 4, 2) := by decide +kernel
theorem dX7_let_95 : decode cX7_let 95 = .ok (.iload 4, 2) := by decide +kernel
theorem dX7_let_97 : decode cX7_let 97 = .ok (.aload_n 0, 1) := by decide +kernel
theorem dX7_let_98 : decode cX7_let 98 = .ok (.getfield 84, 3) := by decide +kernel
theorem dX7_let_101 : decode cX7_let 101 = .ok (.if_icmp .ge 46, 3) := by decide +kernel
theorem dX7_let_104 : decode cX7_let 104 = .ok (.aload_n 0, 1) := by decide +kernel
theorem dX7_let_105 : decode cX7_let 105 = .ok (.getfield 59, 3) := by decide +kernel
theorem dX7_let_108 : decode cX7_let 108 = .ok (.iload 4, 2) := by decide +kernel
theorem dX7_let_110 : decode cX7_let 110 = .ok (.iaload, 1) := by decide +kernel
theorem dX7_let_111 : decode cX7_let 111 = .ok (.iload_n 3, 1) := by decide +kernel
theorem dX7_let_112 : decode cX7_let 112 = .ok (.if_icmp .eq 6, 3) := by decide +kernel
theorem dX7_let_115 : decode cX7_let 115 = .ok (.goto 26, 3) := by decide +kernel
theorem dX7_let_118 : decode cX7_let 118 = .ok (.iload_n 1, 1) := by decide +kernel
theorem dX7_let_119 : decode cX7_let 119 = .ok (.iload_n 2, 1) := by decide +kernel
theorem dX7_let_120 : decode cX7_let 120 = .ok (.ifCond .eq 7, 3) := by decide +kernel
theorem dX7_let_123 : decode cX7_let 123 = .ok (.iload_n 3, 1) := by decide +kernel
theorem dX7_let_124 : decode cX7_let 124 = .ok (.goto 5, 3) := by decide +kernel
theorem dX7_let_127 : decode cX7_let 127 = .ok (.iload_n 3, 1) := by decide +kernel
theorem dX7_let_128 : decode cX7_let 128 = .ok (.ineg, 1) := by decide +kernel
theorem dX7_let_129 : decode cX7_let 129 = .ok (.iadd, 1) := by decide +kernel
theorem dX7_let_130 : decode cX7_let 130 = .ok (.istore_n 1, 1) := by decide +kernel
theorem dX7_let_131 : decode cX7_let 131 = .ok (.iload_n 2, 1) := by decide +kernel
theorem dX7_let_132 : decode cX7_let 132 = .ok (.ifCond .ne 7, 3) := by decide +kernel
theorem dX7_let_135 : decode cX7_let 135 = .ok (.iconst 1, 1) := by decide +kernel
theorem dX7_let_136 : decode cX7_let 136 = .ok (.goto 4, 3) := by decide +kernel
theorem dX7_let_139 : decode cX7_let 139 = .ok (.iconst 0, 1) := by decide +kernel
theorem dX7_let_140 : decode cX7_let 140 = .ok (.istore_n 2, 1) := by decide +kernel
theorem dX7_let_141 : decode cX7_let 141 = .ok (.iinc 4 1, 3) := by decide +kernel
theorem dX7_let_144 : decode cX7_let 144 = .ok (.goto (-49), 3) := by decide +kernel
theorem dX7_let_147 : decode cX7_let 147 = .ok (.iinc 3 (-1), 3) := by decide +kernel
theorem dX7_let_150 : decode cX7_let 150 = .ok (.goto (-62), 3) := by decide +kernel
theorem dX7_let_153 : decode cX7_let 153 = .ok (.iload_n 1, 1) := by decide +kernel
theorem dX7_let_154 : decode cX7_let 154 = .ok (.ireturn, 1) := by decide +kernel
theorem dX7_night_0 : decode cX7_night 0 = .ok (.aload_n 0, 1) := by decide +kernel
theorem dX7_night_1 : decode cX7_night 1 = .ok (.iconst 0, 1) := by decide +kernel
theorem dX7_night_2 : decode cX7_night 2 = .ok (.putfield 75, 3) := by decide +kernel
theorem dX7_night_5 : decode cX7_night 5 = .ok (.iconst 0, 1) := by decide +kernel
theorem dX7_night_6 : decode cX7_night 6 = .ok (.istore_n 1, 1) := by decide +kernel
theorem dX7_night_7 : decode cX7_night 7 = .ok (.iconst 0, 1) := by decide +kernel
theorem dX7_night_8 : decode cX7_night 8 = .ok (.istore_n 2, 1) := by decide +kernel
theorem dX7_night_9 : decode cX7_night 9 = .ok (.iload_n 2, 1) := by decide +kernel
theorem dX7_night_10 : decode cX7_night 10 = .ok (.aload_n 0, 1) := by decide +kernel
theorem dX7_night_11 : decode cX7_night 11 = .ok (.getfield 84, 3) := by decide +kernel
theorem dX7_night_14 : decode cX7_night 14 = .ok (.if_icmp .ge 84, 3) := by decide +kernel
theorem dX7_night_17 : decode cX7_night 17 = .ok (.aload_n 0, 1) := by decide +kernel
theorem dX7_night_18 : decode cX7_night 18 = .ok (.iload_n 2, 1) := by decide +kernel
theorem dX7_night_19 : decode cX7_night 19 = .ok (.aload_n 0, 1) := by decide +kernel
theorem dX7_night_20 : decode cX7_night 20 = .ok (.getfield 32, 3) := by decide +kernel
theorem dX7_night_23 : decode cX7_night 23 = .ok (.iload_n 2, 1) := by decide +kernel
theorem dX7_night_24 : decode cX7_night 24 = .ok (.iaload, 1) := by decide +kernel
theorem dX7_night_25 : decode cX7_night 25 = .ok (.invokevirtual 188, 3) := by decide +kernel
theorem dX7_night_28 : decode cX7_night 28 = .ok (.iconst 0, 1) := by decide +kernel
theorem dX7_night_29 : decode cX7_night 29 = .ok (.istore_n 3, 1) := by decide +kernel
theorem dX7_night_30 : decode cX7_night 30 = .ok (.iload_n 3, 1) := by decide +kernel
theorem dX7_night_31 : decode cX7_night 31 = .ok (.bipush 16, 2) := by decide +kernel
theorem dX7_night_33 : decode cX7_night 33 = .ok (.if_icmp .ge 26, 3) := by decide +kernel
theorem dX7_night_36 : decode cX7_night 36 = .ok (.aload_n 0, 1) := by decide +kernel
theorem dX7_night_37 : decode cX7_night 37 = .ok (.getfield 38, 3) := by decide +kernel
theorem dX7_night_40 : decode cX7_night 40 = .ok (.bipush 16, 2) := by decide +kernel
theorem dX7_night_42 : decode cX7_night 42 = .ok (.iload_n 2, 1) := by decide +kernel
theorem dX7_night_43 : decode cX7_night 43 = .ok (.imul, 1) := by decide +kernel
theorem dX7_night_44 : decode cX7_night 44 = .ok (.iload_n 3, 1) := by decide +kernel
theorem dX7_night_45 : decode cX7_night 45 = .ok (.iadd, 1) := by decide +kernel
theorem dX7_night_46 : decode cX7_night 46 = .ok (.aload_n 0, 1) := by decide +kernel
theorem dX7_night_47 : decode cX7_night 47 = .ok (.getfield 50, 3) := by decide +kernel
theorem dX7_night_50 : decode cX7_night 50 = .ok (.iload_n 3, 1) := by decide +kernel
theorem dX7_night_51 : decode cX7_night 51 = .ok (.iaload, 1) := by decide +kernel
theorem dX7_night_52 : decode cX7_night 52 = .ok (.iastore, 1) := by decide +kernel
theorem dX7_night_53 : decode cX7_night 53 = .ok (.iinc 3 1, 3) := by decide +kernel
theorem dX7_night_56 : decode cX7_night 56 = .ok (.goto (-26), 3) := by decide +kernel
theorem dX7_night_59 : decode cX7_night 59 = .ok (.aload_n 0, 1) := by decide +kernel
theorem dX7_night_60 : decode cX7_night 60 = .ok (.getfield 32, 3) := by decide +kernel
theorem dX7_night_63 : decode cX7_night 63 = .ok (.iload_n 2, 1) := by decide +kernel
theorem dX7_night_64 : decode cX7_night 64 = .ok (.iaload, 1) := by decide +kernel
theorem dX7_night_65 : decode cX7_night 65 = .ok (.iconst (-1), 1) := by decide +kernel
theorem dX7_night_66 : decode cX7_night 66 = .ok (.if_icmp .eq 26, 3) := by decide +kernel
theorem dX7_night_69 : decode cX7_night 69 = .ok (.aload_n 0, 1) := by decide +kernel
theorem dX7_night_70 : decode cX7_night 70 = .ok (.aload_n 0, 1) := by decide +kernel
theorem dX7_night_71 : decode cX7_night 71 = .ok (.invokevirtual 195, 3) := by decide +kernel
theorem dX7_night_74 : decode cX7_night 74 = .ok (.invokevirtual 206, 3) := by decide +kernel
theorem dX7_night_77 : decode cX7_night 77 = .ok (.aload_n 0, 1) := by decide +kernel
theorem dX7_night_78 : decode cX7_night 78 = .ok (.getfield 32, 3) := by decide +kernel
theorem dX7_night_81 : decode cX7_night 81 = .ok (.iload_n 2, 1) := by decide +kernel
theorem dX7_night_82 : decode cX7_night 82 = .ok (.iaload, 1) := by decide +kernel
theorem dX7_night_83 : decode cX7_night 83 = .ok (.if_icmp .ne 9, 3) := by decide +kernel
theorem dX7_night_86 : decode cX7_night 86 = .ok (.iload_n 1, 1) := by decide +kernel
theorem dX7_night_87 : decode cX7_night 87 = .ok (.iconst 1, 1) := by decide +kernel
theorem dX7_night_88 : decode cX7_night 88 = .ok (.iload_n 2, 1) := by decide +kernel
theorem dX7_night_89 : decode cX7_night 89 = .ok (.ishl, 1) := by decide +kernel
theorem dX7_night_90 : decode cX7_night 90 = .ok (.ior, 1) := by decide +kernel
theorem dX7_night_91 : decode cX7_night 91 = .ok (.istore_n 1, 1) := by decide +kernel
theorem dX7_night_92 : decode cX7_night 92 = .ok (.iinc 2 1, 3) := by decide +kernel
theorem dX7_night_95 : decode cX7_night 95 = .ok (.goto (-86), 3) := by decide +kernel
theorem dX7_night_98 : decode cX7_night 98 = .ok (.iload_n 1, 1) := by decide +kernel
theorem dX7_night_99 : decode cX7_night 99 = .ok (.ifCond .eq 13, 3) := by decide +kernel
theorem dX7_night_102 : decode cX7_night 102 = .ok (.aload_n 0, 1) := by decide +kernel
theorem dX7_night_103 : decode cX7_night 103 = .ok (.dup, 1) := by decide +kernel
theorem dX7_night_104 : decode cX7_night 104 = .ok (.getfield 215, 3) := by decide +kernel
theorem dX7_night_107 : decode cX7_night 107 = .ok (.iconst 1, 1) := by decide +kernel
theorem dX7_night_108 : decode cX7_night 108 = .ok (.iadd, 1) := by decide +kernel
theorem dX7_night_109 : decode cX7_night 109 = .ok (.putfield 215, 3) := by decide +kernel
theorem dX7_night_112 : decode cX7_night 112 = .ok (.iload_n 1, 1) := by decide +kernel
theorem dX7_night_113 : decode cX7_night 113 = .ok (.ireturn, 1) := by decide +kernel
theorem dX7_load_0 : decode cX7_load 0 = .ok (.iconst 0, 1) := by decide +kernel
theorem dX7_load_1 : decode cX7_load 1 = .ok (.istore_n 2, 1) := by decide +kernel
theorem dX7_load_2 : decode cX7_load 2 = .ok (.iload_n 2, 1) := by decide +kernel
theorem dX7_load_3 : decode cX7_load 3 = .ok (.bipush 16, 2) := by decide +kernel
theorem dX7_load_5 : decode cX7_load 5 = .ok (.if_icmp .ge 26, 3) := by decide +kernel
theorem dX7_load_8 : decode cX7_load 8 = .ok (.aload_n 0, 1) := by decide +kernel
theorem dX7_load_9 : decode cX7_load 9 = .ok (.getfield 50, 3) := by decide +kernel
theorem dX7_load_12 : decode cX7_load 12 = .ok (.iload_n 2, 1) := by decide +kernel
theorem dX7_load_13 : decode cX7_load 13 = .ok (.aload_n 0, 1) := by decide +kernel
theorem dX7_load_14 : decode cX7_load 14 = .ok (.getfield 38, 3) := by decide +kernel
theorem dX7_load_17 : decode cX7_load 17 = .ok (.bipush 16, 2) := by decide +kernel
theorem dX7_load_19 : decode cX7_load 19 = .ok (.iload_n 1, 1) := by decide +kernel
theorem dX7_load_20 : decode cX7_load 20 = .ok (.imul, 1) := by decide +kernel
theorem dX7_load_21 : decode cX7_load 21 = .ok (.iload_n 2, 1) := by decide +kernel
theorem dX7_load_22 : decode cX7_load 22 = .ok (.iadd, 1) := by decide +kernel
theorem dX7_load_23 : decode cX7_load 23 = .ok (.iaload, 1) := by decide +kernel
theorem dX7_load_24 : decode cX7_load 24 = .ok (.iastore, 1) := by decide +kernel
theorem dX7_load_25 : decode cX7_load 25 = .ok (.iinc 2 1, 3) := by decide +kernel
theorem dX7_load_28 : decode cX7_load 28 = .ok (.goto (-26), 3) := by decide +kernel
theorem dX7_load_31 : decode cX7_load 31 = .ok (.return_, 1) := by decide +kernel
theorem dX7_hours_0 : decode cX7_hours 0 = .ok (.iload_n 1, 1) := by decide +kernel
theorem dX7_hours_1 : decode cX7_hours 1 = .ok (.iconst 1, 1) := by decide +kernel
theorem dX7_hours_2 : decode cX7_hours 2 = .ok (.bipush 24, 2) := by decide +kernel
theorem dX7_hours_4 : decode cX7_hours 4 = .ok (.invokestatic 87, 3) := by decide +kernel
theorem dX7_hours_7 : decode cX7_hours 7 = .ok (.ifCond .ne 10, 3) := by decide +kernel
theorem dX7_hours_10 : decode cX7_hours 10 = .ok (.aload_n 0, 1) := by decide +kernel
theorem dX7_hours_11 : decode cX7_hours 11 = .ok (.bipush (-6), 2) := by decide +kernel
theorem dX7_hours_13 : decode cX7_hours 13 = .ok (.invokevirtual 94, 3) := by decide +kernel
theorem dX7_hours_16 : decode cX7_hours 16 = .ok (.ireturn, 1) := by decide +kernel
theorem dX7_hours_17 : decode cX7_hours 17 = .ok (.aload_n 0, 1) := by decide +kernel
theorem dX7_hours_18 : decode cX7_hours 18 = .ok (.getfield 75, 3) := by decide +kernel
theorem dX7_hours_21 : decode cX7_hours 21 = .ok (.iload_n 1, 1) := by decide +kernel
theorem dX7_hours_22 : decode cX7_hours 22 = .ok (.iadd, 1) := by decide +kernel
theorem dX7_hours_23 : decode cX7_hours 23 = .ok (.bipush 24, 2) := by decide +kernel
theorem dX7_hours_25 : decode cX7_hours 25 = .ok (.if_icmp .le 10, 3) := by decide +kernel
theorem dX7_hours_28 : decode cX7_hours 28 = .ok (.aload_n 0, 1) := by decide +kernel
theorem dX7_hours_29 : decode cX7_hours 29 = .ok (.bipush (-7), 2) := by decide +kernel
theorem dX7_hours_31 : decode cX7_hours 31 = .ok (.invokevirtual 94, 3) := by decide +kernel
theorem dX7_hours_34 : decode cX7_hours 34 = .ok (.ireturn, 1) := by decide +kernel
theorem dX7_hours_35 : decode cX7_hours 35 = .ok (.iconst 0, 1) := by decide +kernel
theorem dX7_hours_36 : decode cX7_hours 36 = .ok (.istore_n 2, 1) := by decide +kernel
theorem dX7_hours_37 : decode cX7_hours 37 = .ok (.iload_n 2, 1) := by decide +kernel
theorem dX7_hours_38 : decode cX7_hours 38 = .ok (.aload_n 0, 1) := by decide +kernel
theorem dX7_hours_39 : decode cX7_hours 39 = .ok (.getfield 84, 3) := by decide +kernel
theorem dX7_hours_42 : decode cX7_hours 42 = .ok (.if_icmp .ge 69, 3) := by decide +kernel
theorem dX7_hours_45 : decode cX7_hours 45 = .ok (.aload_n 0, 1) := by decide +kernel
theorem dX7_hours_46 : decode cX7_hours 46 = .ok (.iload_n 2, 1) := by decide +kernel
theorem dX7_hours_47 : decode cX7_hours 47 = .ok (.invokevirtual 218, 3) := by decide +kernel
theorem dX7_hours_50 : decode cX7_hours 50 = .ok (.iconst 0, 1) := by decide +kernel
theorem dX7_hours_51 : decode cX7_hours 51 = .ok (.istore_n 3, 1) := by decide +kernel
theorem dX7_hours_52 : decode cX7_hours 52 = .ok (.iload_n 3, 1) := by decide +kernel
theorem dX7_hours_53 : decode cX7_hours 53 = .ok (.iload_n 1, 1) := by decide +kernel
theorem dX7_hours_54 : decode cX7_hours 54 = .ok (.if_icmp .ge 20, 3) := by decide +kernel
theorem dX7_hours_57 : decode cX7_hours 57 = .ok (.aload_n 0, 1) := by decide +kernel
theorem dX7_hours_58 : decode cX7_hours 58 = .ok (.iload_n 2, 1) := by decide +kernel
theorem dX7_hours_59 : decode cX7_hours 59 = .ok (.aload_n 0, 1) := by decide +kernel
theorem dX7_hours_60 : decode cX7_hours 60 = .ok (.getfield 75, 3) := by decide +kernel
theorem dX7_hours_63 : decode cX7_hours 63 = .ok (.iload_n 3, 1) := by decide +kernel
theorem dX7_hours_64 : decode cX7_hours 64 = .ok (.iadd, 1) := by decide +kernel
theorem dX7_hours_65 : decode cX7_hours 65 = .ok (.invokevirtual 192, 3) := by decide +kernel
theorem dX7_hours_68 : decode cX7_hours 68 = .ok (.iinc 3 1, 3) := by decide +kernel
theorem dX7_hours_71 : decode cX7_hours 71 = .ok (.goto (-19), 3) := by decide +kernel
theorem dX7_hours_74 : decode cX7_hours 74 = .ok (.iconst 0, 1) := by decide +kernel
theorem dX7_hours_75 : decode cX7_hours 75 = .ok (.istore_n 3, 1) := by decide +kernel
theorem dX7_hours_76 : decode cX7_hours 76 = .ok (.iload_n 3, 1) := by decide +kernel
theorem dX7_hours_77 : decode cX7_hours 77 = .ok (.bipush 16, 2) := by decide +kernel
theorem dX7_hours_79 : decode cX7_hours 79 = .ok (.if_icmp .ge 26, 3) := by decide +kernel
theorem dX7_hours_82 : decode cX7_hours 82 = .ok (.aload_n 0, 1) := by decide +kernel
theorem dX7_hours_83 : decode cX7_hours 83 = .ok (.getfield 38, 3) := by decide +kernel
theorem dX7_hours_86 : decode cX7_hours 86 = .ok (.bipush 16, 2) := by decide +kernel
theorem dX7_hours_88 : decode cX7_hours 88 = .ok (.iload_n 2, 1) := by decide +kernel
theorem dX7_hours_89 : decode cX7_hours 89 = .ok (.imul, 1) := by decide +kernel
theorem dX7_hours_90 : decode cX7_hours 90 = .ok (.iload_n 3, 1) := by decide +kernel
theorem dX7_hours_91 : decode cX7_hours 91 = .ok (.iadd, 1) := by decide +kernel
theorem dX7_hours_92 : decode cX7_hours 92 = .ok (.aload_n 0, 1) := by decide +kernel
theorem dX7_hours_93 : decode cX7_hours 93 = .ok (.getfield 50, 3) := by decide +kernel
theorem dX7_hours_96 : decode cX7_hours 96 = .ok (.iload_n 3, 1) := by decide +kernel
theorem dX7_hours_97 : decode cX7_hours 97 = .ok (.iaload, 1) := by decide +kernel
theorem dX7_hours_98 : decode cX7_hours 98 = .ok (.iastore, 1) := by decide +kernel
theorem dX7_hours_99 : decode cX7_hours 99 = .ok (.iinc 3 1, 3) := by decide +kernel
theorem dX7_hours_102 : decode cX7_hours 102 = .ok (.goto (-26), 3) := by decide +kernel
theorem dX7_hours_105 : decode cX7_hours 105 = .ok (.iinc 2 1, 3) := by decide +kernel
theorem dX7_hours_108 : decode cX7_hours 108 = .ok (.goto (-71), 3) := by decide +kernel
theorem dX7_hours_111 : decode cX7_hours 111 = .ok (.aload_n 0, 1) := by decide +kernel
theorem dX7_hours_112 : decode cX7_hours 112 = .ok (.dup, 1) := by decide +kernel
theorem dX7_hours_113 : decode cX7_hours 113 = .ok (.getfield 75, 3) := by decide +kernel
theorem dX7_hours_116 : decode cX7_hours 116 = .ok (.iload_n 1, 1) := by decide +kernel
theorem dX7_hours_117 : decode cX7_hours 117 = .ok (.iadd, 1) := by decide +kernel
theorem dX7_hours_118 : decode cX7_hours 118 = .ok (.putfield 75, 3) := by decide +kernel
theorem dX7_hours_121 : decode cX7_hours 121 = .ok (.aload_n 0, 1) := by decide +kernel
theorem dX7_hours_122 : decode cX7_hours 122 = .ok (.getfield 75, 3) := by decide +kernel
theorem dX7_hours_125 : decode cX7_hours 125 = .ok (.ireturn, 1) := by decide +kernel
theorem dX7_truth_0 : decode cX7_truth 0 = .ok (.aload_n 0, 1) := by decide +kernel
theorem dX7_truth_1 : decode cX7_truth 1 = .ok (.iload_n 1, 1) := by decide +kernel
theorem dX7_truth_2 : decode cX7_truth 2 = .ok (.invokevirtual 105, 3) := by decide +kernel
theorem dX7_truth_5 : decode cX7_truth 5 = .ok (.ifCond .ne 9, 3) := by decide +kernel
theorem dX7_truth_8 : decode cX7_truth 8 = .ok (.aload_n 0, 1) := by decide +kernel
theorem dX7_truth_9 : decode cX7_truth 9 = .ok (.iconst (-1), 1) := by decide +kernel
theorem dX7_truth_10 : decode cX7_truth 10 = .ok (.invokevirtual 94, 3) := by decide +kernel
theorem dX7_truth_13 : decode cX7_truth 13 = .ok (.ireturn, 1) := by decide +kernel
theorem dX7_truth_14 : decode cX7_truth 14 = .ok (.iload_n 2, 1) := by decide +kernel
theorem dX7_truth_15 : decode cX7_truth 15 = .ok (.iconst 0, 1) := by decide +kernel
theorem dX7_truth_16 : decode cX7_truth 16 = .ok (.bipush 16, 2) := by decide +kernel
theorem dX7_truth_18 : decode cX7_truth 18 = .ok (.invokestatic 87, 3) := by decide +kernel
theorem dX7_truth_21 : decode cX7_truth 21 = .ok (.ifCond .ne 10, 3) := by decide +kernel
theorem dX7_truth_24 : decode cX7_truth 24 = .ok (.aload_n 0, 1) := by decide +kernel
theorem dX7_truth_25 : decode cX7_truth 25 = .ok (.bipush (-5), 2) := by decide +kernel
theorem dX7_truth_27 : decode cX7_truth 27 = .ok (.invokevirtual 94, 3) := by decide +kernel
theorem dX7_truth_30 : decode cX7_truth 30 = .ok (.ireturn, 1) := by decide +kernel
theorem dX7_truth_31 : decode cX7_truth 31 = .ok (.aload_n 0, 1) := by decide +kernel
theorem dX7_truth_32 : decode cX7_truth 32 = .ok (.iload_n 1, 1) := by decide +kernel
theorem dX7_truth_33 : decode cX7_truth 33 = .ok (.invokevirtual 218, 3) := by decide +kernel
theorem dX7_truth_36 : decode cX7_truth 36 = .ok (.iload_n 2, 1) := by decide +kernel
theorem dX7_truth_37 : decode cX7_truth 37 = .ok (.bipush 16, 2) := by decide +kernel
theorem dX7_truth_39 : decode cX7_truth 39 = .ok (.if_icmp .ge 12, 3) := by decide +kernel
theorem dX7_truth_42 : decode cX7_truth 42 = .ok (.aload_n 0, 1) := by decide +kernel
theorem dX7_truth_43 : decode cX7_truth 43 = .ok (.getfield 50, 3) := by decide +kernel
theorem dX7_truth_46 : decode cX7_truth 46 = .ok (.iload_n 2, 1) := by decide +kernel
theorem dX7_truth_47 : decode cX7_truth 47 = .ok (.iaload, 1) := by decide +kernel
theorem dX7_truth_48 : decode cX7_truth 48 = .ok (.goto 7, 3) := by decide +kernel
theorem dX7_truth_51 : decode cX7_truth 51 = .ok (.aload_n 0, 1) := by decide +kernel
theorem dX7_truth_52 : decode cX7_truth 52 = .ok (.invokevirtual 195, 3) := by decide +kernel
theorem dX7_truth_55 : decode cX7_truth 55 = .ok (.ireturn, 1) := by decide +kernel
theorem dX7_readOf_0 : decode cX7_readOf 0 = .ok (.aload_n 0, 1) := by decide +kernel
theorem dX7_readOf_1 : decode cX7_readOf 1 = .ok (.iload_n 1, 1) := by decide +kernel
theorem dX7_readOf_2 : decode cX7_readOf 2 = .ok (.invokevirtual 105, 3) := by decide +kernel
theorem dX7_readOf_5 : decode cX7_readOf 5 = .ok (.ifCond .ne 9, 3) := by decide +kernel
theorem dX7_readOf_8 : decode cX7_readOf 8 = .ok (.aload_n 0, 1) := by decide +kernel
theorem dX7_readOf_9 : decode cX7_readOf 9 = .ok (.iconst (-1), 1) := by decide +kernel
theorem dX7_readOf_10 : decode cX7_readOf 10 = .ok (.invokevirtual 131, 3) := by decide +kernel
theorem dX7_readOf_13 : decode cX7_readOf 13 = .ok (.ireturn, 1) := by decide +kernel
theorem dX7_readOf_14 : decode cX7_readOf 14 = .ok (.aload_n 0, 1) := by decide +kernel
theorem dX7_readOf_15 : decode cX7_readOf 15 = .ok (.iload_n 1, 1) := by decide +kernel
theorem dX7_readOf_16 : decode cX7_readOf 16 = .ok (.invokevirtual 218, 3) := by decide +kernel
theorem dX7_readOf_19 : decode cX7_readOf 19 = .ok (.aload_n 0, 1) := by decide +kernel
theorem dX7_readOf_20 : decode cX7_readOf 20 = .ok (.aload_n 0, 1) := by decide +kernel
theorem dX7_readOf_21 : decode cX7_readOf 21 = .ok (.invokevirtual 195, 3) := by decide +kernel
theorem dX7_readOf_24 : decode cX7_readOf 24 = .ok (.invokevirtual 206, 3) := by decide +kernel
theorem dX7_readOf_27 : decode cX7_readOf 27 = .ok (.ireturn, 1) := by decide +kernel
theorem dX7_breath_0 : decode cX7_breath 0 = .ok (.aload_n 0, 1) := by decide +kernel
theorem dX7_breath_1 : decode cX7_breath 1 = .ok (.iload_n 1, 1) := by decide +kernel
theorem dX7_breath_2 : decode cX7_breath 2 = .ok (.invokevirtual 105, 3) := by decide +kernel
theorem dX7_breath_5 : decode cX7_breath 5 = .ok (.ifCond .ne 9, 3) := by decide +kernel
theorem dX7_breath_8 : decode cX7_breath 8 = .ok (.aload_n 0, 1) := by decide +kernel
theorem dX7_breath_9 : decode cX7_breath 9 = .ok (.iconst (-1), 1) := by decide +kernel
theorem dX7_breath_10 : decode cX7_breath 10 = .ok (.invokevirtual 94, 3) := by decide +kernel
theorem dX7_breath_13 : decode cX7_breath 13 = .ok (.ireturn, 1) := by decide +kernel
theorem dX7_breath_14 : decode cX7_breath 14 = .ok (.iload_n 2, 1) := by decide +kernel
theorem dX7_breath_15 : decode cX7_breath 15 = .ok (.iconst 0, 1) := by decide +kernel
theorem dX7_breath_16 : decode cX7_breath 16 = .ok (.bipush 15, 2) := by decide +kernel
theorem dX7_breath_18 : decode cX7_breath 18 = .ok (.invokestatic 87, 3) := by decide +kernel
theorem dX7_breath_21 : decode cX7_breath 21 = .ok (.ifCond .ne 10, 3) := by decide +kernel
theorem dX7_breath_24 : decode cX7_breath 24 = .ok (.aload_n 0, 1) := by decide +kernel
theorem dX7_breath_25 : decode cX7_breath 25 = .ok (.bipush (-5), 2) := by decide +kernel
theorem dX7_breath_27 : decode cX7_breath 27 = .ok (.invokevirtual 94, 3) := by decide +kernel
theorem dX7_breath_30 : decode cX7_breath 30 = .ok (.ireturn, 1) := by decide +kernel
theorem dX7_breath_31 : decode cX7_breath 31 = .ok (.iconst 0, 1) := by decide +kernel
theorem dX7_breath_32 : decode cX7_breath 32 = .ok (.istore_n 3, 1) := by decide +kernel
theorem dX7_breath_33 : decode cX7_breath 33 = .ok (.iconst 0, 1) := by decide +kernel
theorem dX7_breath_34 : decode cX7_breath 34 = .ok (.istore 4, 2) := by decide +kernel
theorem dX7_breath_36 : decode cX7_breath 36 = .ok (.iload 4, 2) := by decide +kernel
theorem dX7_breath_38 : decode cX7_breath 38 = .ok (.bipush 16, 2) := by decide +kernel
theorem dX7_breath_40 : decode cX7_breath 40 = .ok (.if_icmp .ge 74, 3) := by decide +kernel
theorem dX7_breath_43 : decode cX7_breath 43 = .ok (.iload 4, 2) := by decide +kernel
theorem dX7_breath_45 : decode cX7_breath 45 = .ok (.iconst 4, 1) := by decide +kernel
theorem dX7_breath_46 : decode cX7_breath 46 = .ok (.idiv, 1) := by decide +kernel
theorem dX7_breath_47 : decode cX7_breath 47 = .ok (.iload_n 2, 1) := by decide +kernel
theorem dX7_breath_48 : decode cX7_breath 48 = .ok (.iconst 4, 1) := by decide +kernel
theorem dX7_breath_49 : decode cX7_breath 49 = .ok (.idiv, 1) := by decide +kernel
theorem dX7_breath_50 : decode cX7_breath 50 = .ok (.isub, 1) := by decide +kernel
theorem dX7_breath_51 : decode cX7_breath 51 = .ok (.invokestatic 222, 3) := by decide +kernel
theorem dX7_breath_54 : decode cX7_breath 54 = .ok (.iload 4, 2) := by decide +kernel
theorem dX7_breath_56 : decode cX7_breath 56 = .ok (.iconst 4, 1) := by decide +kernel
theorem dX7_breath_57 : decode cX7_breath 57 = .ok (.irem, 1) := by decide +kernel
theorem dX7_breath_58 : decode cX7_breath 58 = .ok (.iload_n 2, 1) := by decide +kernel
theorem dX7_breath_59 : decode cX7_breath 59 = .ok (.iconst 4, 1) := by decide +kernel
theorem dX7_breath_60 : decode cX7_breath 60 = .ok (.irem, 1) := by decide +kernel
theorem dX7_breath_61 : decode cX7_breath 61 = .ok (.isub, 1) := by decide +kernel
theorem dX7_breath_62 : decode cX7_breath 62 = .ok (.invokestatic 222, 3) := by decide +kernel
theorem dX7_breath_65 : decode cX7_breath 65 = .ok (.iadd, 1) := by decide +kernel
theorem dX7_breath_66 : decode cX7_breath 66 = .ok (.istore 5, 2) := by decide +kernel
theorem dX7_breath_68 : decode cX7_breath 68 = .ok (.iload 5, 2) := by decide +kernel
theorem dX7_breath_70 : decode cX7_breath 70 = .ok (.iconst 1, 1) := by decide +kernel
theorem dX7_breath_71 : decode cX7_breath 71 = .ok (.if_icmp .gt 37, 3) := by decide +kernel
theorem dX7_breath_74 : decode cX7_breath 74 = .ok (.aload_n 0, 1) := by decide +kernel
theorem dX7_breath_75 : decode cX7_breath 75 = .ok (.getfield 38, 3) := by decide +kernel
theorem dX7_breath_78 : decode cX7_breath 78 = .ok (.bipush 16, 2) := by decide +kernel
theorem dX7_breath_80 : decode cX7_breath 80 = .ok (.iload_n 1, 1) := by decide +kernel
theorem dX7_breath_81 : decode cX7_breath 81 = .ok (.imul, 1) := by decide +kernel
theorem dX7_breath_82 : decode cX7_breath 82 = .ok (.iload 4, 2) := by decide +kernel
theorem dX7_breath_84 : decode cX7_breath 84 = .ok (.iadd, 1) := by decide +kernel
theorem dX7_breath_85 : decode cX7_breath 85 = .ok (.iaload, 1) := by decide +kernel
theorem dX7_breath_86 : decode cX7_breath 86 = .ok (.ifCond .ne 6, 3) := by decide +kernel
theorem dX7_breath_89 : decode cX7_breath 89 = .ok (.goto 19, 3) := by decide +kernel
theorem dX7_breath_92 : decode cX7_breath 92 = .ok (.aload_n 0, 1) := by decide +kernel
theorem dX7_breath_93 : decode cX7_breath 93 = .ok (.getfield 38, 3) := by decide +kernel
theorem dX7_breath_96 : decode cX7_breath 96 = .ok (.bipush 16, 2) := by decide +kernel
theorem dX7_breath_98 : decode cX7_breath 98 = .ok (.iload_n 1, 1) := by decide +kernel
theorem dX7_breath_99 : decode cX7_breath 99 = .ok (.imul, 1) := by decide +kernel
theorem dX7_breath_100 : decode cX7_breath 100 = .ok (.iload 4, 2) := by decide +kernel
theorem dX7_breath_102 : decode cX7_breath 102 = .ok (.iadd, 1) := by decide +kernel
theorem dX7_breath_103 : decode cX7_breath 103 = .ok (.iconst 0, 1) := by decide +kernel
theorem dX7_breath_104 : decode cX7_breath 104 = .ok (.iastore, 1) := by decide +kernel
theorem dX7_breath_105 : decode cX7_breath 105 = .ok (.iinc 3 1, 3) := by decide +kernel
theorem dX7_breath_108 : decode cX7_breath 108 = .ok (.iinc 4 1, 3) := by decide +kernel
theorem dX7_breath_111 : decode cX7_breath 111 = .ok (.goto (-75), 3) := by decide +kernel
theorem dX7_breath_114 : decode cX7_breath 114 = .ok (.iload_n 3, 1) := by decide +kernel
theorem dX7_breath_115 : decode cX7_breath 115 = .ok (.ireturn, 1) := by decide +kernel
theorem dX7_scratch_0 : decode cX7_scratch 0 = .ok (.aload_n 0, 1) := by decide +kernel
theorem dX7_scratch_1 : decode cX7_scratch 1 = .ok (.iload_n 1, 1) := by decide +kernel
theorem dX7_scratch_2 : decode cX7_scratch 2 = .ok (.invokevirtual 105, 3) := by decide +kernel
theorem dX7_scratch_5 : decode cX7_scratch 5 = .ok (.ifCond .ne 9, 3) := by decide +kernel
theorem dX7_scratch_8 : decode cX7_scratch 8 = .ok (.aload_n 0, 1) := by decide +kernel
theorem dX7_scratch_9 : decode cX7_scratch 9 = .ok (.iconst (-1), 1) := by decide +kernel
theorem dX7_scratch_10 : decode cX7_scratch 10 = .ok (.invokevirtual 94, 3) := by decide +kernel
theorem dX7_scratch_13 : decode cX7_scratch 13 = .ok (.ireturn, 1) := by decide +kernel
theorem dX7_scratch_14 : decode cX7_scratch 14 = .ok (.iload_n 2, 1) := by decide +kernel
theorem dX7_scratch_15 : decode cX7_scratch 15 = .ok (.iconst 0, 1) := by decide +kernel
theorem dX7_scratch_16 : decode cX7_scratch 16 = .ok (.bipush 15, 2) := by decide +kernel
theorem dX7_scratch_18 : decode cX7_scratch 18 = .ok (.invokestatic 87, 3) := by decide +kernel
theorem dX7_scratch_21 : decode cX7_scratch 21 = .ok (.ifCond .ne 10, 3) := by decide +kernel
theorem dX7_scratch_24 : decode cX7_scratch 24 = .ok (.aload_n 0, 1) := by decide +kernel
theorem dX7_scratch_25 : decode cX7_scratch 25 = .ok (.bipush (-5), 2) := by decide +kernel
theorem dX7_scratch_27 : decode cX7_scratch 27 = .ok (.invokevirtual 94, 3) := by decide +kernel
theorem dX7_scratch_30 : decode cX7_scratch 30 = .ok (.ireturn, 1) := by decide +kernel
theorem dX7_scratch_31 : decode cX7_scratch 31 = .ok (.aload_n 0, 1) := by decide +kernel
theorem dX7_scratch_32 : decode cX7_scratch 32 = .ok (.getfield 35, 3) := by decide +kernel
theorem dX7_scratch_35 : decode cX7_scratch 35 = .ok (.iload_n 1, 1) := by decide +kernel
theorem dX7_scratch_36 : decode cX7_scratch 36 = .ok (.iaload, 1) := by decide +kernel
theorem dX7_scratch_37 : decode cX7_scratch 37 = .ok (.iload_n 2, 1) := by decide +kernel
theorem dX7_scratch_38 : decode cX7_scratch 38 = .ok (.ishr, 1) := by decide +kernel
theorem dX7_scratch_39 : decode cX7_scratch 39 = .ok (.iconst 1, 1) := by decide +kernel
theorem dX7_scratch_40 : decode cX7_scratch 40 = .ok (.iand, 1) := by decide +kernel
theorem dX7_scratch_41 : decode cX7_scratch 41 = .ok (.iconst 1, 1) := by decide +kernel
theorem dX7_scratch_42 : decode cX7_scratch 42 = .ok (.if_icmp .ne 10, 3) := by decide +kernel
theorem dX7_scratch_45 : decode cX7_scratch 45 = .ok (.aload_n 0, 1) := by decide +kernel
theorem dX7_scratch_46 : decode cX7_scratch 46 = .ok (.bipush (-6), 2) := by decide +kernel
theorem dX7_scratch_48 : decode cX7_scratch 48 = .ok (.invokevirtual 94, 3) := by decide +kernel
theorem dX7_scratch_51 : decode cX7_scratch 51 = .ok (.ireturn, 1) := by decide +kernel
theorem dX7_scratch_52 : decode cX7_scratch 52 = .ok (.aload_n 0, 1) := by decide +kernel
theorem dX7_scratch_53 : decode cX7_scratch 53 = .ok (.getfield 35, 3) := by decide +kernel
theorem dX7_scratch_56 : decode cX7_scratch 56 = .ok (.iload_n 1, 1) := by decide +kernel
theorem dX7_scratch_57 : decode cX7_scratch 57 = .ok (.dup2, 1) := by decide +kernel
theorem dX7_scratch_58 : decode cX7_scratch 58 = .ok (.iaload, 1) := by decide +kernel
theorem dX7_scratch_59 : decode cX7_scratch 59 = .ok (.iconst 1, 1) := by decide +kernel
theorem dX7_scratch_60 : decode cX7_scratch 60 = .ok (.iload_n 2, 1) := by decide +kernel
theorem dX7_scratch_61 : decode cX7_scratch 61 = .ok (.ishl, 1) := by decide +kernel
theorem dX7_scratch_62 : decode cX7_scratch 62 = .ok (.ior, 1) := by decide +kernel
theorem dX7_scratch_63 : decode cX7_scratch 63 = .ok (.iastore, 1) := by decide +kernel
theorem dX7_scratch_64 : decode cX7_scratch 64 = .ok (.aload_n 0, 1) := by decide +kernel
theorem dX7_scratch_65 : decode cX7_scratch 65 = .ok (.getfield 38, 3) := by decide +kernel
theorem dX7_scratch_68 : decode cX7_scratch 68 = .ok (.bipush 16, 2) := by decide +kernel
theorem dX7_scratch_70 : decode cX7_scratch 70 = .ok (.iload_n 1, 1) := by decide +kernel
theorem dX7_scratch_71 : decode cX7_scratch 71 = .ok (.imul, 1) := by decide +kernel
theorem dX7_scratch_72 : decode cX7_scratch 72 = .ok (.iload_n 2, 1) := by decide +kernel
theorem dX7_scratch_73 : decode cX7_scratch 73 = .ok (.iadd, 1) := by decide +kernel
theorem dX7_scratch_74 : decode cX7_scratch 74 = .ok (.iaload, 1) := by decide +kernel
theorem dX7_scratch_75 : decode cX7_scratch 75 = .ok (.istore_n 3, 1) := by decide +kernel
theorem dX7_scratch_76 : decode cX7_scratch 76 = .ok (.aload_n 0, 1) := by decide +kernel
theorem dX7_scratch_77 : decode cX7_scratch 77 = .ok (.getfield 38, 3) := by decide +kernel
theorem dX7_scratch_80 : decode cX7_scratch 80 = .ok (.bipush 16, 2) := by decide +kernel
theorem dX7_scratch_82 : decode cX7_scratch 82 = .ok (.iload_n 1, 1) := by decide +kernel
theorem dX7_scratch_83 : decode cX7_scratch 83 = .ok (.imul, 1) := by decide +kernel
theorem dX7_scratch_84 : decode cX7_scratch 84 = .ok (.iload_n 2, 1) := by decide +kernel
theorem dX7_scratch_85 : decode cX7_scratch 85 = .ok (.iadd, 1) := by decide +kernel
theorem dX7_scratch_86 : decode cX7_scratch 86 = .ok (.iconst 0, 1) := by decide +kernel
theorem dX7_scratch_87 : decode cX7_scratch 87 = .ok (.iastore, 1) := by decide +kernel
theorem dX7_scratch_88 : decode cX7_scratch 88 = .ok (.iload_n 3, 1) := by decide +kernel
theorem dX7_scratch_89 : decode cX7_scratch 89 = .ok (.ireturn, 1) := by decide +kernel
theorem dX7_draw_0 : decode cX7_draw 0 = .ok (.aload_n 0, 1) := by decide +kernel
theorem dX7_draw_1 : decode cX7_draw 1 = .ok (.aload_n 0, 1) := by decide +kernel
theorem dX7_draw_2 : decode cX7_draw 2 = .ok (.getfield 78, 3) := by decide +kernel
theorem dX7_draw_5 : decode cX7_draw 5 = .ok (.ldc 225, 2) := by decide +kernel
theorem dX7_draw_7 : decode cX7_draw 7 = .ok (.imul, 1) := by decide +kernel
theorem dX7_draw_8 : decode cX7_draw 8 = .ok (.sipush 12345, 3) := by decide +kernel
theorem dX7_draw_11 : decode cX7_draw 11 = .ok (.iadd, 1) := by decide +kernel
theorem dX7_draw_12 : decode cX7_draw 12 = .ok (.putfield 78, 3) := by decide +kernel
theorem dX7_draw_15 : decode cX7_draw 15 = .ok (.aload_n 0, 1) := by decide +kernel
theorem dX7_draw_16 : decode cX7_draw 16 = .ok (.getfield 78, 3) := by decide +kernel
theorem dX7_draw_19 : decode cX7_draw 19 = .ok (.bipush 16, 2) := by decide +kernel
theorem dX7_draw_21 : decode cX7_draw 21 = .ok (.iushr, 1) := by decide +kernel
theorem dX7_draw_22 : decode cX7_draw 22 = .ok (.iload_n 1, 1) := by decide +kernel
theorem dX7_draw_23 : decode cX7_draw 23 = .ok (.irem, 1) := by decide +kernel
theorem dX7_draw_24 : decode cX7_draw 24 = .ok (.ireturn, 1) := by decide +kernel
theorem dX7_winter_0 : decode cX7_winter 0 = .ok (.iload_n 1, 1) := by decide +kernel
theorem dX7_winter_1 : decode cX7_winter 1 = .ok (.iconst 1, 1) := by decide +kernel
theorem dX7_winter_2 : decode cX7_winter 2 = .ok (.bipush 40, 2) := by decide +kernel
theorem dX7_winter_4 : decode cX7_winter 4 = .ok (.invokestatic 87, 3) := by decide +kernel
theorem dX7_winter_7 : decode cX7_winter 7 = .ok (.ifCond .ne 10, 3) := by decide +kernel
theorem dX7_winter_10 : decode cX7_winter 10 = .ok (.aload_n 0, 1) := by decide +kernel
theorem dX7_winter_11 : decode cX7_winter 11 = .ok (.bipush (-6), 2) := by decide +kernel
theorem dX7_winter_13 : decode cX7_winter 13 = .ok (.invokevirtual 94, 3) := by decide +kernel
theorem dX7_winter_16 : decode cX7_winter 16 = .ok (.ireturn, 1) := by decide +kernel
theorem dX7_winter_17 : decode cX7_winter 17 = .ok (.aload_n 0, 1) := by decide +kernel
theorem dX7_winter_18 : decode cX7_winter 18 = .ok (.getfield 215, 3) := by decide +kernel
theorem dX7_winter_21 : decode cX7_winter 21 = .ok (.istore_n 2, 1) := by decide +kernel
theorem dX7_winter_22 : decode cX7_winter 22 = .ok (.iconst 0, 1) := by decide +kernel
theorem dX7_winter_23 : decode cX7_winter 23 = .ok (.istore_n 3, 1) := by decide +kernel
theorem dX7_winter_24 : decode cX7_winter 24 = .ok (.iload_n 3, 1) := by decide +kernel
theorem dX7_winter_25 : decode cX7_winter 25 = .ok (.iload_n 1, 1) := by decide +kernel
theorem dX7_winter_26 : decode cX7_winter 26 = .ok (.if_icmp .ge 34, 3) := by decide +kernel
theorem dX7_winter_29 : decode cX7_winter 29 = .ok (.aload_n 0, 1) := by decide +kernel
theorem dX7_winter_30 : decode cX7_winter 30 = .ok (.aload_n 0, 1) := by decide +kernel
theorem dX7_winter_31 : decode cX7_winter 31 = .ok (.bipush 41, 2) := by decide +kernel
theorem dX7_winter_33 : decode cX7_winter 33 = .ok (.invokevirtual 226, 3) := by decide +kernel
theorem dX7_winter_36 : decode cX7_winter 36 = .ok (.putfield 65, 3) := by decide +kernel
theorem dX7_winter_39 : decode cX7_winter 39 = .ok (.aload_n 0, 1) := by decide +kernel
theorem dX7_winter_40 : decode cX7_winter 40 = .ok (.aload_n 0, 1) := by decide +kernel
theorem dX7_winter_41 : decode cX7_winter 41 = .ok (.bipush 10, 2) := by decide +kernel
theorem dX7_winter_43 : decode cX7_winter 43 = .ok (.invokevirtual 226, 3) := by decide +kernel
theorem dX7_winter_46 : decode cX7_winter 46 = .ok (.putfield 69, 3) := by decide +kernel
theorem dX7_winter_49 : decode cX7_winter 49 = .ok (.aload_n 0, 1) := by decide +kernel
theorem dX7_winter_50 : decode cX7_winter 50 = .ok (.invokevirtual 229, 3) := by decide +kernel
theorem dX7_winter_53 : decode cX7_winter 53 = .ok (.pop, 1) := by decide +kernel
theorem dX7_winter_54 : decode cX7_winter 54 = .ok (.iinc 3 1, 3) := by decide +kernel
theorem dX7_winter_57 : decode cX7_winter 57 = .ok (.goto (-33), 3) := by decide +kernel
theorem dX7_winter_60 : decode cX7_winter 60 = .ok (.aload_n 0, 1) := by decide +kernel
theorem dX7_winter_61 : decode cX7_winter 61 = .ok (.getfield 215, 3) := by decide +kernel
theorem dX7_winter_64 : decode cX7_winter 64 = .ok (.iload_n 2, 1) := by decide +kernel
theorem dX7_winter_65 : decode cX7_winter 65 = .ok (.isub, 1) := by decide +kernel
theorem dX7_winter_66 : decode cX7_winter 66 = .ok (.ireturn, 1) := by decide +kernel
theorem dX7_seed_0 : decode cX7_seed 0 = .ok (.aload_n 0, 1) := by decide +kernel
theorem dX7_seed_1 : decode cX7_seed 1 = .ok (.getfield 78, 3) := by decide +kernel
theorem dX7_seed_4 : decode cX7_seed 4 = .ok (.istore_n 2, 1) := by decide +kernel
theorem dX7_seed_5 : decode cX7_seed 5 = .ok (.aload_n 0, 1) := by decide +kernel
theorem dX7_seed_6 : decode cX7_seed 6 = .ok (.iload_n 1, 1) := by decide +kernel
theorem dX7_seed_7 : decode cX7_seed 7 = .ok (.putfield 78, 3) := by decide +kernel
theorem dX7_seed_10 : decode cX7_seed 10 = .ok (.iload_n 2, 1) := by decide +kernel
theorem dX7_seed_11 : decode cX7_seed 11 = .ok (.ireturn, 1) := by decide +kernel
theorem dX7_ran_0 : decode cX7_ran 0 = .ok (.aload_n 0, 1) := by decide +kernel
theorem dX7_ran_1 : decode cX7_ran 1 = .ok (.getfield 232, 3) := by decide +kernel
theorem dX7_ran_4 : decode cX7_ran 4 = .ok (.bipush 20, 2) := by decide +kernel
theorem dX7_ran_6 : decode cX7_ran 6 = .ok (.if_icmp .ge 13, 3) := by decide +kernel
theorem dX7_ran_9 : decode cX7_ran 9 = .ok (.aload_n 0, 1) := by decide +kernel
theorem dX7_ran_10 : decode cX7_ran 10 = .ok (.getfield 44, 3) := by decide +kernel
theorem dX7_ran_13 : decode cX7_ran 13 = .ok (.aload_n 0, 1) := by decide +kernel
theorem dX7_ran_14 : decode cX7_ran 14 = .ok (.getfield 232, 3) := by decide +kernel
theorem dX7_ran_17 : decode cX7_ran 17 = .ok (.iload_n 1, 1) := by decide +kernel
theorem dX7_ran_18 : decode cX7_ran 18 = .ok (.iastore, 1) := by decide +kernel
theorem dX7_ran_19 : decode cX7_ran 19 = .ok (.aload_n 0, 1) := by decide +kernel
theorem dX7_ran_20 : decode cX7_ran 20 = .ok (.dup, 1) := by decide +kernel
theorem dX7_ran_21 : decode cX7_ran 21 = .ok (.getfield 232, 3) := by decide +kernel
theorem dX7_ran_24 : decode cX7_ran 24 = .ok (.iconst 1, 1) := by decide +kernel
theorem dX7_ran_25 : decode cX7_ran 25 = .ok (.iadd, 1) := by decide +kernel
theorem dX7_ran_26 : decode cX7_ran 26 = .ok (.putfield 232, 3) := by decide +kernel
theorem dX7_ran_29 : decode cX7_ran 29 = .ok (.return_, 1) := by decide +kernel
theorem dX7_freezes_0 : decode cX7_freezes 0 = .ok (.aload_n 0, 1) := by decide +kernel
theorem dX7_freezes_1 : decode cX7_freezes 1 = .ok (.getfield 23, 3) := by decide +kernel
theorem dX7_freezes_4 : decode cX7_freezes 4 = .ok (.iload_n 1, 1) := by decide +kernel
theorem dX7_freezes_5 : decode cX7_freezes 5 = .ok (.iaload, 1) := by decide +kernel
theorem dX7_freezes_6 : decode cX7_freezes 6 = .ok (.tableswitch 97 1 6 #[38, 97, 97, 61, 38, 79], 38) := by decide +kernel
theorem dX7_freezes_44 : decode cX7_freezes 44 = .ok (.aload_n 0, 1) := by decide +kernel
theorem dX7_freezes_45 : decode cX7_freezes 45 = .ok (.bipush 20, 2) := by decide +kernel
theorem dX7_freezes_47 : decode cX7_freezes 47 = .ok (.invokevirtual 235, 3) := by decide +kernel
theorem dX7_freezes_50 : decode cX7_freezes 50 = .ok (.aload_n 0, 1) := by decide +kernel
theorem dX7_freezes_51 : decode cX7_freezes 51 = .ok (.bipush 10, 2) := by decide +kernel
theorem dX7_freezes_53 : decode cX7_freezes 53 = .ok (.invokevirtual 235, 3) := by decide +kernel
theorem dX7_freezes_56 : decode cX7_freezes 56 = .ok (.iload_n 2, 1) := by decide +kernel
theorem dX7_freezes_57 : decode cX7_freezes 57 = .ok (.iload_n 1, 1) := by decide +kernel
theorem dX7_freezes_58 : decode cX7_freezes 58 = .ok (.iadd, 1) := by decide +kernel
theorem dX7_freezes_59 : decode cX7_freezes 59 = .ok (.aload_n 0, 1) := by decide +kernel
theorem dX7_freezes_60 : decode cX7_freezes 60 = .ok (.getfield 29, 3) := by decide +kernel
theorem dX7_freezes_63 : decode cX7_freezes 63 = .ok (.iload_n 1, 1) := by decide +kernel
theorem dX7_freezes_64 : decode cX7_freezes 64 = .ok (.iaload, 1) := by decide +kernel
theorem dX7_freezes_65 : decode cX7_freezes 65 = .ok (.iadd, 1) := by decide +kernel
theorem dX7_freezes_66 : decode cX7_freezes 66 = .ok (.ireturn, 1) := by decide +kernel
theorem dX7_freezes_67 : decode cX7_freezes 67 = .ok (.aload_n 0, 1) := by decide +kernel
theorem dX7_freezes_68 : decode cX7_freezes 68 = .ok (.bipush 51, 2) := by decide +kernel
theorem dX7_freezes_70 : decode cX7_freezes 70 = .ok (.invokevirtual 235, 3) := by decide +kernel
theorem dX7_freezes_73 : decode cX7_freezes 73 = .ok (.aload_n 0, 1) := by decide +kernel
theorem dX7_freezes_74 : decode cX7_freezes 74 = .ok (.bipush 10, 2) := by decide +kernel
theorem dX7_freezes_76 : decode cX7_freezes 76 = .ok (.invokevirtual 235, 3) := by decide +kernel
theorem dX7_freezes_79 : decode cX7_freezes 79 = .ok (.iload_n 2, 1) := by decide +kernel
theorem dX7_freezes_80 : decode cX7_freezes 80 = .ok (.iload_n 1, 1) := by decide +kernel
theorem dX7_freezes_81 : decode cX7_freezes 81 = .ok (.iadd, 1) := by decide +kernel
theorem dX7_freezes_82 : decode cX7_freezes 82 = .ok (.iload_n 1, 1) := by decide +kernel
theorem dX7_freezes_83 : decode cX7_freezes 83 = .ok (.isub, 1) := by decide +kernel
theorem dX7_freezes_84 : decode cX7_freezes 84 = .ok (.ireturn, 1) := by decide +kernel
theorem dX7_freezes_85 : decode cX7_freezes 85 = .ok (.aload_n 0, 1) := by decide +kernel
theorem dX7_freezes_86 : decode cX7_freezes 86 = .ok (.bipush 70, 2) := by decide +kernel
theorem dX7_freezes_88 : decode cX7_freezes 88 = .ok (.invokevirtual 235, 3) := by decide +kernel
theorem dX7_freezes_91 : decode cX7_freezes 91 = .ok (.aload_n 0, 1) := by decide +kernel
theorem dX7_freezes_92 : decode cX7_freezes 92 = .ok (.bipush 10, 2) := by decide +kernel
theorem dX7_freezes_94 : decode cX7_freezes 94 = .ok (.invokevirtual 235, 3) := by decide +kernel
theorem dX7_freezes_97 : decode cX7_freezes 97 = .ok (.iload_n 2, 1) := by decide +kernel
theorem dX7_freezes_98 : decode cX7_freezes 98 = .ok (.iload_n 1, 1) := by decide +kernel
theorem dX7_freezes_99 : decode cX7_freezes 99 = .ok (.iadd, 1) := by decide +kernel
theorem dX7_freezes_100 : decode cX7_freezes 100 = .ok (.iconst 2, 1) := by decide +kernel
theorem dX7_freezes_101 : decode cX7_freezes 101 = .ok (.imul, 1) := by decide +kernel
theorem dX7_freezes_102 : decode cX7_freezes 102 = .ok (.ireturn, 1) := by decide +kernel
theorem dX7_freezes_103 : decode cX7_freezes 103 = .ok (.aload_n 0, 1) := by decide +kernel
theorem dX7_freezes_104 : decode cX7_freezes 104 = .ok (.bipush 10, 2) := by decide +kernel
theorem dX7_freezes_106 : decode cX7_freezes 106 = .ok (.invokevirtual 235, 3) := by decide +kernel
theorem dX7_freezes_109 : decode cX7_freezes 109 = .ok (.iload_n 2, 1) := by decide +kernel
theorem dX7_freezes_110 : decode cX7_freezes 110 = .ok (.iload_n 1, 1) := by decide +kernel
theorem dX7_freezes_111 : decode cX7_freezes 111 = .ok (.iadd, 1) := by decide +kernel
theorem dX7_freezes_112 : decode cX7_freezes 112 = .ok (.ireturn, 1) := by decide +kernel
theorem dX7_melts0_0 : decode cX7_melts0 0 = .ok (.aload_n 0, 1) := by decide +kernel
theorem dX7_melts0_1 : decode cX7_melts0 1 = .ok (.bipush 11, 2) := by decide +kernel
theorem dX7_melts0_3 : decode cX7_melts0 3 = .ok (.invokevirtual 235, 3) := by decide +kernel
theorem dX7_melts0_6 : decode cX7_melts0 6 = .ok (.aload_n 0, 1) := by decide +kernel
theorem dX7_melts0_7 : decode cX7_melts0 7 = .ok (.iload_n 1, 1) := by decide +kernel
theorem dX7_melts0_8 : decode cX7_melts0 8 = .ok (.iload_n 2, 1) := by decide +kernel
theorem dX7_melts0_9 : decode cX7_melts0 9 = .ok (.invokevirtual 238, 3) := by decide +kernel
theorem dX7_melts0_12 : decode cX7_melts0 12 = .ok (.iconst 2, 1) := by decide +kernel
theorem dX7_melts0_13 : decode cX7_melts0 13 = .ok (.imul, 1) := by decide +kernel
theorem dX7_melts0_14 : decode cX7_melts0 14 = .ok (.ireturn, 1) := by decide +kernel
theorem dX7_melts2_0 : decode cX7_melts2 0 = .ok (.aload_n 0, 1) := by decide +kernel
theorem dX7_melts2_1 : decode cX7_melts2 1 = .ok (.bipush 30, 2) := by decide +kernel
theorem dX7_melts2_3 : decode cX7_melts2 3 = .ok (.invokevirtual 235, 3) := by decide +kernel
theorem dX7_melts2_6 : decode cX7_melts2 6 = .ok (.aload_n 0, 1) := by decide +kernel
theorem dX7_melts2_7 : decode cX7_melts2 7 = .ok (.iload_n 1, 1) := by decide +kernel
theorem dX7_melts2_8 : decode cX7_melts2 8 = .ok (.iload_n 2, 1) := by decide +kernel
theorem dX7_melts2_9 : decode cX7_melts2 9 = .ok (.invokevirtual 241, 3) := by decide +kernel
theorem dX7_melts2_12 : decode cX7_melts2 12 = .ok (.iconst 3, 1) := by decide +kernel
theorem dX7_melts2_13 : decode cX7_melts2 13 = .ok (.imul, 1) := by decide +kernel
theorem dX7_melts2_14 : decode cX7_melts2 14 = .ok (.ireturn, 1) := by decide +kernel
theorem dX7_melts3_0 : decode cX7_melts3 0 = .ok (.aload_n 0, 1) := by decide +kernel
theorem dX7_melts3_1 : decode cX7_melts3 1 = .ok (.bipush 40, 2) := by decide +kernel
theorem dX7_melts3_3 : decode cX7_melts3 3 = .ok (.invokevirtual 235, 3) := by decide +kernel
theorem dX7_melts3_6 : decode cX7_melts3 6 = .ok (.aload_n 0, 1) := by decide +kernel
theorem dX7_melts3_7 : decode cX7_melts3 7 = .ok (.iload_n 1, 1) := by decide +kernel
theorem dX7_melts3_8 : decode cX7_melts3 8 = .ok (.iload_n 2, 1) := by decide +kernel
theorem dX7_melts3_9 : decode cX7_melts3 9 = .ok (.iconst 1, 1) := by decide +kernel
theorem dX7_melts3_10 : decode cX7_melts3 10 = .ok (.iadd, 1) := by decide +kernel
theorem dX7_melts3_11 : decode cX7_melts3 11 = .ok (.invokevirtual 244, 3) := by decide +kernel
theorem dX7_melts3_14 : decode cX7_melts3 14 = .ok (.ireturn, 1) := by decide +kernel
theorem dX7_meltsAct_0 : decode cX7_meltsAct 0 = .ok (.aload_n 0, 1) := by decide +kernel
theorem dX7_meltsAct_1 : decode cX7_meltsAct 1 = .ok (.getfield 23, 3) := by decide +kernel
theorem dX7_meltsAct_4 : decode cX7_meltsAct 4 = .ok (.iload_n 1, 1) := by decide +kernel
theorem dX7_meltsAct_5 : decode cX7_meltsAct 5 = .ok (.iaload, 1) := by decide +kernel
theorem dX7_meltsAct_6 : decode cX7_meltsAct 6 = .ok (.tableswitch 68 2 6 #[34, 41, 68, 68, 48], 34) := by decide +kernel
theorem dX7_meltsAct_40 : decode cX7_meltsAct 40 = .ok (.aload_n 0, 1) := by decide +kernel
theorem dX7_meltsAct_41 : decode cX7_meltsAct 41 = .ok (.iload_n 1, 1) := by decide +kernel
theorem dX7_meltsAct_42 : decode cX7_meltsAct 42 = .ok (.iload_n 2, 1) := by decide +kernel
theorem dX7_meltsAct_43 : decode cX7_meltsAct 43 = .ok (.invokevirtual 244, 3) := by decide +kernel
theorem dX7_meltsAct_46 : decode cX7_meltsAct 46 = .ok (.ireturn, 1) := by decide +kernel
theorem dX7_meltsAct_47 : decode cX7_meltsAct 47 = .ok (.aload_n 0, 1) := by decide +kernel
theorem dX7_meltsAct_48 : decode cX7_meltsAct 48 = .ok (.iload_n 1, 1) := by decide +kernel
theorem dX7_meltsAct_49 : decode cX7_meltsAct 49 = .ok (.iload_n 2, 1) := by decide +kernel
theorem dX7_meltsAct_50 : decode cX7_meltsAct 50 = .ok (.invokevirtual 247, 3) := by decide +kernel
theorem dX7_meltsAct_53 : decode cX7_meltsAct 53 = .ok (.ireturn, 1) := by decide +kernel
theorem dX7_meltsAct_54 : decode cX7_meltsAct 54 = .ok (.aload_n 0, 1) := by decide +kernel
theorem dX7_meltsAct_55 : decode cX7_meltsAct 55 = .ok (.bipush 71, 2) := by decide +kernel
theorem dX7_meltsAct_57 : decode cX7_meltsAct 57 = .ok (.invokevirtual 235, 3) := by decide +kernel
theorem dX7_meltsAct_60 : decode cX7_meltsAct 60 = .ok (.aload_n 0, 1) := by decide +kernel
theorem dX7_meltsAct_61 : decode cX7_meltsAct 61 = .ok (.iload_n 1, 1) := by decide +kernel
theorem dX7_meltsAct_62 : decode cX7_meltsAct 62 = .ok (.iload_n 2, 1) := by decide +kernel
theorem dX7_meltsAct_63 : decode cX7_meltsAct 63 = .ok (.aload_n 0, 1) := by decide +kernel
theorem dX7_meltsAct_64 : decode cX7_meltsAct 64 = .ok (.getfield 29, 3) := by decide +kernel
theorem dX7_meltsAct_67 : decode cX7_meltsAct 67 = .ok (.iload_n 1, 1) := by decide +kernel
theorem dX7_meltsAct_68 : decode cX7_meltsAct 68 = .ok (.iaload, 1) := by decide +kernel
theorem dX7_meltsAct_69 : decode cX7_meltsAct 69 = .ok (.isub, 1) := by decide +kernel
theorem dX7_meltsAct_70 : decode cX7_meltsAct 70 = .ok (.invokevirtual 247, 3) := by decide +kernel
theorem dX7_meltsAct_73 : decode cX7_meltsAct 73 = .ok (.ireturn, 1) := by decide +kernel
theorem dX7_meltsAct_74 : decode cX7_meltsAct 74 = .ok (.aload_n 0, 1) := by decide +kernel
theorem dX7_meltsAct_75 : decode cX7_meltsAct 75 = .ok (.iload_n 1, 1) := by decide +kernel
theorem dX7_meltsAct_76 : decode cX7_meltsAct 76 = .ok (.iload_n 2, 1) := by decide +kernel
theorem dX7_meltsAct_77 : decode cX7_meltsAct 77 = .ok (.invokevirtual 241, 3) := by decide +kernel
theorem dX7_meltsAct_80 : decode cX7_meltsAct 80 = .ok (.ireturn, 1) := by decide +kernel
theorem dX7_shows0_0 : decode cX7_shows0 0 = .ok (.aload_n 0, 1) := by decide +kernel
theorem dX7_shows0_1 : decode cX7_shows0 1 = .ok (.bipush 12, 2) := by decide +kernel
theorem dX7_shows0_3 : decode cX7_shows0 3 = .ok (.invokevirtual 235, 3) := by decide +kernel
theorem dX7_shows0_6 : decode cX7_shows0 6 = .ok (.aload_n 0, 1) := by decide +kernel
theorem dX7_shows0_7 : decode cX7_shows0 7 = .ok (.iload_n 1, 1) := by decide +kernel
theorem dX7_shows0_8 : decode cX7_shows0 8 = .ok (.iload_n 2, 1) := by decide +kernel
theorem dX7_shows0_9 : decode cX7_shows0 9 = .ok (.invokevirtual 250, 3) := by decide +kernel
theorem dX7_shows0_12 : decode cX7_shows0 12 = .ok (.istore_n 3, 1) := by decide +kernel
theorem dX7_shows0_13 : decode cX7_shows0 13 = .ok (.iload_n 3, 1) := by decide +kernel
theorem dX7_shows0_14 : decode cX7_shows0 14 = .ok (.aload_n 0, 1) := by decide +kernel
theorem dX7_shows0_15 : decode cX7_shows0 15 = .ok (.iload_n 1, 1) := by decide +kernel
theorem dX7_shows0_16 : decode cX7_shows0 16 = .ok (.iload_n 2, 1) := by decide +kernel
theorem dX7_shows0_17 : decode cX7_shows0 17 = .ok (.aload_n 0, 1) := by decide +kernel
theorem dX7_shows0_18 : decode cX7_shows0 18 = .ok (.getfield 29, 3) := by decide +kernel
theorem dX7_shows0_21 : decode cX7_shows0 21 = .ok (.iload_n 1, 1) := by decide +kernel
theorem dX7_shows0_22 : decode cX7_shows0 22 = .ok (.iaload, 1) := by decide +kernel
theorem dX7_shows0_23 : decode cX7_shows0 23 = .ok (.isub, 1) := by decide +kernel
theorem dX7_shows0_24 : decode cX7_shows0 24 = .ok (.invokevirtual 238, 3) := by decide +kernel
theorem dX7_shows0_27 : decode cX7_shows0 27 = .ok (.ixor, 1) := by decide +kernel
theorem dX7_shows0_28 : decode cX7_shows0 28 = .ok (.ireturn, 1) := by decide +kernel
theorem dX7_shows_0 : decode cX7_shows 0 = .ok (.aload_n 0, 1) := by decide +kernel
theorem dX7_shows_1 : decode cX7_shows 1 = .ok (.getfield 23, 3) := by decide +kernel
theorem dX7_shows_4 : decode cX7_shows 4 = .ok (.iload_n 1, 1) := by decide +kernel
theorem dX7_shows_5 : decode cX7_shows 5 = .ok (.iaload, 1) := by decide +kernel
theorem dX7_shows_6 : decode cX7_shows 6 = .ok (.iconst 4, 1) := by decide +kernel
theorem dX7_shows_7 : decode cX7_shows 7 = .ok (.if_icmp .ne 17, 3) := by decide +kernel
theorem dX7_shows_10 : decode cX7_shows 10 = .ok (.aload_n 0, 1) := by decide +kernel
theorem dX7_shows_11 : decode cX7_shows 11 = .ok (.bipush 50, 2) := by decide +kernel
theorem dX7_shows_13 : decode cX7_shows 13 = .ok (.invokevirtual 235, 3) := by decide +kernel
theorem dX7_shows_16 : decode cX7_shows 16 = .ok (.aload_n 0, 1) := by decide +kernel
theorem dX7_shows_17 : decode cX7_shows 17 = .ok (.iload_n 1, 1) := by decide +kernel
theorem dX7_shows_18 : decode cX7_shows 18 = .ok (.iload_n 2, 1) := by decide +kernel
theorem dX7_shows_19 : decode cX7_shows 19 = .ok (.invokevirtual 253, 3) := by decide +kernel
theorem dX7_shows_22 : decode cX7_shows 22 = .ok (.ineg, 1) := by decide +kernel
theorem dX7_shows_23 : decode cX7_shows 23 = .ok (.ireturn, 1) := by decide +kernel
theorem dX7_shows_24 : decode cX7_shows 24 = .ok (.aload_n 0, 1) := by decide +kernel
theorem dX7_shows_25 : decode cX7_shows 25 = .ok (.getfield 23, 3) := by decide +kernel
theorem dX7_shows_28 : decode cX7_shows 28 = .ok (.iload_n 1, 1) := by decide +kernel
theorem dX7_shows_29 : decode cX7_shows 29 = .ok (.iaload, 1) := by decide +kernel
theorem dX7_shows_30 : decode cX7_shows 30 = .ok (.iconst 5, 1) := by decide +kernel
theorem dX7_shows_31 : decode cX7_shows 31 = .ok (.if_icmp .ne 18, 3) := by decide +kernel
theorem dX7_shows_34 : decode cX7_shows 34 = .ok (.aload_n 0, 1) := by decide +kernel
theorem dX7_shows_35 : decode cX7_shows 35 = .ok (.bipush 60, 2) := by decide +kernel
theorem dX7_shows_37 : decode cX7_shows 37 = .ok (.invokevirtual 235, 3) := by decide +kernel
theorem dX7_shows_40 : decode cX7_shows 40 = .ok (.aload_n 0, 1) := by decide +kernel
theorem dX7_shows_41 : decode cX7_shows 41 = .ok (.iload_n 1, 1) := by decide +kernel
theorem dX7_shows_42 : decode cX7_shows 42 = .ok (.iload_n 2, 1) := by decide +kernel
theorem dX7_shows_43 : decode cX7_shows 43 = .ok (.invokevirtual 253, 3) := by decide +kernel
theorem dX7_shows_46 : decode cX7_shows 46 = .ok (.iconst 5, 1) := by decide +kernel
theorem dX7_shows_47 : decode cX7_shows 47 = .ok (.ixor, 1) := by decide +kernel
theorem dX7_shows_48 : decode cX7_shows 48 = .ok (.ireturn, 1) := by decide +kernel
theorem dX7_shows_49 : decode cX7_shows 49 = .ok (.aload_n 0, 1) := by decide +kernel
theorem dX7_shows_50 : decode cX7_shows 50 = .ok (.iload_n 1, 1) := by decide +kernel
theorem dX7_shows_51 : decode cX7_shows 51 = .ok (.iload_n 2, 1) := by decide +kernel
theorem dX7_shows_52 : decode cX7_shows 52 = .ok (.invokevirtual 253, 3) := by decide +kernel
theorem dX7_shows_55 : decode cX7_shows 55 = .ok (.ireturn, 1) := by decide +kernel
theorem dX7_act_0 : decode cX7_act 0 = .ok (.aload_n 0, 1) := by decide +kernel
theorem dX7_act_1 : decode cX7_act 1 = .ok (.iconst 0, 1) := by decide +kernel
theorem dX7_act_2 : decode cX7_act 2 = .ok (.putfield 232, 3) := by decide +kernel
theorem dX7_act_5 : decode cX7_act 5 = .ok (.aload_n 0, 1) := by decide +kernel
theorem dX7_act_6 : decode cX7_act 6 = .ok (.iload_n 1, 1) := by decide +kernel
theorem dX7_act_7 : decode cX7_act 7 = .ok (.invokevirtual 105, 3) := by decide +kernel
theorem dX7_act_10 : decode cX7_act 10 = .ok (.ifCond .eq 12, 3) := by decide +kernel
theorem dX7_act_13 : decode cX7_act 13 = .ok (.iload_n 2, 1) := by decide +kernel
theorem dX7_act_14 : decode cX7_act 14 = .ok (.iconst 0, 1) := by decide +kernel
theorem dX7_act_15 : decode cX7_act 15 = .ok (.iconst 2, 1) := by decide +kernel
theorem dX7_act_16 : decode cX7_act 16 = .ok (.invokestatic 87, 3) := by decide +kernel
theorem dX7_act_19 : decode cX7_act 19 = .ok (.ifCond .ne 5, 3) := by decide +kernel
theorem dX7_act_22 : decode cX7_act 22 = .ok (.iconst 0, 1) := by decide +kernel
theorem dX7_act_23 : decode cX7_act 23 = .ok (.ireturn, 1) := by decide +kernel
theorem dX7_act_24 : decode cX7_act 24 = .ok (.iload_n 2, 1) := by decide +kernel
theorem dX7_act_25 : decode cX7_act 25 = .ok (.ifCond .ne 12, 3) := by decide +kernel
theorem dX7_act_28 : decode cX7_act 28 = .ok (.aload_n 0, 1) := by decide +kernel
theorem dX7_act_29 : decode cX7_act 29 = .ok (.iload_n 1, 1) := by decide +kernel
theorem dX7_act_30 : decode cX7_act 30 = .ok (.iload_n 3, 1) := by decide +kernel
theorem dX7_act_31 : decode cX7_act 31 = .ok (.invokevirtual 238, 3) := by decide +kernel
theorem dX7_act_34 : decode cX7_act 34 = .ok (.goto 23, 3) := by decide +kernel
theorem dX7_act_37 : decode cX7_act 37 = .ok (.iload_n 2, 1) := by decide +kernel
theorem dX7_act_38 : decode cX7_act 38 = .ok (.iconst 1, 1) := by decide +kernel
theorem dX7_act_39 : decode cX7_act 39 = .ok (.if_icmp .ne 12, 3) := by decide +kernel
theorem dX7_act_42 : decode cX7_act 42 = .ok (.aload_n 0, 1) := by decide +kernel
theorem dX7_act_43 : decode cX7_act 43 = .ok (.iload_n 1, 1) := by decide +kernel
theorem dX7_act_44 : decode cX7_act 44 = .ok (.iload_n 3, 1) := by decide +kernel
theorem dX7_act_45 : decode cX7_act 45 = .ok (.invokevirtual 250, 3) := by decide +kernel
theorem dX7_act_48 : decode cX7_act 48 = .ok (.goto 9, 3) := by decide +kernel
theorem dX7_act_51 : decode cX7_act 51 = .ok (.aload_n 0, 1) := by decide +kernel
theorem dX7_act_52 : decode cX7_act 52 = .ok (.iload_n 1, 1) := by decide +kernel
theorem dX7_act_53 : decode cX7_act 53 = .ok (.iload_n 3, 1) := by decide +kernel
theorem dX7_act_54 : decode cX7_act 54 = .ok (.invokevirtual 256, 3) := by decide +kernel
theorem dX7_act_57 : decode cX7_act 57 = .ok (.ireturn, 1) := by decide +kernel
theorem dX7_trace_0 : decode cX7_trace 0 = .ok (.iload_n 1, 1) := by decide +kernel
theorem dX7_trace_1 : decode cX7_trace 1 = .ok (.ifCond .lt 26, 3) := by decide +kernel
theorem dX7_trace_4 : decode cX7_trace 4 = .ok (.iload_n 1, 1) := by decide +kernel
theorem dX7_trace_5 : decode cX7_trace 5 = .ok (.aload_n 0, 1) := by decide +kernel
theorem dX7_trace_6 : decode cX7_trace 6 = .ok (.getfield 232, 3) := by decide +kernel
theorem dX7_trace_9 : decode cX7_trace 9 = .ok (.if_icmp .ge 18, 3) := by decide +kernel
theorem dX7_trace_12 : decode cX7_trace 12 = .ok (.iload_n 1, 1) := by decide +kernel
theorem dX7_trace_13 : decode cX7_trace 13 = .ok (.bipush 20, 2) := by decide +kernel
theorem dX7_trace_15 : decode cX7_trace 15 = .ok (.if_icmp .ge 12, 3) := by decide +kernel
theorem dX7_trace_18 : decode cX7_trace 18 = .ok (.aload_n 0, 1) := by decide +kernel
theorem dX7_trace_19 : decode cX7_trace 19 = .ok (.getfield 44, 3) := by decide +kernel
theorem dX7_trace_22 : decode cX7_trace 22 = .ok (.iload_n 1, 1) := by decide +kernel
theorem dX7_trace_23 : decode cX7_trace 23 = .ok (.iaload, 1) := by decide +kernel
theorem dX7_trace_24 : decode cX7_trace 24 = .ok (.goto 4, 3) := by decide +kernel
theorem dX7_trace_27 : decode cX7_trace 27 = .ok (.iconst (-1), 1) := by decide +kernel
theorem dX7_trace_28 : decode cX7_trace 28 = .ok (.ireturn, 1) := by decide +kernel
theorem dX7_image_0 : decode cX7_image 0 = .ok (.aload_n 0, 1) := by decide +kernel
theorem dX7_image_1 : decode cX7_image 1 = .ok (.iconst 1, 1) := by decide +kernel
theorem dX7_image_2 : decode cX7_image 2 = .ok (.putfield 259, 3) := by decide +kernel
theorem dX7_image_5 : decode cX7_image 5 = .ok (.iconst 0, 1) := by decide +kernel
theorem dX7_image_6 : decode cX7_image 6 = .ok (.istore_n 1, 1) := by decide +kernel
theorem dX7_image_7 : decode cX7_image 7 = .ok (.iload_n 1, 1) := by decide +kernel
theorem dX7_image_8 : decode cX7_image 8 = .ok (.bipush 8, 2) := by decide +kernel
theorem dX7_image_10 : decode cX7_image 10 = .ok (.if_icmp .ge 96, 3) := by decide +kernel
theorem dX7_image_13 : decode cX7_image 13 = .ok (.aload_n 0, 1) := by decide +kernel
theorem dX7_image_14 : decode cX7_image 14 = .ok (.getfield 47, 3) := by decide +kernel
theorem dX7_image_17 : decode cX7_image 17 = .ok (.iload_n 1, 1) := by decide +kernel
theorem dX7_image_18 : decode cX7_image 18 = .ok (.aload_n 0, 1) := by decide +kernel
theorem dX7_image_19 : decode cX7_image 19 = .ok (.getfield 20, 3) := by decide +kernel
theorem dX7_image_22 : decode cX7_image 22 = .ok (.iload_n 1, 1) := by decide +kernel
theorem dX7_image_23 : decode cX7_image 23 = .ok (.iaload, 1) := by decide +kernel
theorem dX7_image_24 : decode cX7_image 24 = .ok (.iastore, 1) := by decide +kernel
theorem dX7_image_25 : decode cX7_image 25 = .ok (.aload_n 0, 1) := by decide +kernel
theorem dX7_image_26 : decode cX7_image 26 = .ok (.getfield 47, 3) := by decide +kernel
theorem dX7_image_29 : decode cX7_image 29 = .ok (.bipush 8, 2) := by decide +kernel
theorem dX7_image_31 : decode cX7_image 31 = .ok (.iload_n 1, 1) := by decide +kernel
theorem dX7_image_32 : decode cX7_image 32 = .ok (.iadd, 1) := by decide +kernel
theorem dX7_image_33 : decode cX7_image 33 = .ok (.aload_n 0, 1) := by decide +kernel
theorem dX7_image_34 : decode cX7_image 34 = .ok (.getfield 23, 3) := by decide +kernel
theorem dX7_image_37 : decode cX7_image 37 = .ok (.iload_n 1, 1) := by decide +kernel
theorem dX7_image_38 : decode cX7_image 38 = .ok (.iaload, 1) := by decide +kernel
theorem dX7_image_39 : decode cX7_image 39 = .ok (.iastore, 1) := by decide +kernel
theorem dX7_image_40 : decode cX7_image 40 = .ok (.aload_n 0, 1) := by decide +kernel
theorem dX7_image_41 : decode cX7_image 41 = .ok (.getfield 47, 3) := by decide +kernel
theorem dX7_image_44 : decode cX7_image 44 = .ok (.bipush 16, 2) := by decide +kernel
theorem dX7_image_46 : decode cX7_image 46 = .ok (.iload_n 1, 1) := by decide +kernel
theorem dX7_image_47 : decode cX7_image 47 = .ok (.iadd, 1) := by decide +kernel
theorem dX7_image_48 : decode cX7_image 48 = .ok (.aload_n 0, 1) := by decide +kernel
theorem dX7_image_49 : decode cX7_image 49 = .ok (.getfield 26, 3) := by decide +kernel
theorem dX7_image_52 : decode cX7_image 52 = .ok (.iload_n 1, 1) := by decide +kernel
theorem dX7_image_53 : decode cX7_image 53 = .ok (.iaload, 1) := by decide +kernel
theorem dX7_image_54 : decode cX7_image 54 = .ok (.iastore, 1) := by decide +kernel
theorem dX7_image_55 : decode cX7_image 55 = .ok (.aload_n 0, 1) := by decide +kernel
theorem dX7_image_56 : decode cX7_image 56 = .ok (.getfield 47, 3) := by decide +kernel
theorem dX7_image_59 : decode cX7_image 59 = .ok (.bipush 24, 2) := by decide +kernel
theorem dX7_image_61 : decode cX7_image 61 = .ok (.iload_n 1, 1) := by decide +kernel
theorem dX7_image_62 : decode cX7_image 62 = .ok (.iadd, 1) := by decide +kernel
theorem dX7_image_63 : decode cX7_image 63 = .ok (.aload_n 0, 1) := by decide +kernel
theorem dX7_image_64 : decode cX7_image 64 = .ok (.getfield 29, 3) := by decide +kernel
theorem dX7_image_67 : decode cX7_image 67 = .ok (.iload_n 1, 1) := by decide +kernel
theorem dX7_image_68 : decode cX7_image 68 = .ok (.iaload, 1) := by decide +kernel
theorem dX7_image_69 : decode cX7_image 69 = .ok (.iastore, 1) := by decide +kernel
theorem dX7_image_70 : decode cX7_image 70 = .ok (.aload_n 0, 1) := by decide +kernel
theorem dX7_image_71 : decode cX7_image 71 = .ok (.getfield 47, 3) := by decide +kernel
theorem dX7_image_74 : decode cX7_image 74 = .ok (.bipush 32, 2) := by decide +kernel
theorem dX7_image_76 : decode cX7_image 76 = .ok (.iload_n 1, 1) := by decide +kernel
theorem dX7_image_77 : decode cX7_image 77 = .ok (.iadd, 1) := by decide +kernel
theorem dX7_image_78 : decode cX7_image 78 = .ok (.aload_n 0, 1) := by decide +kernel
theorem dX7_image_79 : decode cX7_image 79 = .ok (.getfield 32, 3) := by decide +kernel
theorem dX7_image_82 : decode cX7_image 82 = .ok (.iload_n 1, 1) := by decide +kernel
theorem dX7_image_83 : decode cX7_image 83 = .ok (.iaload, 1) := by decide +kernel
theorem dX7_image_84 : decode cX7_image 84 = .ok (.iastore, 1) := by decide +kernel
theorem dX7_image_85 : decode cX7_image 85 = .ok (.aload_n 0, 1) := by decide +kernel
theorem dX7_image_86 : decode cX7_image 86 = .ok (.getfield 47, 3) := by decide +kernel
theorem dX7_image_89 : decode cX7_image 89 = .ok (.bipush 40, 2) := by decide +kernel
theorem dX7_image_91 : decode cX7_image 91 = .ok (.iload_n 1, 1) := by decide +kernel
theorem dX7_image_92 : decode cX7_image 92 = .ok (.iadd, 1) := by decide +kernel
theorem dX7_image_93 : decode cX7_image 93 = .ok (.aload_n 0, 1) := by decide +kernel
theorem dX7_image_94 : decode cX7_image 94 = .ok (.getfield 35, 3) := by decide +kernel
theorem dX7_image_97 : decode cX7_image 97 = .ok (.iload_n 1, 1) := by decide +kernel
theorem dX7_image_98 : decode cX7_image 98 = .ok (.iaload, 1) := by decide +kernel
theorem dX7_image_99 : decode cX7_image 99 = .ok (.iastore, 1) := by decide +kernel
theorem dX7_image_100 : decode cX7_image 100 = .ok (.iinc 1 1, 3) := by decide +kernel
theorem dX7_image_103 : decode cX7_image 103 = .ok (.goto (-96), 3) := by decide +kernel
theorem dX7_image_106 : decode cX7_image 106 = .ok (.iconst 0, 1) := by decide +kernel
theorem dX7_image_107 : decode cX7_image 107 = .ok (.istore_n 1, 1) := by decide +kernel
theorem dX7_image_108 : decode cX7_image 108 = .ok (.iload_n 1, 1) := by decide +kernel
theorem dX7_image_109 : decode cX7_image 109 = .ok (.sipush 128, 3) := by decide +kernel
theorem dX7_image_112 : decode cX7_image 112 = .ok (.if_icmp .ge 24, 3) := by decide +kernel
theorem dX7_image_115 : decode cX7_image 115 = .ok (.aload_n 0, 1) := by decide +kernel
theorem dX7_image_116 : decode cX7_image 116 = .ok (.getfield 47, 3) := by decide +kernel
theorem dX7_image_119 : decode cX7_image 119 = .ok (.bipush 48, 2) := by decide +kernel
theorem dX7_image_121 : decode cX7_image 121 = .ok (.iload_n 1, 1) := by decide +kernel
theorem dX7_image_122 : decode cX7_image 122 = .ok (.iadd, 1) := by decide +kernel
theorem dX7_image_123 : decode cX7_image 123 = .ok (.aload_n 0, 1) := by decide +kernel
theorem dX7_image_124 : decode cX7_image 124 = .ok (.getfield 38, 3) := by decide +kernel
theorem dX7_image_127 : decode cX7_image 127 = .ok (.iload_n 1, 1) := by decide +kernel
theorem dX7_image_128 : decode cX7_image 128 = .ok (.iaload, 1) := by decide +kernel
theorem dX7_image_129 : decode cX7_image 129 = .ok (.iastore, 1) := by decide +kernel
theorem dX7_image_130 : decode cX7_image 130 = .ok (.iinc 1 1, 3) := by decide +kernel
theorem dX7_image_133 : decode cX7_image 133 = .ok (.goto (-25), 3) := by decide +kernel
theorem dX7_image_136 : decode cX7_image 136 = .ok (.aload_n 0, 1) := by decide +kernel
theorem dX7_image_137 : decode cX7_image 137 = .ok (.getfield 47, 3) := by decide +kernel
theorem dX7_image_140 : decode cX7_image 140 = .ok (.sipush 176, 3) := by decide +kernel
theorem dX7_image_143 : decode cX7_image 143 = .ok (.aload_n 0, 1) := by decide +kernel
theorem dX7_image_144 : decode cX7_image 144 = .ok (.getfield 91, 3) := by decide +kernel
theorem dX7_image_147 : decode cX7_image 147 = .ok (.iastore, 1) := by decide +kernel
theorem dX7_image_148 : decode cX7_image 148 = .ok (.aload_n 0, 1) := by decide +kernel
theorem dX7_image_149 : decode cX7_image 149 = .ok (.getfield 47, 3) := by decide +kernel
theorem dX7_image_152 : decode cX7_image 152 = .ok (.sipush 177, 3) := by decide +kernel
theorem dX7_image_155 : decode cX7_image 155 = .ok (.aload_n 0, 1) := by decide +kernel
theorem dX7_image_156 : decode cX7_image 156 = .ok (.getfield 84, 3) := by decide +kernel
theorem dX7_image_159 : decode cX7_image 159 = .ok (.iastore, 1) := by decide +kernel
theorem dX7_image_160 : decode cX7_image 160 = .ok (.aload_n 0, 1) := by decide +kernel
theorem dX7_image_161 : decode cX7_image 161 = .ok (.getfield 47, 3) := by decide +kernel
theorem dX7_image_164 : decode cX7_image 164 = .ok (.sipush 178, 3) := by decide +kernel
theorem dX7_image_167 : decode cX7_image 167 = .ok (.aload_n 0, 1) := by decide +kernel
theorem dX7_image_168 : decode cX7_image 168 = .ok (.getfield 65, 3) := by decide +kernel
theorem dX7_image_171 : decode cX7_image 171 = .ok (.iastore, 1) := by decide +kernel
theorem dX7_image_172 : decode cX7_image 172 = .ok (.aload_n 0, 1) := by decide +kernel
theorem dX7_image_173 : decode cX7_image 173 = .ok (.getfield 47, 3) := by decide +kernel
theorem dX7_image_176 : decode cX7_image 176 = .ok (.sipush 179, 3) := by decide +kernel
theorem dX7_image_179 : decode cX7_image 179 = .ok (.aload_n 0, 1) := by decide +kernel
theorem dX7_image_180 : decode cX7_image 180 = .ok (.getfield 69, 3) := by decide +kernel
theorem dX7_image_183 : decode cX7_image 183 = .ok (.iastore, 1) := by decide +kernel
theorem dX7_image_184 : decode cX7_image 184 = .ok (.aload_n 0, 1) := by decide +kernel
theorem dX7_image_185 : decode cX7_image 185 = .ok (.getfield 47, 3) := by decide +kernel
theorem dX7_image_188 : decode cX7_image 188 = .ok (.sipush 180, 3) := by decide +kernel
theorem dX7_image_191 : decode cX7_image 191 = .ok (.aload_n 0, 1) := by decide +kernel
theorem dX7_image_192 : decode cX7_image 192 = .ok (.getfield 72, 3) := by decide +kernel
theorem dX7_image_195 : decode cX7_image 195 = .ok (.iastore, 1) := by decide +kernel
theorem dX7_image_196 : decode cX7_image 196 = .ok (.aload_n 0, 1) := by decide +kernel
theorem dX7_image_197 : decode cX7_image 197 = .ok (.getfield 47, 3) := by decide +kernel
theorem dX7_image_200 : decode cX7_image 200 = .ok (.sipush 181, 3) := by decide +kernel
theorem dX7_image_203 : decode cX7_image 203 = .ok (.aload_n 0, 1) := by decide +kernel
theorem dX7_image_204 : decode cX7_image 204 = .ok (.getfield 75, 3) := by decide +kernel
theorem dX7_image_207 : decode cX7_image 207 = .ok (.iastore, 1) := by decide +kernel
theorem dX7_image_208 : decode cX7_image 208 = .ok (.aload_n 0, 1) := by decide +kernel
theorem dX7_image_209 : decode cX7_image 209 = .ok (.getfield 47, 3) := by decide +kernel
theorem dX7_image_212 : decode cX7_image 212 = .ok (.sipush 182, 3) := by decide +kernel
theorem dX7_image_215 : decode cX7_image 215 = .ok (.aload_n 0, 1) := by decide +kernel
theorem dX7_image_216 : decode cX7_image 216 = .ok (.getfield 215, 3) := by decide +kernel
theorem dX7_image_219 : decode cX7_image 219 = .ok (.iastore, 1) := by decide +kernel
theorem dX7_image_220 : decode cX7_image 220 = .ok (.aload_n 0, 1) := by decide +kernel
theorem dX7_image_221 : decode cX7_image 221 = .ok (.getfield 47, 3) := by decide +kernel
theorem dX7_image_224 : decode cX7_image 224 = .ok (.sipush 183, 3) := by decide +kernel
theorem dX7_image_227 : decode cX7_image 227 = .ok (.aload_n 0, 1) := by decide +kernel
theorem dX7_image_228 : decode cX7_image 228 = .ok (.getfield 78, 3) := by decide +kernel
theorem dX7_image_231 : decode cX7_image 231 = .ok (.iastore, 1) := by decide +kernel
theorem dX7_image_232 : decode cX7_image 232 = .ok (.aload_n 0, 1) := by decide +kernel
theorem dX7_image_233 : decode cX7_image 233 = .ok (.getfield 84, 3) := by decide +kernel
theorem dX7_image_236 : decode cX7_image 236 = .ok (.ireturn, 1) := by decide +kernel
theorem dX7_restore_0 : decode cX7_restore 0 = .ok (.aload_n 0, 1) := by decide +kernel
theorem dX7_restore_1 : decode cX7_restore 1 = .ok (.getfield 259, 3) := by decide +kernel
theorem dX7_restore_4 : decode cX7_restore 4 = .ok (.ifCond .ne 10, 3) := by decide +kernel
theorem dX7_restore_7 : decode cX7_restore 7 = .ok (.aload_n 0, 1) := by decide +kernel
theorem dX7_restore_8 : decode cX7_restore 8 = .ok (.bipush (-6), 2) := by decide +kernel
theorem dX7_restore_10 : decode cX7_restore 10 = .ok (.invokevirtual 94, 3) := by decide +kernel
theorem dX7_restore_13 : decode cX7_restore 13 = .ok (.ireturn, 1) := by decide +kernel
theorem dX7_restore_14 : decode cX7_restore 14 = .ok (.iconst 0, 1) := by decide +kernel
theorem dX7_restore_15 : decode cX7_restore 15 = .ok (.istore_n 1, 1) := by decide +kernel
theorem dX7_restore_16 : decode cX7_restore 16 = .ok (.iload_n 1, 1) := by decide +kernel
theorem dX7_restore_17 : decode cX7_restore 17 = .ok (.bipush 8, 2) := by decide +kernel
theorem dX7_restore_19 : decode cX7_restore 19 = .ok (.if_icmp .ge 96, 3) := by decide +kernel
theorem dX7_restore_22 : decode cX7_restore 22 = .ok (.aload_n 0, 1) := by decide +kernel
theorem dX7_restore_23 : decode cX7_restore 23 = .ok (.getfield 20, 3) := by decide +kernel
theorem dX7_restore_26 : decode cX7_restore 26 = .ok (.iload_n 1, 1) := by decide +kernel
theorem dX7_restore_27 : decode cX7_restore 27 = .ok (.aload_n 0, 1) := by decide +kernel
theorem dX7_restore_28 : decode cX7_restore 28 = .ok (.getfield 47, 3) := by decide +kernel
theorem dX7_restore_31 : decode cX7_restore 31 = .ok (.iload_n 1, 1) := by decide +kernel
theorem dX7_restore_32 : decode cX7_restore 32 = .ok (.iaload, 1) := by decide +kernel
theorem dX7_restore_33 : decode cX7_restore 33 = .ok (.iastore, 1) := by decide +kernel
theorem dX7_restore_34 : decode cX7_restore 34 = .ok (.aload_n 0, 1) := by decide +kernel
theorem dX7_restore_35 : decode cX7_restore 35 = .ok (.getfield 23, 3) := by decide +kernel
theorem dX7_restore_38 : decode cX7_restore 38 = .ok (.iload_n 1, 1) := by decide +kernel
theorem dX7_restore_39 : decode cX7_restore 39 = .ok (.aload_n 0, 1) := by decide +kernel
theorem dX7_restore_40 : decode cX7_restore 40 = .ok (.getfield 47, 3) := by decide +kernel
theorem dX7_restore_43 : decode cX7_restore 43 = .ok (.bipush 8, 2) := by decide +kernel
theorem dX7_restore_45 : decode cX7_restore 45 = .ok (.iload_n 1, 1) := by decide +kernel
theorem dX7_restore_46 : decode cX7_restore 46 = .ok (.iadd, 1) := by decide +kernel
theorem dX7_restore_47 : decode cX7_restore 47 = .ok (.iaload, 1) := by decide +kernel
theorem dX7_restore_48 : decode cX7_restore 48 = .ok (.iastore, 1) := by decide +kernel
theorem dX7_restore_49 : decode cX7_restore 49 = .ok (.aload_n 0, 1) := by decide +kernel
theorem dX7_restore_50 : decode cX7_restore 50 = .ok (.getfield 26, 3) := by decide +kernel
theorem dX7_restore_53 : decode cX7_restore 53 = .ok (.iload_n 1, 1) := by decide +kernel
theorem dX7_restore_54 : decode cX7_restore 54 = .ok (.aload_n 0, 1) := by decide +kernel
theorem dX7_restore_55 : decode cX7_restore 55 = .ok (.getfield 47, 3) := by decide +kernel
theorem dX7_restore_58 : decode cX7_restore 58 = .ok (.bipush 16, 2) := by decide +kernel
theorem dX7_restore_60 : decode cX7_restore 60 = .ok (.iload_n 1, 1) := by decide +kernel
theorem dX7_restore_61 : decode cX7_restore 61 = .ok (.iadd, 1) := by decide +kernel
theorem dX7_restore_62 : decode cX7_restore 62 = .ok (.iaload, 1) := by decide +kernel
theorem dX7_restore_63 : decode cX7_restore 63 = .ok (.iastore, 1) := by decide +kernel
theorem dX7_restore_64 : decode cX7_restore 64 = .ok (.aload_n 0, 1) := by decide +kernel
theorem dX7_restore_65 : decode cX7_restore 65 = .ok (.getfield 29, 3) := by decide +kernel
theorem dX7_restore_68 : decode cX7_restore 68 = .ok (.iload_n 1, 1) := by decide +kernel
theorem dX7_restore_69 : decode cX7_restore 69 = .ok (.aload_n 0, 1) := by decide +kernel
theorem dX7_restore_70 : decode cX7_restore 70 = .ok (.getfield 47, 3) := by decide +kernel
theorem dX7_restore_73 : decode cX7_restore 73 = .ok (.bipush 24, 2) := by decide +kernel
theorem dX7_restore_75 : decode cX7_restore 75 = .ok (.iload_n 1, 1) := by decide +kernel
theorem dX7_restore_76 : decode cX7_restore 76 = .ok (.iadd, 1) := by decide +kernel
theorem dX7_restore_77 : decode cX7_restore 77 = .ok (.iaload, 1) := by decide +kernel
theorem dX7_restore_78 : decode cX7_restore 78 = .ok (.iastore, 1) := by decide +kernel
theorem dX7_restore_79 : decode cX7_restore 79 = .ok (.aload_n 0, 1) := by decide +kernel
theorem dX7_restore_80 : decode cX7_restore 80 = .ok (.getfield 32, 3) := by decide +kernel
theorem dX7_restore_83 : decode cX7_restore 83 = .ok (.iload_n 1, 1) := by decide +kernel
theorem dX7_restore_84 : decode cX7_restore 84 = .ok (.aload_n 0, 1) := by decide +kernel
theorem dX7_restore_85 : decode cX7_restore 85 = .ok (.getfield 47, 3) := by decide +kernel
theorem dX7_restore_88 : decode cX7_restore 88 = .ok (.bipush 32, 2) := by decide +kernel
theorem dX7_restore_90 : decode cX7_restore 90 = .ok (.iload_n 1, 1) := by decide +kernel
theorem dX7_restore_91 : decode cX7_restore 91 = .ok (.iadd, 1) := by decide +kernel
theorem dX7_restore_92 : decode cX7_restore 92 = .ok (.iaload, 1) := by decide +kernel
theorem dX7_restore_93 : decode cX7_restore 93 = .ok (.iastore, 1) := by decide +kernel
theorem dX7_restore_94 : decode cX7_restore 94 = .ok (.aload_n 0, 1) := by decide +kernel
theorem dX7_restore_95 : decode cX7_restore 95 = .ok (.getfield 35, 3) := by decide +kernel
theorem dX7_restore_98 : decode cX7_restore 98 = .ok (.iload_n 1, 1) := by decide +kernel
theorem dX7_restore_99 : decode cX7_restore 99 = .ok (.aload_n 0, 1) := by decide +kernel
theorem dX7_restore_100 : decode cX7_restore 100 = .ok (.getfield 47, 3) := by decide +kernel
theorem dX7_restore_103 : decode cX7_restore 103 = .ok (.bipush 40, 2) := by decide +kernel
theorem dX7_restore_105 : decode cX7_restore 105 = .ok (.iload_n 1, 1) := by decide +kernel
theorem dX7_restore_106 : decode cX7_restore 106 = .ok (.iadd, 1) := by decide +kernel
theorem dX7_restore_107 : decode cX7_restore 107 = .ok (.iaload, 1) := by decide +kernel
theorem dX7_restore_108 : decode cX7_restore 108 = .ok (.iastore, 1) := by decide +kernel
theorem dX7_restore_109 : decode cX7_restore 109 = .ok (.iinc 1 1, 3) := by decide +kernel
theorem dX7_restore_112 : decode cX7_restore 112 = .ok (.goto (-96), 3) := by decide +kernel
theorem dX7_restore_115 : decode cX7_restore 115 = .ok (.iconst 0, 1) := by decide +kernel
theorem dX7_restore_116 : decode cX7_restore 116 = .ok (.istore_n 1, 1) := by decide +kernel
theorem dX7_restore_117 : decode cX7_restore 117 = .ok (.iload_n 1, 1) := by decide +kernel
theorem dX7_restore_118 : decode cX7_restore 118 = .ok (.sipush 128, 3) := by decide +kernel
theorem dX7_restore_121 : decode cX7_restore 121 = .ok (.if_icmp .ge 24, 3) := by decide +kernel
theorem dX7_restore_124 : decode cX7_restore 124 = .ok (.aload_n 0, 1) := by decide +kernel
theorem dX7_restore_125 : decode cX7_restore 125 = .ok (.getfield 38, 3) := by decide +kernel
theorem dX7_restore_128 : decode cX7_restore 128 = .ok (.iload_n 1, 1) := by decide +kernel
theorem dX7_restore_129 : decode cX7_restore 129 = .ok (.aload_n 0, 1) := by decide +kernel
theorem dX7_restore_130 : decode cX7_restore 130 = .ok (.getfield 47, 3) := by decide +kernel
theorem dX7_restore_133 : decode cX7_restore 133 = .ok (.bipush 48, 2) := by decide +kernel
theorem dX7_restore_135 : decode cX7_restore 135 = .ok (.iload_n 1, 1) := by decide +kernel
theorem dX7_restore_136 : decode cX7_restore 136 = .ok (.iadd, 1) := by decide +kernel
theorem dX7_restore_137 : decode cX7_restore 137 = .ok (.iaload, 1) := by decide +kernel
theorem dX7_restore_138 : decode cX7_restore 138 = .ok (.iastore, 1) := by decide +kernel
theorem dX7_restore_139 : decode cX7_restore 139 = .ok (.iinc 1 1, 3) := by decide +kernel
theorem dX7_restore_142 : decode cX7_restore 142 = .ok (.goto (-25), 3) := by decide +kernel
theorem dX7_restore_145 : decode cX7_restore 145 = .ok (.aload_n 0, 1) := by decide +kernel
theorem dX7_restore_146 : decode cX7_restore 146 = .ok (.aload_n 0, 1) := by decide +kernel
theorem dX7_restore_147 : decode cX7_restore 147 = .ok (.getfield 47, 3) := by decide +kernel
theorem dX7_restore_150 : decode cX7_restore 150 = .ok (.sipush 176, 3) := by decide +kernel
theorem dX7_restore_153 : decode cX7_restore 153 = .ok (.iaload, 1) := by decide +kernel
theorem dX7_restore_154 : decode cX7_restore 154 = .ok (.putfield 91, 3) := by decide +kernel
theorem dX7_restore_157 : decode cX7_restore 157 = .ok (.aload_n 0, 1) := by decide +kernel
theorem dX7_restore_158 : decode cX7_restore 158 = .ok (.aload_n 0, 1) := by decide +kernel
theorem dX7_restore_159 : decode cX7_restore 159 = .ok (.getfield 47, 3) := by decide +kernel
theorem dX7_restore_162 : decode cX7_restore 162 = .ok (.sipush 177, 3) := by decide +kernel
theorem dX7_restore_165 : decode cX7_restore 165 = .ok (.iaload, 1) := by decide +kernel
theorem dX7_restore_166 : decode cX7_restore 166 = .ok (.putfield 84, 3) := by decide +kernel
theorem dX7_restore_169 : decode cX7_restore 169 = .ok (.aload_n 0, 1) := by decide +kernel
theorem dX7_restore_170 : decode cX7_restore 170 = .ok (.aload_n 0, 1) := by decide +kernel
theorem dX7_restore_171 : decode cX7_restore 171 = .ok (.getfield 47, 3) := by decide +kernel
theorem dX7_restore_174 : decode cX7_restore 174 = .ok (.sipush 178, 3) := by decide +kernel
theorem dX7_restore_177 : decode cX7_restore 177 = .ok (.iaload, 1) := by decide +kernel
theorem dX7_restore_178 : decode cX7_restore 178 = .ok (.putfield 65, 3) := by decide +kernel
theorem dX7_restore_181 : decode cX7_restore 181 = .ok (.aload_n 0, 1) := by decide +kernel
theorem dX7_restore_182 : decode cX7_restore 182 = .ok (.aload_n 0, 1) := by decide +kernel
theorem dX7_restore_183 : decode cX7_restore 183 = .ok (.getfield 47, 3) := by decide +kernel
theorem dX7_restore_186 : decode cX7_restore 186 = .ok (.sipush 179, 3) := by decide +kernel
theorem dX7_restore_189 : decode cX7_restore 189 = .ok (.iaload, 1) := by decide +kernel
theorem dX7_restore_190 : decode cX7_restore 190 = .ok (.putfield 69, 3) := by decide +kernel
theorem dX7_restore_193 : decode cX7_restore 193 = .ok (.aload_n 0, 1) := by decide +kernel
theorem dX7_restore_194 : decode cX7_restore 194 = .ok (.aload_n 0, 1) := by decide +kernel
theorem dX7_restore_195 : decode cX7_restore 195 = .ok (.getfield 47, 3) := by decide +kernel
theorem dX7_restore_198 : decode cX7_restore 198 = .ok (.sipush 180, 3) := by decide +kernel
theorem dX7_restore_201 : decode cX7_restore 201 = .ok (.iaload, 1) := by decide +kernel
theorem dX7_restore_202 : decode cX7_restore 202 = .ok (.putfield 72, 3) := by decide +kernel
theorem dX7_restore_205 : decode cX7_restore 205 = .ok (.aload_n 0, 1) := by decide +kernel
theorem dX7_restore_206 : decode cX7_restore 206 = .ok (.aload_n 0, 1) := by decide +kernel
theorem dX7_restore_207 : decode cX7_restore 207 = .ok (.getfield 47, 3) := by decide +kernel
theorem dX7_restore_210 : decode cX7_restore 210 = .ok (.sipush 181, 3) := by decide +kernel
theorem dX7_restore_213 : decode cX7_restore 213 = .ok (.iaload, 1) := by decide +kernel
theorem dX7_restore_214 : decode cX7_restore 214 = .ok (.putfield 75, 3) := by decide +kernel
theorem dX7_restore_217 : decode cX7_restore 217 = .ok (.aload_n 0, 1) := by decide +kernel
theorem dX7_restore_218 : decode cX7_restore 218 = .ok (.aload_n 0, 1) := by decide +kernel
theorem dX7_restore_219 : decode cX7_restore 219 = .ok (.getfield 47, 3) := by decide +kernel
theorem dX7_restore_222 : decode cX7_restore 222 = .ok (.sipush 182, 3) := by decide +kernel
theorem dX7_restore_225 : decode cX7_restore 225 = .ok (.iaload, 1) := by decide +kernel
theorem dX7_restore_226 : decode cX7_restore 226 = .ok (.putfield 215, 3) := by decide +kernel
theorem dX7_restore_229 : decode cX7_restore 229 = .ok (.aload_n 0, 1) := by decide +kernel
theorem dX7_restore_230 : decode cX7_restore 230 = .ok (.aload_n 0, 1) := by decide +kernel
theorem dX7_restore_231 : decode cX7_restore 231 = .ok (.getfield 47, 3) := by decide +kernel
theorem dX7_restore_234 : decode cX7_restore 234 = .ok (.sipush 183, 3) := by decide +kernel
theorem dX7_restore_237 : decode cX7_restore 237 = .ok (.iaload, 1) := by decide +kernel
theorem dX7_restore_238 : decode cX7_restore 238 = .ok (.putfield 78, 3) := by decide +kernel
theorem dX7_restore_241 : decode cX7_restore 241 = .ok (.iconst 0, 1) := by decide +kernel
theorem dX7_restore_242 : decode cX7_restore 242 = .ok (.istore_n 1, 1) := by decide +kernel
theorem dX7_restore_243 : decode cX7_restore 243 = .ok (.iload_n 1, 1) := by decide +kernel
theorem dX7_restore_244 : decode cX7_restore 244 = .ok (.bipush 8, 2) := by decide +kernel
theorem dX7_restore_246 : decode cX7_restore 246 = .ok (.if_icmp .ge 37, 3) := by decide +kernel
theorem dX7_restore_249 : decode cX7_restore 249 = .ok (.aload_n 0, 1) := by decide +kernel
theorem dX7_restore_250 : decode cX7_restore 250 = .ok (.iload_n 1, 1) := by decide +kernel
theorem dX7_restore_251 : decode cX7_restore 251 = .ok (.invokevirtual 98, 3) := by decide +kernel
theorem dX7_restore_254 : decode cX7_restore 254 = .ok (.ifCond .ne 23, 3) := by decide +kernel
theorem dX7_restore_257 : decode cX7_restore 257 = .ok (.aload_n 0, 1) := by decide +kernel
theorem dX7_restore_258 : decode cX7_restore 258 = .ok (.getfield 7, 3) := by decide +kernel
theorem dX7_restore_261 : decode cX7_restore 261 = .ok (.iload_n 1, 1) := by decide +kernel
theorem dX7_restore_262 : decode cX7_restore 262 = .ok (.iaload, 1) := by decide +kernel
theorem dX7_restore_263 : decode cX7_restore 263 = .ok (.aload_n 0, 1) := by decide +kernel
theorem dX7_restore_264 : decode cX7_restore 264 = .ok (.getfield 84, 3) := by decide +kernel
theorem dX7_restore_267 : decode cX7_restore 267 = .ok (.if_icmp .lt 10, 3) := by decide +kernel
theorem dX7_restore_270 : decode cX7_restore 270 = .ok (.aload_n 0, 1) := by decide +kernel
theorem dX7_restore_271 : decode cX7_restore 271 = .ok (.getfield 7, 3) := by decide +kernel
theorem dX7_restore_274 : decode cX7_restore 274 = .ok (.iload_n 1, 1) := by decide +kernel
theorem dX7_restore_275 : decode cX7_restore 275 = .ok (.iconst (-1), 1) := by decide +kernel
theorem dX7_restore_276 : decode cX7_restore 276 = .ok (.iastore, 1) := by decide +kernel
theorem dX7_restore_277 : decode cX7_restore 277 = .ok (.iinc 1 1, 3) := by decide +kernel
theorem dX7_restore_280 : decode cX7_restore 280 = .ok (.goto (-37), 3) := by decide +kernel
theorem dX7_restore_283 : decode cX7_restore 283 = .ok (.aload_n 0, 1) := by decide +kernel
theorem dX7_restore_284 : decode cX7_restore 284 = .ok (.getfield 84, 3) := by decide +kernel
theorem dX7_restore_287 : decode cX7_restore 287 = .ok (.ireturn, 1) := by decide +kernel
theorem dX7_status_0 : decode cX7_status 0 = .ok (.iload_n 1, 1) := by decide +kernel
theorem dX7_status_1 : decode cX7_status 1 = .ok (.tableswitch 96 0 8 #[51, 56, 61, 66, 71, 76, 81, 86, 91], 51) := by decide +kernel
theorem dX7_status_52 : decode cX7_status 52 = .ok (.aload_n 0, 1) := by decide +kernel
theorem dX7_status_53 : decode cX7_status 53 = .ok (.getfield 91, 3) := by decide +kernel
theorem dX7_status_56 : decode cX7_status 56 = .ok (.ireturn, 1) := by decide +kernel
theorem dX7_status_57 : decode cX7_status 57 = .ok (.aload_n 0, 1) := by decide +kernel
theorem dX7_status_58 : decode cX7_status 58 = .ok (.getfield 84, 3) := by decide +kernel
theorem dX7_status_61 : decode cX7_status 61 = .ok (.ireturn, 1) := by decide +kernel
theorem dX7_status_62 : decode cX7_status 62 = .ok (.aload_n 0, 1) := by decide +kernel
theorem dX7_status_63 : decode cX7_status 63 = .ok (.getfield 65, 3) := by decide +kernel
theorem dX7_status_66 : decode cX7_status 66 = .ok (.ireturn, 1) := by decide +kernel
theorem dX7_status_67 : decode cX7_status 67 = .ok (.aload_n 0, 1) := by decide +kernel
theorem dX7_status_68 : decode cX7_status 68 = .ok (.getfield 69, 3) := by decide +kernel
theorem dX7_status_71 : decode cX7_status 71 = .ok (.ireturn, 1) := by decide +kernel
theorem dX7_status_72 : decode cX7_status 72 = .ok (.aload_n 0, 1) := by decide +kernel
theorem dX7_status_73 : decode cX7_status 73 = .ok (.getfield 72, 3) := by decide +kernel
theorem dX7_status_76 : decode cX7_status 76 = .ok (.ireturn, 1) := by decide +kernel
theorem dX7_status_77 : decode cX7_status 77 = .ok (.aload_n 0, 1) := by decide +kernel
theorem dX7_status_78 : decode cX7_status 78 = .ok (.getfield 75, 3) := by decide +kernel
theorem dX7_status_81 : decode cX7_status 81 = .ok (.ireturn, 1) := by decide +kernel
theorem dX7_status_82 : decode cX7_status 82 = .ok (.aload_n 0, 1) := by decide +kernel
theorem dX7_status_83 : decode cX7_status 83 = .ok (.getfield 215, 3) := by decide +kernel
theorem dX7_status_86 : decode cX7_status 86 = .ok (.ireturn, 1) := by decide +kernel
theorem dX7_status_87 : decode cX7_status 87 = .ok (.aload_n 0, 1) := by decide +kernel
theorem dX7_status_88 : decode cX7_status 88 = .ok (.getfield 78, 3) := by decide +kernel
theorem dX7_status_91 : decode cX7_status 91 = .ok (.ireturn, 1) := by decide +kernel
theorem dX7_status_92 : decode cX7_status 92 = .ok (.aload_n 0, 1) := by decide +kernel
theorem dX7_status_93 : decode cX7_status 93 = .ok (.getfield 232, 3) := by decide +kernel
theorem dX7_status_96 : decode cX7_status 96 = .ok (.ireturn, 1) := by decide +kernel
theorem dX7_status_97 : decode cX7_status 97 = .ok (.iload_n 1, 1) := by decide +kernel
theorem dX7_status_98 : decode cX7_status 98 = .ok (.bipush 11, 2) := by decide +kernel
theorem dX7_status_100 : decode cX7_status 100 = .ok (.bipush 17, 2) := by decide +kernel
theorem dX7_status_102 : decode cX7_status 102 = .ok (.invokestatic 87, 3) := by decide +kernel
theorem dX7_status_105 : decode cX7_status 105 = .ok (.ifCond .eq 15, 3) := by decide +kernel
theorem dX7_status_108 : decode cX7_status 108 = .ok (.aload_n 0, 1) := by decide +kernel
theorem dX7_status_109 : decode cX7_status 109 = .ok (.getfield 41, 3) := by decide +kernel
theorem dX7_status_112 : decode cX7_status 112 = .ok (.iload_n 1, 1) := by decide +kernel
theorem dX7_status_113 : decode cX7_status 113 = .ok (.bipush 10, 2) := by decide +kernel
theorem dX7_status_115 : decode cX7_status 115 = .ok (.isub, 1) := by decide +kernel
theorem dX7_status_116 : decode cX7_status 116 = .ok (.iaload, 1) := by decide +kernel
theorem dX7_status_117 : decode cX7_status 117 = .ok (.goto 4, 3) := by decide +kernel
theorem dX7_status_120 : decode cX7_status 120 = .ok (.iconst (-1), 1) := by decide +kernel
theorem dX7_status_121 : decode cX7_status 121 = .ok (.ireturn, 1) := by decide +kernel
theorem dJ6_bitCount_0f7a4_0 : decode cJ6_bitCount_0f7a4 0 = .ok (.iload_n 0, 1) := by decide +kernel
theorem dJ6_bitCount_0f7a4_1 : decode cJ6_bitCount_0f7a4 1 = .ok (.iload_n 0, 1) := by decide +kernel
theorem dJ6_bitCount_0f7a4_2 : decode cJ6_bitCount_0f7a4 2 = .ok (.iconst 1, 1) := by decide +kernel
theorem dJ6_bitCount_0f7a4_3 : decode cJ6_bitCount_0f7a4 3 = .ok (.iushr, 1) := by decide +kernel
theorem dJ6_bitCount_0f7a4_4 : decode cJ6_bitCount_0f7a4 4 = .ok (.ldc_w 265, 3) := by decide +kernel
theorem dJ6_bitCount_0f7a4_7 : decode cJ6_bitCount_0f7a4 7 = .ok (.iand, 1) := by decide +kernel
theorem dJ6_bitCount_0f7a4_8 : decode cJ6_bitCount_0f7a4 8 = .ok (.isub, 1) := by decide +kernel
theorem dJ6_bitCount_0f7a4_9 : decode cJ6_bitCount_0f7a4 9 = .ok (.istore_n 0, 1) := by decide +kernel
theorem dJ6_bitCount_0f7a4_10 : decode cJ6_bitCount_0f7a4 10 = .ok (.iload_n 0, 1) := by decide +kernel
theorem dJ6_bitCount_0f7a4_11 : decode cJ6_bitCount_0f7a4 11 = .ok (.ldc_w 266, 3) := by decide +kernel
theorem dJ6_bitCount_0f7a4_14 : decode cJ6_bitCount_0f7a4 14 = .ok (.iand, 1) := by decide +kernel
theorem dJ6_bitCount_0f7a4_15 : decode cJ6_bitCount_0f7a4 15 = .ok (.iload_n 0, 1) := by decide +kernel
theorem dJ6_bitCount_0f7a4_16 : decode cJ6_bitCount_0f7a4 16 = .ok (.iconst 2, 1) := by decide +kernel
theorem dJ6_bitCount_0f7a4_17 : decode cJ6_bitCount_0f7a4 17 = .ok (.iushr, 1) := by decide +kernel
theorem dJ6_bitCount_0f7a4_18 : decode cJ6_bitCount_0f7a4 18 = .ok (.ldc_w 266, 3) := by decide +kernel
theorem dJ6_bitCount_0f7a4_21 : decode cJ6_bitCount_0f7a4 21 = .ok (.iand, 1) := by decide +kernel
theorem dJ6_bitCount_0f7a4_22 : decode cJ6_bitCount_0f7a4 22 = .ok (.iadd, 1) := by decide +kernel
theorem dJ6_bitCount_0f7a4_23 : decode cJ6_bitCount_0f7a4 23 = .ok (.istore_n 0, 1) := by decide +kernel
theorem dJ6_bitCount_0f7a4_24 : decode cJ6_bitCount_0f7a4 24 = .ok (.iload_n 0, 1) := by decide +kernel
theorem dJ6_bitCount_0f7a4_25 : decode cJ6_bitCount_0f7a4 25 = .ok (.iload_n 0, 1) := by decide +kernel
theorem dJ6_bitCount_0f7a4_26 : decode cJ6_bitCount_0f7a4 26 = .ok (.iconst 4, 1) := by decide +kernel
theorem dJ6_bitCount_0f7a4_27 : decode cJ6_bitCount_0f7a4 27 = .ok (.iushr, 1) := by decide +kernel
theorem dJ6_bitCount_0f7a4_28 : decode cJ6_bitCount_0f7a4 28 = .ok (.iadd, 1) := by decide +kernel
theorem dJ6_bitCount_0f7a4_29 : decode cJ6_bitCount_0f7a4 29 = .ok (.ldc_w 267, 3) := by decide +kernel
theorem dJ6_bitCount_0f7a4_32 : decode cJ6_bitCount_0f7a4 32 = .ok (.iand, 1) := by decide +kernel
theorem dJ6_bitCount_0f7a4_33 : decode cJ6_bitCount_0f7a4 33 = .ok (.istore_n 0, 1) := by decide +kernel
theorem dJ6_bitCount_0f7a4_34 : decode cJ6_bitCount_0f7a4 34 = .ok (.iload_n 0, 1) := by decide +kernel
theorem dJ6_bitCount_0f7a4_35 : decode cJ6_bitCount_0f7a4 35 = .ok (.iload_n 0, 1) := by decide +kernel
theorem dJ6_bitCount_0f7a4_36 : decode cJ6_bitCount_0f7a4 36 = .ok (.bipush 8, 2) := by decide +kernel
theorem dJ6_bitCount_0f7a4_38 : decode cJ6_bitCount_0f7a4 38 = .ok (.iushr, 1) := by decide +kernel
theorem dJ6_bitCount_0f7a4_39 : decode cJ6_bitCount_0f7a4 39 = .ok (.iadd, 1) := by decide +kernel
theorem dJ6_bitCount_0f7a4_40 : decode cJ6_bitCount_0f7a4 40 = .ok (.istore_n 0, 1) := by decide +kernel
theorem dJ6_bitCount_0f7a4_41 : decode cJ6_bitCount_0f7a4 41 = .ok (.iload_n 0, 1) := by decide +kernel
theorem dJ6_bitCount_0f7a4_42 : decode cJ6_bitCount_0f7a4 42 = .ok (.iload_n 0, 1) := by decide +kernel
theorem dJ6_bitCount_0f7a4_43 : decode cJ6_bitCount_0f7a4 43 = .ok (.bipush 16, 2) := by decide +kernel
theorem dJ6_bitCount_0f7a4_45 : decode cJ6_bitCount_0f7a4 45 = .ok (.iushr, 1) := by decide +kernel
theorem dJ6_bitCount_0f7a4_46 : decode cJ6_bitCount_0f7a4 46 = .ok (.iadd, 1) := by decide +kernel
theorem dJ6_bitCount_0f7a4_47 : decode cJ6_bitCount_0f7a4 47 = .ok (.istore_n 0, 1) := by decide +kernel
theorem dJ6_bitCount_0f7a4_48 : decode cJ6_bitCount_0f7a4 48 = .ok (.iload_n 0, 1) := by decide +kernel
theorem dJ6_bitCount_0f7a4_49 : decode cJ6_bitCount_0f7a4 49 = .ok (.bipush 63, 2) := by decide +kernel
theorem dJ6_bitCount_0f7a4_51 : decode cJ6_bitCount_0f7a4 51 = .ok (.iand, 1) := by decide +kernel
theorem dJ6_bitCount_0f7a4_52 : decode cJ6_bitCount_0f7a4 52 = .ok (.ireturn, 1) := by decide +kernel
theorem dJ9_abs_0f7a4_0 : decode cJ9_abs_0f7a4 0 = .ok (.iload_n 0, 1) := by decide +kernel
theorem dJ9_abs_0f7a4_1 : decode cJ9_abs_0f7a4 1 = .ok (.ifCond .ge 8, 3) := by decide +kernel
theorem dJ9_abs_0f7a4_4 : decode cJ9_abs_0f7a4 4 = .ok (.iload_n 0, 1) := by decide +kernel
theorem dJ9_abs_0f7a4_5 : decode cJ9_abs_0f7a4 5 = .ok (.ineg, 1) := by decide +kernel
theorem dJ9_abs_0f7a4_6 : decode cJ9_abs_0f7a4 6 = .ok (.goto 4, 3) := by decide +kernel
theorem dJ9_abs_0f7a4_9 : decode cJ9_abs_0f7a4 9 = .ok (.iload_n 0, 1) := by decide +kernel
theorem dJ9_abs_0f7a4_10 : decode cJ9_abs_0f7a4 10 = .ok (.ireturn, 1) := by decide +kernel
theorem dJ9_max_7cf53_0 : decode cJ9_max_7cf53 0 = .ok (.iload_n 0, 1) := by decide +kernel
theorem dJ9_max_7cf53_1 : decode cJ9_max_7cf53 1 = .ok (.iload_n 1, 1) := by decide +kernel
theorem dJ9_max_7cf53_2 : decode cJ9_max_7cf53 2 = .ok (.if_icmp .lt 7, 3) := by decide +kernel
theorem dJ9_max_7cf53_5 : decode cJ9_max_7cf53 5 = .ok (.iload_n 0, 1) := by decide +kernel
theorem dJ9_max_7cf53_6 : decode cJ9_max_7cf53 6 = .ok (.goto 4, 3) := by decide +kernel
theorem dJ9_max_7cf53_9 : decode cJ9_max_7cf53 9 = .ok (.iload_n 1, 1) := by decide +kernel
theorem dJ9_max_7cf53_10 : decode cJ9_max_7cf53 10 = .ok (.ireturn, 1) := by decide +kernel
theorem dJ9_min_7cf53_0 : decode cJ9_min_7cf53 0 = .ok (.iload_n 0, 1) := by decide +kernel
theorem dJ9_min_7cf53_1 : decode cJ9_min_7cf53 1 = .ok (.iload_n 1, 1) := by decide +kernel
theorem dJ9_min_7cf53_2 : decode cJ9_min_7cf53 2 = .ok (.if_icmp .gt 7, 3) := by decide +kernel
theorem dJ9_min_7cf53_5 : decode cJ9_min_7cf53 5 = .ok (.iload_n 0, 1) := by decide +kernel
theorem dJ9_min_7cf53_6 : decode cJ9_min_7cf53 6 = .ok (.goto 4, 3) := by decide +kernel
theorem dJ9_min_7cf53_9 : decode cJ9_min_7cf53 9 = .ok (.iload_n 1, 1) := by decide +kernel
theorem dJ9_min_7cf53_10 : decode cJ9_min_7cf53 10 = .ok (.ireturn, 1) := by decide +kernel
theorem dJ0_length_8abf5_0 : decode cJ0_length_8abf5 0 = .ok (.aload_n 0, 1) := by decide +kernel
theorem dJ0_length_8abf5_1 : decode cJ0_length_8abf5 1 = .ok (.getfield 9, 3) := by decide +kernel
theorem dJ0_length_8abf5_4 : decode cJ0_length_8abf5 4 = .ok (.arraylength, 1) := by decide +kernel
theorem dJ0_length_8abf5_5 : decode cJ0_length_8abf5 5 = .ok (.aload_n 0, 1) := by decide +kernel
theorem dJ0_length_8abf5_6 : decode cJ0_length_8abf5 6 = .ok (.invokevirtual 335, 3) := by decide +kernel
theorem dJ0_length_8abf5_9 : decode cJ0_length_8abf5 9 = .ok (.ishr, 1) := by decide +kernel
theorem dJ0_length_8abf5_10 : decode cJ0_length_8abf5 10 = .ok (.ireturn, 1) := by decide +kernel
theorem dJ0_charAt_5068e_0 : decode cJ0_charAt_5068e 0 = .ok (.aload_n 0, 1) := by decide +kernel
theorem dJ0_charAt_5068e_1 : decode cJ0_charAt_5068e 1 = .ok (.invokevirtual 492, 3) := by decide +kernel
theorem dJ0_charAt_5068e_4 : decode cJ0_charAt_5068e 4 = .ok (.ifCond .eq 12, 3) := by decide +kernel
theorem dJ0_charAt_5068e_7 : decode cJ0_charAt_5068e 7 = .ok (.aload_n 0, 1) := by decide +kernel
theorem dJ0_charAt_5068e_8 : decode cJ0_charAt_5068e 8 = .ok (.getfield 9, 3) := by decide +kernel
theorem dJ0_charAt_5068e_11 : decode cJ0_charAt_5068e 11 = .ok (.iload_n 1, 1) := by decide +kernel
theorem dJ0_charAt_5068e_12 : decode cJ0_charAt_5068e 12 = .ok (.invokestatic 495, 3) := by decide +kernel
theorem dJ0_charAt_5068e_15 : decode cJ0_charAt_5068e 15 = .ok (.ireturn, 1) := by decide +kernel
theorem dJ0_charAt_5068e_16 : decode cJ0_charAt_5068e 16 = .ok (.aload_n 0, 1) := by decide +kernel
theorem dJ0_charAt_5068e_17 : decode cJ0_charAt_5068e 17 = .ok (.getfield 9, 3) := by decide +kernel
theorem dJ0_charAt_5068e_20 : decode cJ0_charAt_5068e 20 = .ok (.iload_n 1, 1) := by decide +kernel
theorem dJ0_charAt_5068e_21 : decode cJ0_charAt_5068e 21 = .ok (.invokestatic 498, 3) := by decide +kernel
theorem dJ0_charAt_5068e_24 : decode cJ0_charAt_5068e 24 = .ok (.ireturn, 1) := by decide +kernel
theorem dJ0_coder_7d493_0 : decode cJ0_coder_7d493 0 = .ok (.getstatic 38, 3) := by decide +kernel
theorem dJ0_coder_7d493_3 : decode cJ0_coder_7d493 3 = .ok (.ifCond .eq 10, 3) := by decide +kernel
theorem dJ0_coder_7d493_6 : decode cJ0_coder_7d493 6 = .ok (.aload_n 0, 1) := by decide +kernel
theorem dJ0_coder_7d493_7 : decode cJ0_coder_7d493 7 = .ok (.getfield 15, 3) := by decide +kernel
theorem dJ0_coder_7d493_10 : decode cJ0_coder_7d493 10 = .ok (.goto 4, 3) := by decide +kernel
theorem dJ0_coder_7d493_13 : decode cJ0_coder_7d493 13 = .ok (.iconst 1, 1) := by decide +kernel
theorem dJ0_coder_7d493_14 : decode cJ0_coder_7d493 14 = .ok (.ireturn, 1) := by decide +kernel
theorem dJ0_isLatin1_aae02_0 : decode cJ0_isLatin1_aae02 0 = .ok (.getstatic 38, 3) := by decide +kernel
theorem dJ0_isLatin1_aae02_3 : decode cJ0_isLatin1_aae02 3 = .ok (.ifCond .eq 14, 3) := by decide +kernel
theorem dJ0_isLatin1_aae02_6 : decode cJ0_isLatin1_aae02 6 = .ok (.aload_n 0, 1) := by decide +kernel
theorem dJ0_isLatin1_aae02_7 : decode cJ0_isLatin1_aae02 7 = .ok (.getfield 15, 3) := by decide +kernel
theorem dJ0_isLatin1_aae02_10 : decode cJ0_isLatin1_aae02 10 = .ok (.ifCond .ne 7, 3) := by decide +kernel
theorem dJ0_isLatin1_aae02_13 : decode cJ0_isLatin1_aae02 13 = .ok (.iconst 1, 1) := by decide +kernel
theorem dJ0_isLatin1_aae02_14 : decode cJ0_isLatin1_aae02 14 = .ok (.goto 4, 3) := by decide +kernel
theorem dJ0_isLatin1_aae02_17 : decode cJ0_isLatin1_aae02 17 = .ok (.iconst 0, 1) := by decide +kernel
theorem dJ0_isLatin1_aae02_18 : decode cJ0_isLatin1_aae02 18 = .ok (.ireturn, 1) := by decide +kernel
theorem dJ0_checkIndex_df160_0 : decode cJ0_checkIndex_df160 0 = .ok (.iload_n 0, 1) := by decide +kernel
theorem dJ0_checkIndex_df160_1 : decode cJ0_checkIndex_df160 1 = .ok (.iload_n 1, 1) := by decide +kernel
theorem dJ0_checkIndex_df160_2 : decode cJ0_checkIndex_df160 2 = .ok (.getstatic 1053, 3) := by decide +kernel
theorem dJ0_checkIndex_df160_5 : decode cJ0_checkIndex_df160 5 = .ok (.invokestatic 1059, 3) := by decide +kernel
theorem dJ0_checkIndex_df160_8 : decode cJ0_checkIndex_df160 8 = .ok (.pop, 1) := by decide +kernel
theorem dJ0_checkIndex_df160_9 : decode cJ0_checkIndex_df160 9 = .ok (.return_, 1) := by decide +kernel
theorem dJ1_charAt_3b067_0 : decode cJ1_charAt_3b067 0 = .ok (.iload_n 1, 1) := by decide +kernel
theorem dJ1_charAt_3b067_1 : decode cJ1_charAt_3b067 1 = .ok (.aload_n 0, 1) := by decide +kernel
theorem dJ1_charAt_3b067_2 : decode cJ1_charAt_3b067 2 = .ok (.arraylength, 1) := by decide +kernel
theorem dJ1_charAt_3b067_3 : decode cJ1_charAt_3b067 3 = .ok (.invokestatic 9, 3) := by decide +kernel
theorem dJ1_charAt_3b067_6 : decode cJ1_charAt_3b067 6 = .ok (.aload_n 0, 1) := by decide +kernel
theorem dJ1_charAt_3b067_7 : decode cJ1_charAt_3b067 7 = .ok (.iload_n 1, 1) := by decide +kernel
theorem dJ1_charAt_3b067_8 : decode cJ1_charAt_3b067 8 = .ok (.baload, 1) := by decide +kernel
theorem dJ1_charAt_3b067_9 : decode cJ1_charAt_3b067 9 = .ok (.sipush 255, 3) := by decide +kernel
theorem dJ1_charAt_3b067_12 : decode cJ1_charAt_3b067 12 = .ok (.iand, 1) := by decide +kernel
theorem dJ1_charAt_3b067_13 : decode cJ1_charAt_3b067 13 = .ok (.i2c, 1) := by decide +kernel
theorem dJ1_charAt_3b067_14 : decode cJ1_charAt_3b067 14 = .ok (.ireturn, 1) := by decide +kernel
theorem dJ2_getChar_3b067_0 : decode cJ2_getChar_3b067 0 = .ok (.getstatic 44, 3) := by decide +kernel
theorem dJ2_getChar_3b067_3 : decode cJ2_getChar_3b067 3 = .ok (.ifCond .ne 25, 3) := by decide +kernel
theorem dJ2_getChar_3b067_6 : decode cJ2_getChar_3b067 6 = .ok (.iload_n 1, 1) := by decide +kernel
theorem dJ2_getChar_3b067_7 : decode cJ2_getChar_3b067 7 = .ok (.ifCond .lt 11, 3) := by decide +kernel
theorem dJ2_getChar_3b067_10 : decode cJ2_getChar_3b067 10 = .ok (.iload_n 1, 1) := by decide +kernel
theorem dJ2_getChar_3b067_11 : decode cJ2_getChar_3b067 11 = .ok (.aload_n 0, 1) := by decide +kernel
theorem dJ2_getChar_3b067_12 : decode cJ2_getChar_3b067 12 = .ok (.invokestatic 48, 3) := by decide +kernel
theorem dJ2_getChar_3b067_15 : decode cJ2_getChar_3b067 15 = .ok (.if_icmp .lt 13, 3) := by decide +kernel
theorem dJ2_getChar_3b067_18 : decode cJ2_getChar_3b067 18 = .ok (.new 52, 3) := by decide +kernel
theorem dJ2_getChar_3b067_21 : decode cJ2_getChar_3b067 21 = .ok (.dup, 1) := by decide +kernel
theorem dJ2_getChar_3b067_22 : decode cJ2_getChar_3b067 22 = .ok (.ldc 54, 2) := by decide +kernel
theorem dJ2_getChar_3b067_24 : decode cJ2_getChar_3b067 24 = .ok (.invokespecial 56, 3) := by decide +kernel
theorem dJ2_getChar_3b067_27 : decode cJ2_getChar_3b067 27 = .ok (.athrow, 1) := by decide +kernel
theorem dJ2_getChar_3b067_28 : decode cJ2_getChar_3b067 28 = .ok (.iload_n 1, 1) := by decide +kernel
theorem dJ2_getChar_3b067_29 : decode cJ2_getChar_3b067 29 = .ok (.iconst 1, 1) := by decide +kernel
theorem dJ2_getChar_3b067_30 : decode cJ2_getChar_3b067 30 = .ok (.ishl, 1) := by decide +kernel
theorem dJ2_getChar_3b067_31 : decode cJ2_getChar_3b067 31 = .ok (.istore_n 1, 1) := by decide +kernel
theorem dJ2_getChar_3b067_32 : decode cJ2_getChar_3b067 32 = .ok (.aload_n 0, 1) := by decide +kernel
theorem dJ2_getChar_3b067_33 : decode cJ2_getChar_3b067 33 = .ok (.iload_n 1, 1) := by decide +kernel
theorem dJ2_getChar_3b067_34 : decode cJ2_getChar_3b067 34 = .ok (.iinc 1 1, 3) := by decide +kernel
theorem dJ2_getChar_3b067_37 : decode cJ2_getChar_3b067 37 = .ok (.baload, 1) := by decide +kernel
theorem dJ2_getChar_3b067_38 : decode cJ2_getChar_3b067 38 = .ok (.sipush 255, 3) := by decide +kernel
theorem dJ2_getChar_3b067_41 : decode cJ2_getChar_3b067 41 = .ok (.iand, 1) := by decide +kernel
theorem dJ2_getChar_3b067_42 : decode cJ2_getChar_3b067 42 = .ok (.getstatic 59, 3) := by decide +kernel
theorem dJ2_getChar_3b067_45 : decode cJ2_getChar_3b067 45 = .ok (.ishl, 1) := by decide +kernel
theorem dJ2_getChar_3b067_46 : decode cJ2_getChar_3b067 46 = .ok (.aload_n 0, 1) := by decide +kernel
theorem dJ2_getChar_3b067_47 : decode cJ2_getChar_3b067 47 = .ok (.iload_n 1, 1) := by decide +kernel
theorem dJ2_getChar_3b067_48 : decode cJ2_getChar_3b067 48 = .ok (.baload, 1) := by decide +kernel
theorem dJ2_getChar_3b067_49 : decode cJ2_getChar_3b067 49 = .ok (.sipush 255, 3) := by decide +kernel
theorem dJ2_getChar_3b067_52 : decode cJ2_getChar_3b067 52 = .ok (.iand, 1) := by decide +kernel
theorem dJ2_getChar_3b067_53 : decode cJ2_getChar_3b067 53 = .ok (.getstatic 63, 3) := by decide +kernel
theorem dJ2_getChar_3b067_56 : decode cJ2_getChar_3b067 56 = .ok (.ishl, 1) := by decide +kernel
theorem dJ2_getChar_3b067_57 : decode cJ2_getChar_3b067 57 = .ok (.ior, 1) := by decide +kernel
theorem dJ2_getChar_3b067_58 : decode cJ2_getChar_3b067 58 = .ok (.i2c, 1) := by decide +kernel
theorem dJ2_getChar_3b067_59 : decode cJ2_getChar_3b067 59 = .ok (.ireturn, 1) := by decide +kernel
theorem dJ2_length_9d52b_0 : decode cJ2_length_9d52b 0 = .ok (.aload_n 0, 1) := by decide +kernel
theorem dJ2_length_9d52b_1 : decode cJ2_length_9d52b 1 = .ok (.arraylength, 1) := by decide +kernel
theorem dJ2_length_9d52b_2 : decode cJ2_length_9d52b 2 = .ok (.iconst 1, 1) := by decide +kernel
theorem dJ2_length_9d52b_3 : decode cJ2_length_9d52b 3 = .ok (.ishr, 1) := by decide +kernel
theorem dJ2_length_9d52b_4 : decode cJ2_length_9d52b 4 = .ok (.ireturn, 1) := by decide +kernel
theorem dJ2_charAt_3b067_0 : decode cJ2_charAt_3b067 0 = .ok (.iload_n 1, 1) := by decide +kernel
theorem dJ2_charAt_3b067_1 : decode cJ2_charAt_3b067 1 = .ok (.aload_n 0, 1) := by decide +kernel
theorem dJ2_charAt_3b067_2 : decode cJ2_charAt_3b067 2 = .ok (.invokestatic 67, 3) := by decide +kernel
theorem dJ2_charAt_3b067_5 : decode cJ2_charAt_3b067 5 = .ok (.aload_n 0, 1) := by decide +kernel
theorem dJ2_charAt_3b067_6 : decode cJ2_charAt_3b067 6 = .ok (.iload_n 1, 1) := by decide +kernel
theorem dJ2_charAt_3b067_7 : decode cJ2_charAt_3b067 7 = .ok (.invokestatic 71, 3) := by decide +kernel
theorem dJ2_charAt_3b067_10 : decode cJ2_charAt_3b067 10 = .ok (.ireturn, 1) := by decide +kernel
theorem dJ2_checkIndex_2214a_0 : decode cJ2_checkIndex_2214a 0 = .ok (.iload_n 0, 1) := by decide +kernel
theorem dJ2_checkIndex_2214a_1 : decode cJ2_checkIndex_2214a 1 = .ok (.aload_n 1, 1) := by decide +kernel
theorem dJ2_checkIndex_2214a_2 : decode cJ2_checkIndex_2214a 2 = .ok (.invokestatic 48, 3) := by decide +kernel
theorem dJ2_checkIndex_2214a_5 : decode cJ2_checkIndex_2214a 5 = .ok (.invokestatic 414, 3) := by decide +kernel
theorem dJ2_checkIndex_2214a_8 : decode cJ2_checkIndex_2214a 8 = .ok (.return_, 1) := by decide +kernel
theorem dJ3_checkIndex_8e157_0 : decode cJ3_checkIndex_8e157 0 = .ok (.iload_n 0, 1) := by decide +kernel
theorem dJ3_checkIndex_8e157_1 : decode cJ3_checkIndex_8e157 1 = .ok (.ifCond .lt 8, 3) := by decide +kernel
theorem dJ3_checkIndex_8e157_4 : decode cJ3_checkIndex_8e157 4 = .ok (.iload_n 0, 1) := by decide +kernel
theorem dJ3_checkIndex_8e157_5 : decode cJ3_checkIndex_8e157 5 = .ok (.iload_n 1, 1) := by decide +kernel
theorem dJ3_checkIndex_8e157_6 : decode cJ3_checkIndex_8e157 6 = .ok (.if_icmp .lt 10, 3) := by decide +kernel
theorem dJ3_checkIndex_8e157_9 : decode cJ3_checkIndex_8e157 9 = .ok (.aload_n 2, 1) := by decide +kernel
theorem dJ3_checkIndex_8e157_10 : decode cJ3_checkIndex_8e157 10 = .ok (.iload_n 0, 1) := by decide +kernel
theorem dJ3_checkIndex_8e157_11 : decode cJ3_checkIndex_8e157 11 = .ok (.iload_n 1, 1) := by decide +kernel
theorem dJ3_checkIndex_8e157_12 : decode cJ3_checkIndex_8e157 12 = .ok (.invokestatic 95, 3) := by decide +kernel
theorem dJ3_checkIndex_8e157_15 : decode cJ3_checkIndex_8e157 15 = .ok (.athrow, 1) := by decide +kernel
theorem dJ3_checkIndex_8e157_16 : decode cJ3_checkIndex_8e157 16 = .ok (.iload_n 0, 1) := by decide +kernel
theorem dJ3_checkIndex_8e157_17 : decode cJ3_checkIndex_8e157 17 = .ok (.ireturn, 1) := by decide +kernel
theorem dL_law_0 : decode cL_law 0 = .ok (.new 7, 3) := by decide +kernel
theorem dL_law_3 : decode cL_law 3 = .ok (.dup, 1) := by decide +kernel
theorem dL_law_4 : decode cL_law 4 = .ok (.invokespecial 9, 3) := by decide +kernel
theorem dL_law_7 : decode cL_law 7 = .ok (.astore_n 1, 1) := by decide +kernel
theorem dL_law_8 : decode cL_law 8 = .ok (.new 10, 3) := by decide +kernel
theorem dL_law_11 : decode cL_law 11 = .ok (.dup, 1) := by decide +kernel
theorem dL_law_12 : decode cL_law 12 = .ok (.invokespecial 12, 3) := by decide +kernel
theorem dL_law_15 : decode cL_law 15 = .ok (.astore_n 2, 1) := by decide +kernel
theorem dL_law_16 : decode cL_law 16 = .ok (.iconst 0, 1) := by decide +kernel
theorem dL_law_17 : decode cL_law 17 = .ok (.istore_n 3, 1) := by decide +kernel
theorem dL_law_18 : decode cL_law 18 = .ok (.iload_n 3, 1) := by decide +kernel
theorem dL_law_19 : decode cL_law 19 = .ok (.aload_n 0, 1) := by decide +kernel
theorem dL_law_20 : decode cL_law 20 = .ok (.arraylength, 1) := by decide +kernel
theorem dL_law_21 : decode cL_law 21 = .ok (.bipush 6, 2) := by decide +kernel
theorem dL_law_23 : decode cL_law 23 = .ok (.isub, 1) := by decide +kernel
theorem dL_law_24 : decode cL_law 24 = .ok (.if_icmp .gt 1717, 3) := by decide +kernel
theorem dL_law_27 : decode cL_law 27 = .ok (.aload_n 0, 1) := by decide +kernel
theorem dL_law_28 : decode cL_law 28 = .ok (.iload_n 3, 1) := by decide +kernel
theorem dL_law_29 : decode cL_law 29 = .ok (.iaload, 1) := by decide +kernel
theorem dL_law_30 : decode cL_law 30 = .ok (.bipush 63, 2) := by decide +kernel
theorem dL_law_32 : decode cL_law 32 = .ok (.iand, 1) := by decide +kernel
theorem dL_law_33 : decode cL_law 33 = .ok (.tableswitch 1702 0 47 #[207, 250, 323, 386, 420, 453, 476, 509, 532, 555, 598, 631, 664, 687, 720, 753, 776, 789, 822, 875, 918, 941, 984, 1017, 1040, 1093, 1116, 1159, 1202, 1235, 1248, 1271, 1314, 1357, 1370, 1383, 1396, 1419, 1452, 1475, 1508, 1541, 1564, 1587, 1630, 1653, 1666, 1679], 207) := by decide +kernel
theorem dL_law_240 : decode cL_law 240 = .ok (.aload_n 1, 1) := by decide +kernel
theorem dL_law_241 : decode cL_law 241 = .ok (.aload_n 0, 1) := by decide +kernel
theorem dL_law_242 : decode cL_law 242 = .ok (.iload_n 3, 1) := by decide +kernel
theorem dL_law_243 : decode cL_law 243 = .ok (.iconst 1, 1) := by decide +kernel
theorem dL_law_244 : decode cL_law 244 = .ok (.iadd, 1) := by decide +kernel
theorem dL_law_245 : decode cL_law 245 = .ok (.iaload, 1) := by decide +kernel
theorem dL_law_246 : decode cL_law 246 = .ok (.aload_n 0, 1) := by decide +kernel
theorem dL_law_247 : decode cL_law 247 = .ok (.iload_n 3, 1) := by decide +kernel
theorem dL_law_248 : decode cL_law 248 = .ok (.iconst 2, 1) := by decide +kernel
theorem dL_law_249 : decode cL_law 249 = .ok (.iadd, 1) := by decide +kernel
theorem dL_law_250 : decode cL_law 250 = .ok (.iaload, 1) := by decide +kernel
theorem dL_law_251 : decode cL_law 251 = .ok (.aload_n 0, 1) := by decide +kernel
theorem dL_law_252 : decode cL_law 252 = .ok (.iload_n 3, 1) := by decide +kernel
theorem dL_law_253 : decode cL_law 253 = .ok (.iconst 3, 1) := by decide +kernel
theorem dL_law_254 : decode cL_law 254 = .ok (.iadd, 1) := by decide +kernel
theorem dL_law_255 : decode cL_law 255 = .ok (.iaload, 1) := by decide +kernel
theorem dL_law_256 : decode cL_law 256 = .ok (.invokevirtual 13, 3) := by decide +kernel
theorem dL_law_259 : decode cL_law 259 = .ok (.aload_n 2, 1) := by decide +kernel
theorem dL_law_260 : decode cL_law 260 = .ok (.aload_n 0, 1) := by decide +kernel
theorem dL_law_261 : decode cL_law 261 = .ok (.iload_n 3, 1) := by decide +kernel
theorem dL_law_262 : decode cL_law 262 = .ok (.iconst 1, 1) := by decide +kernel
theorem dL_law_263 : decode cL_law 263 = .ok (.iadd, 1) := by decide +kernel
theorem dL_law_264 : decode cL_law 264 = .ok (.iaload, 1) := by decide +kernel
theorem dL_law_265 : decode cL_law 265 = .ok (.aload_n 0, 1) := by decide +kernel
theorem dL_law_266 : decode cL_law 266 = .ok (.iload_n 3, 1) := by decide +kernel
theorem dL_law_267 : decode cL_law 267 = .ok (.iconst 2, 1) := by decide +kernel
theorem dL_law_268 : decode cL_law 268 = .ok (.iadd, 1) := by decide +kernel
theorem dL_law_269 : decode cL_law 269 = .ok (.iaload, 1) := by decide +kernel
theorem dL_law_270 : decode cL_law 270 = .ok (.aload_n 0, 1) := by decide +kernel
theorem dL_law_271 : decode cL_law 271 = .ok (.iload_n 3, 1) := by decide +kernel
theorem dL_law_272 : decode cL_law 272 = .ok (.iconst 3, 1) := by decide +kernel
theorem dL_law_273 : decode cL_law 273 = .ok (.iadd, 1) := by decide +kernel
theorem dL_law_274 : decode cL_law 274 = .ok (.iaload, 1) := by decide +kernel
theorem dL_law_275 : decode cL_law 275 = .ok (.invokevirtual 17, 3) := by decide +kernel
theorem dL_law_278 : decode cL_law 278 = .ok (.if_icmp .eq 1457, 3) := by decide +kernel
theorem dL_law_281 : decode cL_law 281 = .ok (.iconst 0, 1) := by decide +kernel
theorem dL_law_282 : decode cL_law 282 = .ok (.ireturn, 1) := by decide +kernel
theorem dL_law_283 : decode cL_law 283 = .ok (.aload_n 1, 1) := by decide +kernel
theorem dL_law_284 : decode cL_law 284 = .ok (.aload_n 0, 1) := by decide +kernel
theorem dL_law_285 : decode cL_law 285 = .ok (.iload_n 3, 1) := by decide +kernel
theorem dL_law_286 : decode cL_law 286 = .ok (.iconst 1, 1) := by decide +kernel
theorem dL_law_287 : decode cL_law 287 = .ok (.iadd, 1) := by decide +kernel
theorem dL_law_288 : decode cL_law 288 = .ok (.iaload, 1) := by decide +kernel
theorem dL_law_289 : decode cL_law 289 = .ok (.aload_n 0, 1) := by decide +kernel
theorem dL_law_290 : decode cL_law 290 = .ok (.iload_n 3, 1) := by decide +kernel
theorem dL_law_291 : decode cL_law 291 = .ok (.iconst 2, 1) := by decide +kernel
theorem dL_law_292 : decode cL_law 292 = .ok (.iadd, 1) := by decide +kernel
theorem dL_law_293 : decode cL_law 293 = .ok (.iaload, 1) := by decide +kernel
theorem dL_law_294 : decode cL_law 294 = .ok (.aload_n 0, 1) := by decide +kernel
theorem dL_law_295 : decode cL_law 295 = .ok (.iload_n 3, 1) := by decide +kernel
theorem dL_law_296 : decode cL_law 296 = .ok (.iconst 3, 1) := by decide +kernel
theorem dL_law_297 : decode cL_law 297 = .ok (.iadd, 1) := by decide +kernel
theorem dL_law_298 : decode cL_law 298 = .ok (.iaload, 1) := by decide +kernel
theorem dL_law_299 : decode cL_law 299 = .ok (.i2l, 1) := by decide +kernel
theorem dL_law_300 : decode cL_law 300 = .ok (.bipush 32, 2) := by decide +kernel
theorem dL_law_302 : decode cL_law 302 = .ok (.lshl, 1) := by decide +kernel
theorem dL_law_303 : decode cL_law 303 = .ok (.aload_n 0, 1) := by decide +kernel
theorem dL_law_304 : decode cL_law 304 = .ok (.iload_n 3, 1) := by decide +kernel
theorem dL_law_305 : decode cL_law 305 = .ok (.iconst 4, 1) := by decide +kernel
theorem dL_law_306 : decode cL_law 306 = .ok (.iadd, 1) := by decide +kernel
theorem dL_law_307 : decode cL_law 307 = .ok (.iaload, 1) := by decide +kernel
theorem dL_law_308 : decode cL_law 308 = .ok (.i2l, 1) := by decide +kernel
theorem dL_law_309 : decode cL_law 309 = .ok (.ldc2_w 18, 3) := by decide +kernel
theorem dL_law_312 : decode cL_law 312 = .ok (.land, 1) := by decide +kernel
theorem dL_law_313 : decode cL_law 313 = .ok (.lor, 1) := by decide +kernel
theorem dL_law_314 : decode cL_law 314 = .ok (.invokevirtual 20, 3) := by decide +kernel
theorem dL_law_317 : decode cL_law 317 = .ok (.aload_n 2, 1) := by decide +kernel
theorem dL_law_318 : decode cL_law 318 = .ok (.aload_n 0, 1) := by decide +kernel
theorem dL_law_319 : decode cL_law 319 = .ok (.iload_n 3, 1) := by decide +kernel
theorem dL_law_320 : decode cL_law 320 = .ok (.iconst 1, 1) := by decide +kernel
theorem dL_law_321 : decode cL_law 321 = .ok (.iadd, 1) := by decide +kernel
theorem dL_law_322 : decode cL_law 322 = .ok (.iaload, 1) := by decide +kernel
theorem dL_law_323 : decode cL_law 323 = .ok (.aload_n 0, 1) := by decide +kernel
theorem dL_law_324 : decode cL_law 324 = .ok (.iload_n 3, 1) := by decide +kernel
theorem dL_law_325 : decode cL_law 325 = .ok (.iconst 2, 1) := by decide +kernel
theorem dL_law_326 : decode cL_law 326 = .ok (.iadd, 1) := by decide +kernel
theorem dL_law_327 : decode cL_law 327 = .ok (.iaload, 1) := by decide +kernel
theorem dL_law_328 : decode cL_law 328 = .ok (.aload_n 0, 1) := by decide +kernel
theorem dL_law_329 : decode cL_law 329 = .ok (.iload_n 3, 1) := by decide +kernel
theorem dL_law_330 : decode cL_law 330 = .ok (.iconst 3, 1) := by decide +kernel
theorem dL_law_331 : decode cL_law 331 = .ok (.iadd, 1) := by decide +kernel
theorem dL_law_332 : decode cL_law 332 = .ok (.iaload, 1) := by decide +kernel
theorem dL_law_333 : decode cL_law 333 = .ok (.i2l, 1) := by decide +kernel
theorem dL_law_334 : decode cL_law 334 = .ok (.bipush 32, 2) := by decide +kernel
theorem dL_law_336 : decode cL_law 336 = .ok (.lshl, 1) := by decide +kernel
theorem dL_law_337 : decode cL_law 337 = .ok (.aload_n 0, 1) := by decide +kernel
theorem dL_law_338 : decode cL_law 338 = .ok (.iload_n 3, 1) := by decide +kernel
theorem dL_law_339 : decode cL_law 339 = .ok (.iconst 4, 1) := by decide +kernel
theorem dL_law_340 : decode cL_law 340 = .ok (.iadd, 1) := by decide +kernel
theorem dL_law_341 : decode cL_law 341 = .ok (.iaload, 1) := by decide +kernel
theorem dL_law_342 : decode cL_law 342 = .ok (.i2l, 1) := by decide +kernel
theorem dL_law_343 : decode cL_law 343 = .ok (.ldc2_w 18, 3) := by decide +kernel
theorem dL_law_346 : decode cL_law 346 = .ok (.land, 1) := by decide +kernel
theorem dL_law_347 : decode cL_law 347 = .ok (.lor, 1) := by decide +kernel
theorem dL_law_348 : decode cL_law 348 = .ok (.invokevirtual 24, 3) := by decide +kernel
theorem dL_law_351 : decode cL_law 351 = .ok (.if_icmp .eq 1384, 3) := by decide +kernel
theorem dL_law_354 : decode cL_law 354 = .ok (.iconst 0, 1) := by decide +kernel
theorem dL_law_355 : decode cL_law 355 = .ok (.ireturn, 1) := by decide +kernel
theorem dL_law_356 : decode cL_law 356 = .ok (.aload_n 1, 1) := by decide +kernel
theorem dL_law_357 : decode cL_law 357 = .ok (.aload_n 0, 1) := by decide +kernel
theorem dL_law_358 : decode cL_law 358 = .ok (.iload_n 3, 1) := by decide +kernel
theorem dL_law_359 : decode cL_law 359 = .ok (.iconst 1, 1) := by decide +kernel
theorem dL_law_360 : decode cL_law 360 = .ok (.iadd, 1) := by decide +kernel
theorem dL_law_361 : decode cL_law 361 = .ok (.iaload, 1) := by decide +kernel
theorem dL_law_362 : decode cL_law 362 = .ok (.aload_n 0, 1) := by decide +kernel
theorem dL_law_363 : decode cL_law 363 = .ok (.iload_n 3, 1) := by decide +kernel
theorem dL_law_364 : decode cL_law 364 = .ok (.iconst 2, 1) := by decide +kernel
theorem dL_law_365 : decode cL_law 365 = .ok (.iadd, 1) := by decide +kernel
theorem dL_law_366 : decode cL_law 366 = .ok (.iaload, 1) := by decide +kernel
theorem dL_law_367 : decode cL_law 367 = .ok (.aload_n 0, 1) := by decide +kernel
theorem dL_law_368 : decode cL_law 368 = .ok (.iload_n 3, 1) := by decide +kernel
theorem dL_law_369 : decode cL_law 369 = .ok (.iconst 3, 1) := by decide +kernel
theorem dL_law_370 : decode cL_law 370 = .ok (.iadd, 1) := by decide +kernel
theorem dL_law_371 : decode cL_law 371 = .ok (.iaload, 1) := by decide +kernel
theorem dL_law_372 : decode cL_law 372 = .ok (.aload_n 0, 1) := by decide +kernel
theorem dL_law_373 : decode cL_law 373 = .ok (.iload_n 3, 1) := by decide +kernel
theorem dL_law_374 : decode cL_law 374 = .ok (.iconst 4, 1) := by decide +kernel
theorem dL_law_375 : decode cL_law 375 = .ok (.iadd, 1) := by decide +kernel
theorem dL_law_376 : decode cL_law 376 = .ok (.iaload, 1) := by decide +kernel
theorem dL_law_377 : decode cL_law 377 = .ok (.aload_n 0, 1) := by decide +kernel
theorem dL_law_378 : decode cL_law 378 = .ok (.iload_n 3, 1) := by decide +kernel
theorem dL_law_379 : decode cL_law 379 = .ok (.iconst 5, 1) := by decide +kernel
theorem dL_law_380 : decode cL_law 380 = .ok (.iadd, 1) := by decide +kernel
theorem dL_law_381 : decode cL_law 381 = .ok (.iaload, 1) := by decide +kernel
theorem dL_law_382 : decode cL_law 382 = .ok (.invokevirtual 25, 3) := by decide +kernel
theorem dL_law_385 : decode cL_law 385 = .ok (.aload_n 2, 1) := by decide +kernel
theorem dL_law_386 : decode cL_law 386 = .ok (.aload_n 0, 1) := by decide +kernel
theorem dL_law_387 : decode cL_law 387 = .ok (.iload_n 3, 1) := by decide +kernel
theorem dL_law_388 : decode cL_law 388 = .ok (.iconst 1, 1) := by decide +kernel
theorem dL_law_389 : decode cL_law 389 = .ok (.iadd, 1) := by decide +kernel
theorem dL_law_390 : decode cL_law 390 = .ok (.iaload, 1) := by decide +kernel
theorem dL_law_391 : decode cL_law 391 = .ok (.aload_n 0, 1) := by decide +kernel
theorem dL_law_392 : decode cL_law 392 = .ok (.iload_n 3, 1) := by decide +kernel
theorem dL_law_393 : decode cL_law 393 = .ok (.iconst 2, 1) := by decide +kernel
theorem dL_law_394 : decode cL_law 394 = .ok (.iadd, 1) := by decide +kernel
theorem dL_law_395 : decode cL_law 395 = .ok (.iaload, 1) := by decide +kernel
theorem dL_law_396 : decode cL_law 396 = .ok (.aload_n 0, 1) := by decide +kernel
theorem dL_law_397 : decode cL_law 397 = .ok (.iload_n 3, 1) := by decide +kernel
theorem dL_law_398 : decode cL_law 398 = .ok (.iconst 3, 1) := by decide +kernel
theorem dL_law_399 : decode cL_law 399 = .ok (.iadd, 1) := by decide +kernel
theorem dL_law_400 : decode cL_law 400 = .ok (.iaload, 1) := by decide +kernel
theorem dL_law_401 : decode cL_law 401 = .ok (.aload_n 0, 1) := by decide +kernel
theorem dL_law_402 : decode cL_law 402 = .ok (.iload_n 3, 1) := by decide +kernel
theorem dL_law_403 : decode cL_law 403 = .ok (.iconst 4, 1) := by decide +kernel
theorem dL_law_404 : decode cL_law 404 = .ok (.iadd, 1) := by decide +kernel
theorem dL_law_405 : decode cL_law 405 = .ok (.iaload, 1) := by decide +kernel
theorem dL_law_406 : decode cL_law 406 = .ok (.aload_n 0, 1) := by decide +kernel
theorem dL_law_407 : decode cL_law 407 = .ok (.iload_n 3, 1) := by decide +kernel
theorem dL_law_408 : decode cL_law 408 = .ok (.iconst 5, 1) := by decide +kernel
theorem dL_law_409 : decode cL_law 409 = .ok (.iadd, 1) := by decide +kernel
theorem dL_law_410 : decode cL_law 410 = .ok (.iaload, 1) := by decide +kernel
theorem dL_law_411 : decode cL_law 411 = .ok (.invokevirtual 29, 3) := by decide +kernel
theorem dL_law_414 : decode cL_law 414 = .ok (.if_icmp .eq 1321, 3) := by decide +kernel
theorem dL_law_417 : decode cL_law 417 = .ok (.iconst 0, 1) := by decide +kernel
theorem dL_law_418 : decode cL_law 418 = .ok (.ireturn, 1) := by decide +kernel
theorem dL_law_419 : decode cL_law 419 = .ok (.aload_n 1, 1) := by decide +kernel
theorem dL_law_420 : decode cL_law 420 = .ok (.aload_n 0, 1) := by decide +kernel
theorem dL_law_421 : decode cL_law 421 = .ok (.iload_n 3, 1) := by decide +kernel
theorem dL_law_422 : decode cL_law 422 = .ok (.iconst 1, 1) := by decide +kernel
theorem dL_law_423 : decode cL_law 423 = .ok (.iadd, 1) := by decide +kernel
theorem dL_law_424 : decode cL_law 424 = .ok (.iaload, 1) := by decide +kernel
theorem dL_law_425 : decode cL_law 425 = .ok (.aload_n 0, 1) := by decide +kernel
theorem dL_law_426 : decode cL_law 426 = .ok (.iload_n 3, 1) := by decide +kernel
theorem dL_law_427 : decode cL_law 427 = .ok (.iconst 2, 1) := by decide +kernel
theorem dL_law_428 : decode cL_law 428 = .ok (.iadd, 1) := by decide +kernel
theorem dL_law_429 : decode cL_law 429 = .ok (.iaload, 1) := by decide +kernel
theorem dL_law_430 : decode cL_law 430 = .ok (.invokevirtual 30, 3) := by decide +kernel
theorem dL_law_433 : decode cL_law 433 = .ok (.aload_n 2, 1) := by decide +kernel
theorem dL_law_434 : decode cL_law 434 = .ok (.aload_n 0, 1) := by decide +kernel
theorem dL_law_435 : decode cL_law 435 = .ok (.iload_n 3, 1) := by decide +kernel
theorem dL_law_436 : decode cL_law 436 = .ok (.iconst 1, 1) := by decide +kernel
theorem dL_law_437 : decode cL_law 437 = .ok (.iadd, 1) := by decide +kernel
theorem dL_law_438 : decode cL_law 438 = .ok (.iaload, 1) := by decide +kernel
theorem dL_law_439 : decode cL_law 439 = .ok (.aload_n 0, 1) := by decide +kernel
theorem dL_law_440 : decode cL_law 440 = .ok (.iload_n 3, 1) := by decide +kernel
theorem dL_law_441 : decode cL_law 441 = .ok (.iconst 2, 1) := by decide +kernel
theorem dL_law_442 : decode cL_law 442 = .ok (.iadd, 1) := by decide +kernel
theorem dL_law_443 : decode cL_law 443 = .ok (.iaload, 1) := by decide +kernel
theorem dL_law_444 : decode cL_law 444 = .ok (.invokevirtual 34, 3) := by decide +kernel
theorem dL_law_447 : decode cL_law 447 = .ok (.lcmp, 1) := by decide +kernel
theorem dL_law_448 : decode cL_law 448 = .ok (.ifCond .eq 1287, 3) := by decide +kernel
theorem dL_law_451 : decode cL_law 451 = .ok (.iconst 0, 1) := by decide +kernel
theorem dL_law_452 : decode cL_law 452 = .ok (.ireturn, 1) := by decide +kernel
theorem dL_law_453 : decode cL_law 453 = .ok (.aload_n 1, 1) := by decide +kernel
theorem dL_law_454 : decode cL_law 454 = .ok (.aload_n 0, 1) := by decide +kernel
theorem dL_law_455 : decode cL_law 455 = .ok (.iload_n 3, 1) := by decide +kernel
theorem dL_law_456 : decode cL_law 456 = .ok (.iconst 1, 1) := by decide +kernel
theorem dL_law_457 : decode cL_law 457 = .ok (.iadd, 1) := by decide +kernel
theorem dL_law_458 : decode cL_law 458 = .ok (.iaload, 1) := by decide +kernel
theorem dL_law_459 : decode cL_law 459 = .ok (.aload_n 0, 1) := by decide +kernel
theorem dL_law_460 : decode cL_law 460 = .ok (.iload_n 3, 1) := by decide +kernel
theorem dL_law_461 : decode cL_law 461 = .ok (.iconst 2, 1) := by decide +kernel
theorem dL_law_462 : decode cL_law 462 = .ok (.iadd, 1) := by decide +kernel
theorem dL_law_463 : decode cL_law 463 = .ok (.iaload, 1) := by decide +kernel
theorem dL_law_464 : decode cL_law 464 = .ok (.invokevirtual 35, 3) := by decide +kernel
theorem dL_law_467 : decode cL_law 467 = .ok (.aload_n 2, 1) := by decide +kernel
theorem dL_law_468 : decode cL_law 468 = .ok (.aload_n 0, 1) := by decide +kernel
theorem dL_law_469 : decode cL_law 469 = .ok (.iload_n 3, 1) := by decide +kernel
theorem dL_law_470 : decode cL_law 470 = .ok (.iconst 1, 1) := by decide +kernel
theorem dL_law_471 : decode cL_law 471 = .ok (.iadd, 1) := by decide +kernel
theorem dL_law_472 : decode cL_law 472 = .ok (.iaload, 1) := by decide +kernel
theorem dL_law_473 : decode cL_law 473 = .ok (.aload_n 0, 1) := by decide +kernel
theorem dL_law_474 : decode cL_law 474 = .ok (.iload_n 3, 1) := by decide +kernel
theorem dL_law_475 : decode cL_law 475 = .ok (.iconst 2, 1) := by decide +kernel
theorem dL_law_476 : decode cL_law 476 = .ok (.iadd, 1) := by decide +kernel
theorem dL_law_477 : decode cL_law 477 = .ok (.iaload, 1) := by decide +kernel
theorem dL_law_478 : decode cL_law 478 = .ok (.invokevirtual 39, 3) := by decide +kernel
theorem dL_law_481 : decode cL_law 481 = .ok (.if_icmp .eq 1254, 3) := by decide +kernel
theorem dL_law_484 : decode cL_law 484 = .ok (.iconst 0, 1) := by decide +kernel
theorem dL_law_485 : decode cL_law 485 = .ok (.ireturn, 1) := by decide +kernel
theorem dL_law_486 : decode cL_law 486 = .ok (.aload_n 1, 1) := by decide +kernel
theorem dL_law_487 : decode cL_law 487 = .ok (.aload_n 0, 1) := by decide +kernel
theorem dL_law_488 : decode cL_law 488 = .ok (.iload_n 3, 1) := by decide +kernel
theorem dL_law_489 : decode cL_law 489 = .ok (.iconst 1, 1) := by decide +kernel
theorem dL_law_490 : decode cL_law 490 = .ok (.iadd, 1) := by decide +kernel
theorem dL_law_491 : decode cL_law 491 = .ok (.iaload, 1) := by decide +kernel
theorem dL_law_492 : decode cL_law 492 = .ok (.invokevirtual 40, 3) := by decide +kernel
theorem dL_law_495 : decode cL_law 495 = .ok (.aload_n 2, 1) := by decide +kernel
theorem dL_law_496 : decode cL_law 496 = .ok (.aload_n 0, 1) := by decide +kernel
theorem dL_law_497 : decode cL_law 497 = .ok (.iload_n 3, 1) := by decide +kernel
theorem dL_law_498 : decode cL_law 498 = .ok (.iconst 1, 1) := by decide +kernel
theorem dL_law_499 : decode cL_law 499 = .ok (.iadd, 1) := by decide +kernel
theorem dL_law_500 : decode cL_law 500 = .ok (.iaload, 1) := by decide +kernel
theorem dL_law_501 : decode cL_law 501 = .ok (.invokevirtual 44, 3) := by decide +kernel
theorem dL_law_504 : decode cL_law 504 = .ok (.if_icmp .eq 1231, 3) := by decide +kernel
theorem dL_law_507 : decode cL_law 507 = .ok (.iconst 0, 1) := by decide +kernel
theorem dL_law_508 : decode cL_law 508 = .ok (.ireturn, 1) := by decide +kernel
theorem dL_law_509 : decode cL_law 509 = .ok (.aload_n 1, 1) := by decide +kernel
theorem dL_law_510 : decode cL_law 510 = .ok (.aload_n 0, 1) := by decide +kernel
theorem dL_law_511 : decode cL_law 511 = .ok (.iload_n 3, 1) := by decide +kernel
theorem dL_law_512 : decode cL_law 512 = .ok (.iconst 1, 1) := by decide +kernel
theorem dL_law_513 : decode cL_law 513 = .ok (.iadd, 1) := by decide +kernel
theorem dL_law_514 : decode cL_law 514 = .ok (.iaload, 1) := by decide +kernel
theorem dL_law_515 : decode cL_law 515 = .ok (.aload_n 0, 1) := by decide +kernel
theorem dL_law_516 : decode cL_law 516 = .ok (.iload_n 3, 1) := by decide +kernel
theorem dL_law_517 : decode cL_law 517 = .ok (.iconst 2, 1) := by decide +kernel
theorem dL_law_518 : decode cL_law 518 = .ok (.iadd, 1) := by decide +kernel
theorem dL_law_519 : decode cL_law 519 = .ok (.iaload, 1) := by decide +kernel
theorem dL_law_520 : decode cL_law 520 = .ok (.invokevirtual 45, 3) := by decide +kernel
theorem dL_law_523 : decode cL_law 523 = .ok (.aload_n 2, 1) := by decide +kernel
theorem dL_law_524 : decode cL_law 524 = .ok (.aload_n 0, 1) := by decide +kernel
theorem dL_law_525 : decode cL_law 525 = .ok (.iload_n 3, 1) := by decide +kernel
theorem dL_law_526 : decode cL_law 526 = .ok (.iconst 1, 1) := by decide +kernel
theorem dL_law_527 : decode cL_law 527 = .ok (.iadd, 1) := by decide +kernel
theorem dL_law_528 : decode cL_law 528 = .ok (.iaload, 1) := by decide +kernel
theorem dL_law_529 : decode cL_law 529 = .ok (.aload_n 0, 1) := by decide +kernel
theorem dL_law_530 : decode cL_law 530 = .ok (.iload_n 3, 1) := by decide +kernel
theorem dL_law_531 : decode cL_law 531 = .ok (.iconst 2, 1) := by decide +kernel
theorem dL_law_532 : decode cL_law 532 = .ok (.iadd, 1) := by decide +kernel
theorem dL_law_533 : decode cL_law 533 = .ok (.iaload, 1) := by decide +kernel
theorem dL_law_534 : decode cL_law 534 = .ok (.invokevirtual 48, 3) := by decide +kernel
theorem dL_law_537 : decode cL_law 537 = .ok (.if_icmp .eq 1198, 3) := by decide +kernel
theorem dL_law_540 : decode cL_law 540 = .ok (.iconst 0, 1) := by decide +kernel
theorem dL_law_541 : decode cL_law 541 = .ok (.ireturn, 1) := by decide +kernel
theorem dL_law_542 : decode cL_law 542 = .ok (.aload_n 1, 1) := by decide +kernel
theorem dL_law_543 : decode cL_law 543 = .ok (.aload_n 0, 1) := by decide +kernel
theorem dL_law_544 : decode cL_law 544 = .ok (.iload_n 3, 1) := by decide +kernel
theorem dL_law_545 : decode cL_law 545 = .ok (.iconst 1, 1) := by decide +kernel
theorem dL_law_546 : decode cL_law 546 = .ok (.iadd, 1) := by decide +kernel
theorem dL_law_547 : decode cL_law 547 = .ok (.iaload, 1) := by decide +kernel
theorem dL_law_548 : decode cL_law 548 = .ok (.invokevirtual 49, 3) := by decide +kernel
theorem dL_law_551 : decode cL_law 551 = .ok (.aload_n 2, 1) := by decide +kernel
theorem dL_law_552 : decode cL_law 552 = .ok (.aload_n 0, 1) := by decide +kernel
theorem dL_law_553 : decode cL_law 553 = .ok (.iload_n 3, 1) := by decide +kernel
theorem dL_law_554 : decode cL_law 554 = .ok (.iconst 1, 1) := by decide +kernel
theorem dL_law_555 : decode cL_law 555 = .ok (.iadd, 1) := by decide +kernel
theorem dL_law_556 : decode cL_law 556 = .ok (.iaload, 1) := by decide +kernel
theorem dL_law_557 : decode cL_law 557 = .ok (.invokevirtual 52, 3) := by decide +kernel
theorem dL_law_560 : decode cL_law 560 = .ok (.if_icmp .eq 1175, 3) := by decide +kernel
theorem dL_law_563 : decode cL_law 563 = .ok (.iconst 0, 1) := by decide +kernel
theorem dL_law_564 : decode cL_law 564 = .ok (.ireturn, 1) := by decide +kernel
theorem dL_law_565 : decode cL_law 565 = .ok (.aload_n 1, 1) := by decide +kernel
theorem dL_law_566 : decode cL_law 566 = .ok (.aload_n 0, 1) := by decide +kernel
theorem dL_law_567 : decode cL_law 567 = .ok (.iload_n 3, 1) := by decide +kernel
theorem dL_law_568 : decode cL_law 568 = .ok (.iconst 1, 1) := by decide +kernel
theorem dL_law_569 : decode cL_law 569 = .ok (.iadd, 1) := by decide +kernel
theorem dL_law_570 : decode cL_law 570 = .ok (.iaload, 1) := by decide +kernel
theorem dL_law_571 : decode cL_law 571 = .ok (.invokevirtual 53, 3) := by decide +kernel
theorem dL_law_574 : decode cL_law 574 = .ok (.aload_n 2, 1) := by decide +kernel
theorem dL_law_575 : decode cL_law 575 = .ok (.aload_n 0, 1) := by decide +kernel
theorem dL_law_576 : decode cL_law 576 = .ok (.iload_n 3, 1) := by decide +kernel
theorem dL_law_577 : decode cL_law 577 = .ok (.iconst 1, 1) := by decide +kernel
theorem dL_law_578 : decode cL_law 578 = .ok (.iadd, 1) := by decide +kernel
theorem dL_law_579 : decode cL_law 579 = .ok (.iaload, 1) := by decide +kernel
theorem dL_law_580 : decode cL_law 580 = .ok (.invokevirtual 56, 3) := by decide +kernel
theorem dL_law_583 : decode cL_law 583 = .ok (.if_icmp .eq 1152, 3) := by decide +kernel
theorem dL_law_586 : decode cL_law 586 = .ok (.iconst 0, 1) := by decide +kernel
theorem dL_law_587 : decode cL_law 587 = .ok (.ireturn, 1) := by decide +kernel
theorem dL_law_588 : decode cL_law 588 = .ok (.aload_n 1, 1) := by decide +kernel
theorem dL_law_589 : decode cL_law 589 = .ok (.aload_n 0, 1) := by decide +kernel
theorem dL_law_590 : decode cL_law 590 = .ok (.iload_n 3, 1) := by decide +kernel
theorem dL_law_591 : decode cL_law 591 = .ok (.iconst 1, 1) := by decide +kernel
theorem dL_law_592 : decode cL_law 592 = .ok (.iadd, 1) := by decide +kernel
theorem dL_law_593 : decode cL_law 593 = .ok (.iaload, 1) := by decide +kernel
theorem dL_law_594 : decode cL_law 594 = .ok (.aload_n 0, 1) := by decide +kernel
theorem dL_law_595 : decode cL_law 595 = .ok (.iload_n 3, 1) := by decide +kernel
theorem dL_law_596 : decode cL_law 596 = .ok (.iconst 2, 1) := by decide +kernel
theorem dL_law_597 : decode cL_law 597 = .ok (.iadd, 1) := by decide +kernel
theorem dL_law_598 : decode cL_law 598 = .ok (.iaload, 1) := by decide +kernel
theorem dL_law_599 : decode cL_law 599 = .ok (.aload_n 0, 1) := by decide +kernel
theorem dL_law_600 : decode cL_law 600 = .ok (.iload_n 3, 1) := by decide +kernel
theorem dL_law_601 : decode cL_law 601 = .ok (.iconst 3, 1) := by decide +kernel
theorem dL_law_602 : decode cL_law 602 = .ok (.iadd, 1) := by decide +kernel
theorem dL_law_603 : decode cL_law 603 = .ok (.iaload, 1) := by decide +kernel
theorem dL_law_604 : decode cL_law 604 = .ok (.invokevirtual 57, 3) := by decide +kernel
theorem dL_law_607 : decode cL_law 607 = .ok (.aload_n 2, 1) := by decide +kernel
theorem dL_law_608 : decode cL_law 608 = .ok (.aload_n 0, 1) := by decide +kernel
theorem dL_law_609 : decode cL_law 609 = .ok (.iload_n 3, 1) := by decide +kernel
theorem dL_law_610 : decode cL_law 610 = .ok (.iconst 1, 1) := by decide +kernel
theorem dL_law_611 : decode cL_law 611 = .ok (.iadd, 1) := by decide +kernel
theorem dL_law_612 : decode cL_law 612 = .ok (.iaload, 1) := by decide +kernel
theorem dL_law_613 : decode cL_law 613 = .ok (.aload_n 0, 1) := by decide +kernel
theorem dL_law_614 : decode cL_law 614 = .ok (.iload_n 3, 1) := by decide +kernel
theorem dL_law_615 : decode cL_law 615 = .ok (.iconst 2, 1) := by decide +kernel
theorem dL_law_616 : decode cL_law 616 = .ok (.iadd, 1) := by decide +kernel
theorem dL_law_617 : decode cL_law 617 = .ok (.iaload, 1) := by decide +kernel
theorem dL_law_618 : decode cL_law 618 = .ok (.aload_n 0, 1) := by decide +kernel
theorem dL_law_619 : decode cL_law 619 = .ok (.iload_n 3, 1) := by decide +kernel
theorem dL_law_620 : decode cL_law 620 = .ok (.iconst 3, 1) := by decide +kernel
theorem dL_law_621 : decode cL_law 621 = .ok (.iadd, 1) := by decide +kernel
theorem dL_law_622 : decode cL_law 622 = .ok (.iaload, 1) := by decide +kernel
theorem dL_law_623 : decode cL_law 623 = .ok (.invokevirtual 60, 3) := by decide +kernel
theorem dL_law_626 : decode cL_law 626 = .ok (.if_icmp .eq 1109, 3) := by decide +kernel
theorem dL_law_629 : decode cL_law 629 = .ok (.iconst 0, 1) := by decide +kernel
theorem dL_law_630 : decode cL_law 630 = .ok (.ireturn, 1) := by decide +kernel
theorem dL_law_631 : decode cL_law 631 = .ok (.aload_n 1, 1) := by decide +kernel
theorem dL_law_632 : decode cL_law 632 = .ok (.aload_n 0, 1) := by decide +kernel
theorem dL_law_633 : decode cL_law 633 = .ok (.iload_n 3, 1) := by decide +kernel
theorem dL_law_634 : decode cL_law 634 = .ok (.iconst 1, 1) := by decide +kernel
theorem dL_law_635 : decode cL_law 635 = .ok (.iadd, 1) := by decide +kernel
theorem dL_law_636 : decode cL_law 636 = .ok (.iaload, 1) := by decide +kernel
theorem dL_law_637 : decode cL_law 637 = .ok (.aload_n 0, 1) := by decide +kernel
theorem dL_law_638 : decode cL_law 638 = .ok (.iload_n 3, 1) := by decide +kernel
theorem dL_law_639 : decode cL_law 639 = .ok (.iconst 2, 1) := by decide +kernel
theorem dL_law_640 : decode cL_law 640 = .ok (.iadd, 1) := by decide +kernel
theorem dL_law_641 : decode cL_law 641 = .ok (.iaload, 1) := by decide +kernel
theorem dL_law_642 : decode cL_law 642 = .ok (.invokevirtual 61, 3) := by decide +kernel
theorem dL_law_645 : decode cL_law 645 = .ok (.aload_n 2, 1) := by decide +kernel
theorem dL_law_646 : decode cL_law 646 = .ok (.aload_n 0, 1) := by decide +kernel
theorem dL_law_647 : decode cL_law 647 = .ok (.iload_n 3, 1) := by decide +kernel
theorem dL_law_648 : decode cL_law 648 = .ok (.iconst 1, 1) := by decide +kernel
theorem dL_law_649 : decode cL_law 649 = .ok (.iadd, 1) := by decide +kernel
theorem dL_law_650 : decode cL_law 650 = .ok (.iaload, 1) := by decide +kernel
theorem dL_law_651 : decode cL_law 651 = .ok (.aload_n 0, 1) := by decide +kernel
theorem dL_law_652 : decode cL_law 652 = .ok (.iload_n 3, 1) := by decide +kernel
theorem dL_law_653 : decode cL_law 653 = .ok (.iconst 2, 1) := by decide +kernel
theorem dL_law_654 : decode cL_law 654 = .ok (.iadd, 1) := by decide +kernel
theorem dL_law_655 : decode cL_law 655 = .ok (.iaload, 1) := by decide +kernel
theorem dL_law_656 : decode cL_law 656 = .ok (.invokevirtual 64, 3) := by decide +kernel
theorem dL_law_659 : decode cL_law 659 = .ok (.if_icmp .eq 1076, 3) := by decide +kernel
theorem dL_law_662 : decode cL_law 662 = .ok (.iconst 0, 1) := by decide +kernel
theorem dL_law_663 : decode cL_law 663 = .ok (.ireturn, 1) := by decide +kernel
theorem dL_law_664 : decode cL_law 664 = .ok (.aload_n 1, 1) := by decide +kernel
theorem dL_law_665 : decode cL_law 665 = .ok (.aload_n 0, 1) := by decide +kernel
theorem dL_law_666 : decode cL_law 666 = .ok (.iload_n 3, 1) := by decide +kernel
theorem dL_law_667 : decode cL_law 667 = .ok (.iconst 1, 1) := by decide +kernel
theorem dL_law_668 : decode cL_law 668 = .ok (.iadd, 1) := by decide +kernel
theorem dL_law_669 : decode cL_law 669 = .ok (.iaload, 1) := by decide +kernel
theorem dL_law_670 : decode cL_law 670 = .ok (.aload_n 0, 1) := by decide +kernel
theorem dL_law_671 : decode cL_law 671 = .ok (.iload_n 3, 1) := by decide +kernel
theorem dL_law_672 : decode cL_law 672 = .ok (.iconst 2, 1) := by decide +kernel
theorem dL_law_673 : decode cL_law 673 = .ok (.iadd, 1) := by decide +kernel
theorem dL_law_674 : decode cL_law 674 = .ok (.iaload, 1) := by decide +kernel
theorem dL_law_675 : decode cL_law 675 = .ok (.invokevirtual 65, 3) := by decide +kernel
theorem dL_law_678 : decode cL_law 678 = .ok (.aload_n 2, 1) := by decide +kernel
theorem dL_law_679 : decode cL_law 679 = .ok (.aload_n 0, 1) := by decide +kernel
theorem dL_law_680 : decode cL_law 680 = .ok (.iload_n 3, 1) := by decide +kernel
theorem dL_law_681 : decode cL_law 681 = .ok (.iconst 1, 1) := by decide +kernel
theorem dL_law_682 : decode cL_law 682 = .ok (.iadd, 1) := by decide +kernel
theorem dL_law_683 : decode cL_law 683 = .ok (.iaload, 1) := by decide +kernel
theorem dL_law_684 : decode cL_law 684 = .ok (.aload_n 0, 1) := by decide +kernel
theorem dL_law_685 : decode cL_law 685 = .ok (.iload_n 3, 1) := by decide +kernel
theorem dL_law_686 : decode cL_law 686 = .ok (.iconst 2, 1) := by decide +kernel
theorem dL_law_687 : decode cL_law 687 = .ok (.iadd, 1) := by decide +kernel
theorem dL_law_688 : decode cL_law 688 = .ok (.iaload, 1) := by decide +kernel
theorem dL_law_689 : decode cL_law 689 = .ok (.invokevirtual 68, 3) := by decide +kernel
theorem dL_law_692 : decode cL_law 692 = .ok (.if_icmp .eq 1043, 3) := by decide +kernel
theorem dL_law_695 : decode cL_law 695 = .ok (.iconst 0, 1) := by decide +kernel
theorem dL_law_696 : decode cL_law 696 = .ok (.ireturn, 1) := by decide +kernel
theorem dL_law_697 : decode cL_law 697 = .ok (.aload_n 1, 1) := by decide +kernel
theorem dL_law_698 : decode cL_law 698 = .ok (.aload_n 0, 1) := by decide +kernel
theorem dL_law_699 : decode cL_law 699 = .ok (.iload_n 3, 1) := by decide +kernel
theorem dL_law_700 : decode cL_law 700 = .ok (.iconst 1, 1) := by decide +kernel
theorem dL_law_701 : decode cL_law 701 = .ok (.iadd, 1) := by decide +kernel
theorem dL_law_702 : decode cL_law 702 = .ok (.iaload, 1) := by decide +kernel
theorem dL_law_703 : decode cL_law 703 = .ok (.invokevirtual 69, 3) := by decide +kernel
theorem dL_law_706 : decode cL_law 706 = .ok (.aload_n 2, 1) := by decide +kernel
theorem dL_law_707 : decode cL_law 707 = .ok (.aload_n 0, 1) := by decide +kernel
theorem dL_law_708 : decode cL_law 708 = .ok (.iload_n 3, 1) := by decide +kernel
theorem dL_law_709 : decode cL_law 709 = .ok (.iconst 1, 1) := by decide +kernel
theorem dL_law_710 : decode cL_law 710 = .ok (.iadd, 1) := by decide +kernel
theorem dL_law_711 : decode cL_law 711 = .ok (.iaload, 1) := by decide +kernel
theorem dL_law_712 : decode cL_law 712 = .ok (.invokevirtual 72, 3) := by decide +kernel
theorem dL_law_715 : decode cL_law 715 = .ok (.if_icmp .eq 1020, 3) := by decide +kernel
theorem dL_law_718 : decode cL_law 718 = .ok (.iconst 0, 1) := by decide +kernel
theorem dL_law_719 : decode cL_law 719 = .ok (.ireturn, 1) := by decide +kernel
theorem dL_law_720 : decode cL_law 720 = .ok (.aload_n 1, 1) := by decide +kernel
theorem dL_law_721 : decode cL_law 721 = .ok (.aload_n 0, 1) := by decide +kernel
theorem dL_law_722 : decode cL_law 722 = .ok (.iload_n 3, 1) := by decide +kernel
theorem dL_law_723 : decode cL_law 723 = .ok (.iconst 1, 1) := by decide +kernel
theorem dL_law_724 : decode cL_law 724 = .ok (.iadd, 1) := by decide +kernel
theorem dL_law_725 : decode cL_law 725 = .ok (.iaload, 1) := by decide +kernel
theorem dL_law_726 : decode cL_law 726 = .ok (.aload_n 0, 1) := by decide +kernel
theorem dL_law_727 : decode cL_law 727 = .ok (.iload_n 3, 1) := by decide +kernel
theorem dL_law_728 : decode cL_law 728 = .ok (.iconst 2, 1) := by decide +kernel
theorem dL_law_729 : decode cL_law 729 = .ok (.iadd, 1) := by decide +kernel
theorem dL_law_730 : decode cL_law 730 = .ok (.iaload, 1) := by decide +kernel
theorem dL_law_731 : decode cL_law 731 = .ok (.invokevirtual 73, 3) := by decide +kernel
theorem dL_law_734 : decode cL_law 734 = .ok (.aload_n 2, 1) := by decide +kernel
theorem dL_law_735 : decode cL_law 735 = .ok (.aload_n 0, 1) := by decide +kernel
theorem dL_law_736 : decode cL_law 736 = .ok (.iload_n 3, 1) := by decide +kernel
theorem dL_law_737 : decode cL_law 737 = .ok (.iconst 1, 1) := by decide +kernel
theorem dL_law_738 : decode cL_law 738 = .ok (.iadd, 1) := by decide +kernel
theorem dL_law_739 : decode cL_law 739 = .ok (.iaload, 1) := by decide +kernel
theorem dL_law_740 : decode cL_law 740 = .ok (.aload_n 0, 1) := by decide +kernel
theorem dL_law_741 : decode cL_law 741 = .ok (.iload_n 3, 1) := by decide +kernel
theorem dL_law_742 : decode cL_law 742 = .ok (.iconst 2, 1) := by decide +kernel
theorem dL_law_743 : decode cL_law 743 = .ok (.iadd, 1) := by decide +kernel
theorem dL_law_744 : decode cL_law 744 = .ok (.iaload, 1) := by decide +kernel
theorem dL_law_745 : decode cL_law 745 = .ok (.invokevirtual 76, 3) := by decide +kernel
theorem dL_law_748 : decode cL_law 748 = .ok (.if_icmp .eq 987, 3) := by decide +kernel
theorem dL_law_751 : decode cL_law 751 = .ok (.iconst 0, 1) := by decide +kernel
theorem dL_law_752 : decode cL_law 752 = .ok (.ireturn, 1) := by decide +kernel
theorem dL_law_753 : decode cL_law 753 = .ok (.aload_n 1, 1) := by decide +kernel
theorem dL_law_754 : decode cL_law 754 = .ok (.aload_n 0, 1) := by decide +kernel
theorem dL_law_755 : decode cL_law 755 = .ok (.iload_n 3, 1) := by decide +kernel
theorem dL_law_756 : decode cL_law 756 = .ok (.iconst 1, 1) := by decide +kernel
theorem dL_law_757 : decode cL_law 757 = .ok (.iadd, 1) := by decide +kernel
theorem dL_law_758 : decode cL_law 758 = .ok (.iaload, 1) := by decide +kernel
theorem dL_law_759 : decode cL_law 759 = .ok (.aload_n 0, 1) := by decide +kernel
theorem dL_law_760 : decode cL_law 760 = .ok (.iload_n 3, 1) := by decide +kernel
theorem dL_law_761 : decode cL_law 761 = .ok (.iconst 2, 1) := by decide +kernel
theorem dL_law_762 : decode cL_law 762 = .ok (.iadd, 1) := by decide +kernel
theorem dL_law_763 : decode cL_law 763 = .ok (.iaload, 1) := by decide +kernel
theorem dL_law_764 : decode cL_law 764 = .ok (.invokevirtual 77, 3) := by decide +kernel
theorem dL_law_767 : decode cL_law 767 = .ok (.aload_n 2, 1) := by decide +kernel
theorem dL_law_768 : decode cL_law 768 = .ok (.aload_n 0, 1) := by decide +kernel
theorem dL_law_769 : decode cL_law 769 = .ok (.iload_n 3, 1) := by decide +kernel
theorem dL_law_770 : decode cL_law 770 = .ok (.iconst 1, 1) := by decide +kernel
theorem dL_law_771 : decode cL_law 771 = .ok (.iadd, 1) := by decide +kernel
theorem dL_law_772 : decode cL_law 772 = .ok (.iaload, 1) := by decide +kernel
theorem dL_law_773 : decode cL_law 773 = .ok (.aload_n 0, 1) := by decide +kernel
theorem dL_law_774 : decode cL_law 774 = .ok (.iload_n 3, 1) := by decide +kernel
theorem dL_law_775 : decode cL_law 775 = .ok (.iconst 2, 1) := by decide +kernel
theorem dL_law_776 : decode cL_law 776 = .ok (.iadd, 1) := by decide +kernel
theorem dL_law_777 : decode cL_law 777 = .ok (.iaload, 1) := by decide +kernel
theorem dL_law_778 : decode cL_law 778 = .ok (.invokevirtual 80, 3) := by decide +kernel
theorem dL_law_781 : decode cL_law 781 = .ok (.if_icmp .eq 954, 3) := by decide +kernel
theorem dL_law_784 : decode cL_law 784 = .ok (.iconst 0, 1) := by decide +kernel
theorem dL_law_785 : decode cL_law 785 = .ok (.ireturn, 1) := by decide +kernel
theorem dL_law_786 : decode cL_law 786 = .ok (.aload_n 1, 1) := by decide +kernel
theorem dL_law_787 : decode cL_law 787 = .ok (.aload_n 0, 1) := by decide +kernel
theorem dL_law_788 : decode cL_law 788 = .ok (.iload_n 3, 1) := by decide +kernel
theorem dL_law_789 : decode cL_law 789 = .ok (.iconst 1, 1) := by decide +kernel
theorem dL_law_790 : decode cL_law 790 = .ok (.iadd, 1) := by decide +kernel
theorem dL_law_791 : decode cL_law 791 = .ok (.iaload, 1) := by decide +kernel
theorem dL_law_792 : decode cL_law 792 = .ok (.invokevirtual 81, 3) := by decide +kernel
theorem dL_law_795 : decode cL_law 795 = .ok (.aload_n 2, 1) := by decide +kernel
theorem dL_law_796 : decode cL_law 796 = .ok (.aload_n 0, 1) := by decide +kernel
theorem dL_law_797 : decode cL_law 797 = .ok (.iload_n 3, 1) := by decide +kernel
theorem dL_law_798 : decode cL_law 798 = .ok (.iconst 1, 1) := by decide +kernel
theorem dL_law_799 : decode cL_law 799 = .ok (.iadd, 1) := by decide +kernel
theorem dL_law_800 : decode cL_law 800 = .ok (.iaload, 1) := by decide +kernel
theorem dL_law_801 : decode cL_law 801 = .ok (.invokevirtual 84, 3) := by decide +kernel
theorem dL_law_804 : decode cL_law 804 = .ok (.if_icmp .eq 931, 3) := by decide +kernel
theorem dL_law_807 : decode cL_law 807 = .ok (.iconst 0, 1) := by decide +kernel
theorem dL_law_808 : decode cL_law 808 = .ok (.ireturn, 1) := by decide +kernel
theorem dL_law_809 : decode cL_law 809 = .ok (.aload_n 1, 1) := by decide +kernel
theorem dL_law_810 : decode cL_law 810 = .ok (.invokevirtual 85, 3) := by decide +kernel
theorem dL_law_813 : decode cL_law 813 = .ok (.aload_n 2, 1) := by decide +kernel
theorem dL_law_814 : decode cL_law 814 = .ok (.invokevirtual 89, 3) := by decide +kernel
theorem dL_law_817 : decode cL_law 817 = .ok (.if_icmp .eq 918, 3) := by decide +kernel
theorem dL_law_820 : decode cL_law 820 = .ok (.iconst 0, 1) := by decide +kernel
theorem dL_law_821 : decode cL_law 821 = .ok (.ireturn, 1) := by decide +kernel
theorem dL_law_822 : decode cL_law 822 = .ok (.aload_n 1, 1) := by decide +kernel
theorem dL_law_823 : decode cL_law 823 = .ok (.aload_n 0, 1) := by decide +kernel
theorem dL_law_824 : decode cL_law 824 = .ok (.iload_n 3, 1) := by decide +kernel
theorem dL_law_825 : decode cL_law 825 = .ok (.iconst 1, 1) := by decide +kernel
theorem dL_law_826 : decode cL_law 826 = .ok (.iadd, 1) := by decide +kernel
theorem dL_law_827 : decode cL_law 827 = .ok (.iaload, 1) := by decide +kernel
theorem dL_law_828 : decode cL_law 828 = .ok (.aload_n 0, 1) := by decide +kernel
theorem dL_law_829 : decode cL_law 829 = .ok (.iload_n 3, 1) := by decide +kernel
theorem dL_law_830 : decode cL_law 830 = .ok (.iconst 2, 1) := by decide +kernel
theorem dL_law_831 : decode cL_law 831 = .ok (.iadd, 1) := by decide +kernel
theorem dL_law_832 : decode cL_law 832 = .ok (.iaload, 1) := by decide +kernel
theorem dL_law_833 : decode cL_law 833 = .ok (.invokevirtual 90, 3) := by decide +kernel
theorem dL_law_836 : decode cL_law 836 = .ok (.aload_n 2, 1) := by decide +kernel
theorem dL_law_837 : decode cL_law 837 = .ok (.aload_n 0, 1) := by decide +kernel
theorem dL_law_838 : decode cL_law 838 = .ok (.iload_n 3, 1) := by decide +kernel
theorem dL_law_839 : decode cL_law 839 = .ok (.iconst 1, 1) := by decide +kernel
theorem dL_law_840 : decode cL_law 840 = .ok (.iadd, 1) := by decide +kernel
theorem dL_law_841 : decode cL_law 841 = .ok (.iaload, 1) := by decide +kernel
theorem dL_law_842 : decode cL_law 842 = .ok (.aload_n 0, 1) := by decide +kernel
theorem dL_law_843 : decode cL_law 843 = .ok (.iload_n 3, 1) := by decide +kernel
theorem dL_law_844 : decode cL_law 844 = .ok (.iconst 2, 1) := by decide +kernel
theorem dL_law_845 : decode cL_law 845 = .ok (.iadd, 1) := by decide +kernel
theorem dL_law_846 : decode cL_law 846 = .ok (.iaload, 1) := by decide +kernel
theorem dL_law_847 : decode cL_law 847 = .ok (.invokevirtual 93, 3) := by decide +kernel
theorem dL_law_850 : decode cL_law 850 = .ok (.if_icmp .eq 885, 3) := by decide +kernel
theorem dL_law_853 : decode cL_law 853 = .ok (.iconst 0, 1) := by decide +kernel
theorem dL_law_854 : decode cL_law 854 = .ok (.ireturn, 1) := by decide +kernel
theorem dL_law_855 : decode cL_law 855 = .ok (.aload_n 1, 1) := by decide +kernel
theorem dL_law_856 : decode cL_law 856 = .ok (.aload_n 0, 1) := by decide +kernel
theorem dL_law_857 : decode cL_law 857 = .ok (.iload_n 3, 1) := by decide +kernel
theorem dL_law_858 : decode cL_law 858 = .ok (.iconst 1, 1) := by decide +kernel
theorem dL_law_859 : decode cL_law 859 = .ok (.iadd, 1) := by decide +kernel
theorem dL_law_860 : decode cL_law 860 = .ok (.iaload, 1) := by decide +kernel
theorem dL_law_861 : decode cL_law 861 = .ok (.aload_n 0, 1) := by decide +kernel
theorem dL_law_862 : decode cL_law 862 = .ok (.iload_n 3, 1) := by decide +kernel
theorem dL_law_863 : decode cL_law 863 = .ok (.iconst 2, 1) := by decide +kernel
theorem dL_law_864 : decode cL_law 864 = .ok (.iadd, 1) := by decide +kernel
theorem dL_law_865 : decode cL_law 865 = .ok (.iaload, 1) := by decide +kernel
theorem dL_law_866 : decode cL_law 866 = .ok (.aload_n 0, 1) := by decide +kernel
theorem dL_law_867 : decode cL_law 867 = .ok (.iload_n 3, 1) := by decide +kernel
theorem dL_law_868 : decode cL_law 868 = .ok (.iconst 3, 1) := by decide +kernel
theorem dL_law_869 : decode cL_law 869 = .ok (.iadd, 1) := by decide +kernel
theorem dL_law_870 : decode cL_law 870 = .ok (.iaload, 1) := by decide +kernel
theorem dL_law_871 : decode cL_law 871 = .ok (.aload_n 0, 1) := by decide +kernel
theorem dL_law_872 : decode cL_law 872 = .ok (.iload_n 3, 1) := by decide +kernel
theorem dL_law_873 : decode cL_law 873 = .ok (.iconst 4, 1) := by decide +kernel
theorem dL_law_874 : decode cL_law 874 = .ok (.iadd, 1) := by decide +kernel
theorem dL_law_875 : decode cL_law 875 = .ok (.iaload, 1) := by decide +kernel
theorem dL_law_876 : decode cL_law 876 = .ok (.invokevirtual 94, 3) := by decide +kernel
theorem dL_law_879 : decode cL_law 879 = .ok (.aload_n 2, 1) := by decide +kernel
theorem dL_law_880 : decode cL_law 880 = .ok (.aload_n 0, 1) := by decide +kernel
theorem dL_law_881 : decode cL_law 881 = .ok (.iload_n 3, 1) := by decide +kernel
theorem dL_law_882 : decode cL_law 882 = .ok (.iconst 1, 1) := by decide +kernel
theorem dL_law_883 : decode cL_law 883 = .ok (.iadd, 1) := by decide +kernel
theorem dL_law_884 : decode cL_law 884 = .ok (.iaload, 1) := by decide +kernel
theorem dL_law_885 : decode cL_law 885 = .ok (.aload_n 0, 1) := by decide +kernel
theorem dL_law_886 : decode cL_law 886 = .ok (.iload_n 3, 1) := by decide +kernel
theorem dL_law_887 : decode cL_law 887 = .ok (.iconst 2, 1) := by decide +kernel
theorem dL_law_888 : decode cL_law 888 = .ok (.iadd, 1) := by decide +kernel
theorem dL_law_889 : decode cL_law 889 = .ok (.iaload, 1) := by decide +kernel
theorem dL_law_890 : decode cL_law 890 = .ok (.aload_n 0, 1) := by decide +kernel
theorem dL_law_891 : decode cL_law 891 = .ok (.iload_n 3, 1) := by decide +kernel
theorem dL_law_892 : decode cL_law 892 = .ok (.iconst 3, 1) := by decide +kernel
theorem dL_law_893 : decode cL_law 893 = .ok (.iadd, 1) := by decide +kernel
theorem dL_law_894 : decode cL_law 894 = .ok (.iaload, 1) := by decide +kernel
theorem dL_law_895 : decode cL_law 895 = .ok (.aload_n 0, 1) := by decide +kernel
theorem dL_law_896 : decode cL_law 896 = .ok (.iload_n 3, 1) := by decide +kernel
theorem dL_law_897 : decode cL_law 897 = .ok (.iconst 4, 1) := by decide +kernel
theorem dL_law_898 : decode cL_law 898 = .ok (.iadd, 1) := by decide +kernel
theorem dL_law_899 : decode cL_law 899 = .ok (.iaload, 1) := by decide +kernel
theorem dL_law_900 : decode cL_law 900 = .ok (.invokevirtual 98, 3) := by decide +kernel
theorem dL_law_903 : decode cL_law 903 = .ok (.if_icmp .eq 832, 3) := by decide +kernel
theorem dL_law_906 : decode cL_law 906 = .ok (.iconst 0, 1) := by decide +kernel
theorem dL_law_907 : decode cL_law 907 = .ok (.ireturn, 1) := by decide +kernel
theorem dL_law_908 : decode cL_law 908 = .ok (.aload_n 1, 1) := by decide +kernel
theorem dL_law_909 : decode cL_law 909 = .ok (.aload_n 0, 1) := by decide +kernel
theorem dL_law_910 : decode cL_law 910 = .ok (.iload_n 3, 1) := by decide +kernel
theorem dL_law_911 : decode cL_law 911 = .ok (.iconst 1, 1) := by decide +kernel
theorem dL_law_912 : decode cL_law 912 = .ok (.iadd, 1) := by decide +kernel
theorem dL_law_913 : decode cL_law 913 = .ok (.iaload, 1) := by decide +kernel
theorem dL_law_914 : decode cL_law 914 = .ok (.aload_n 0, 1) := by decide +kernel
theorem dL_law_915 : decode cL_law 915 = .ok (.iload_n 3, 1) := by decide +kernel
theorem dL_law_916 : decode cL_law 916 = .ok (.iconst 2, 1) := by decide +kernel
theorem dL_law_917 : decode cL_law 917 = .ok (.iadd, 1) := by decide +kernel
theorem dL_law_918 : decode cL_law 918 = .ok (.iaload, 1) := by decide +kernel
theorem dL_law_919 : decode cL_law 919 = .ok (.aload_n 0, 1) := by decide +kernel
theorem dL_law_920 : decode cL_law 920 = .ok (.iload_n 3, 1) := by decide +kernel
theorem dL_law_921 : decode cL_law 921 = .ok (.iconst 3, 1) := by decide +kernel
theorem dL_law_922 : decode cL_law 922 = .ok (.iadd, 1) := by decide +kernel
theorem dL_law_923 : decode cL_law 923 = .ok (.iaload, 1) := by decide +kernel
theorem dL_law_924 : decode cL_law 924 = .ok (.invokevirtual 99, 3) := by decide +kernel
theorem dL_law_927 : decode cL_law 927 = .ok (.aload_n 2, 1) := by decide +kernel
theorem dL_law_928 : decode cL_law 928 = .ok (.aload_n 0, 1) := by decide +kernel
theorem dL_law_929 : decode cL_law 929 = .ok (.iload_n 3, 1) := by decide +kernel
theorem dL_law_930 : decode cL_law 930 = .ok (.iconst 1, 1) := by decide +kernel
theorem dL_law_931 : decode cL_law 931 = .ok (.iadd, 1) := by decide +kernel
theorem dL_law_932 : decode cL_law 932 = .ok (.iaload, 1) := by decide +kernel
theorem dL_law_933 : decode cL_law 933 = .ok (.aload_n 0, 1) := by decide +kernel
theorem dL_law_934 : decode cL_law 934 = .ok (.iload_n 3, 1) := by decide +kernel
theorem dL_law_935 : decode cL_law 935 = .ok (.iconst 2, 1) := by decide +kernel
theorem dL_law_936 : decode cL_law 936 = .ok (.iadd, 1) := by decide +kernel
theorem dL_law_937 : decode cL_law 937 = .ok (.iaload, 1) := by decide +kernel
theorem dL_law_938 : decode cL_law 938 = .ok (.aload_n 0, 1) := by decide +kernel
theorem dL_law_939 : decode cL_law 939 = .ok (.iload_n 3, 1) := by decide +kernel
theorem dL_law_940 : decode cL_law 940 = .ok (.iconst 3, 1) := by decide +kernel
theorem dL_law_941 : decode cL_law 941 = .ok (.iadd, 1) := by decide +kernel
theorem dL_law_942 : decode cL_law 942 = .ok (.iaload, 1) := by decide +kernel
theorem dL_law_943 : decode cL_law 943 = .ok (.invokevirtual 102, 3) := by decide +kernel
theorem dL_law_946 : decode cL_law 946 = .ok (.if_icmp .eq 789, 3) := by decide +kernel
theorem dL_law_949 : decode cL_law 949 = .ok (.iconst 0, 1) := by decide +kernel
theorem dL_law_950 : decode cL_law 950 = .ok (.ireturn, 1) := by decide +kernel
theorem dL_law_951 : decode cL_law 951 = .ok (.aload_n 1, 1) := by decide +kernel
theorem dL_law_952 : decode cL_law 952 = .ok (.aload_n 0, 1) := by decide +kernel
theorem dL_law_953 : decode cL_law 953 = .ok (.iload_n 3, 1) := by decide +kernel
theorem dL_law_954 : decode cL_law 954 = .ok (.iconst 1, 1) := by decide +kernel
theorem dL_law_955 : decode cL_law 955 = .ok (.iadd, 1) := by decide +kernel
theorem dL_law_956 : decode cL_law 956 = .ok (.iaload, 1) := by decide +kernel
theorem dL_law_957 : decode cL_law 957 = .ok (.invokevirtual 103, 3) := by decide +kernel
theorem dL_law_960 : decode cL_law 960 = .ok (.aload_n 2, 1) := by decide +kernel
theorem dL_law_961 : decode cL_law 961 = .ok (.aload_n 0, 1) := by decide +kernel
theorem dL_law_962 : decode cL_law 962 = .ok (.iload_n 3, 1) := by decide +kernel
theorem dL_law_963 : decode cL_law 963 = .ok (.iconst 1, 1) := by decide +kernel
theorem dL_law_964 : decode cL_law 964 = .ok (.iadd, 1) := by decide +kernel
theorem dL_law_965 : decode cL_law 965 = .ok (.iaload, 1) := by decide +kernel
theorem dL_law_966 : decode cL_law 966 = .ok (.invokevirtual 106, 3) := by decide +kernel
theorem dL_law_969 : decode cL_law 969 = .ok (.if_icmp .eq 766, 3) := by decide +kernel
theorem dL_law_972 : decode cL_law 972 = .ok (.iconst 0, 1) := by decide +kernel
theorem dL_law_973 : decode cL_law 973 = .ok (.ireturn, 1) := by decide +kernel
theorem dL_law_974 : decode cL_law 974 = .ok (.aload_n 1, 1) := by decide +kernel
theorem dL_law_975 : decode cL_law 975 = .ok (.aload_n 0, 1) := by decide +kernel
theorem dL_law_976 : decode cL_law 976 = .ok (.iload_n 3, 1) := by decide +kernel
theorem dL_law_977 : decode cL_law 977 = .ok (.iconst 1, 1) := by decide +kernel
theorem dL_law_978 : decode cL_law 978 = .ok (.iadd, 1) := by decide +kernel
theorem dL_law_979 : decode cL_law 979 = .ok (.iaload, 1) := by decide +kernel
theorem dL_law_980 : decode cL_law 980 = .ok (.aload_n 0, 1) := by decide +kernel
theorem dL_law_981 : decode cL_law 981 = .ok (.iload_n 3, 1) := by decide +kernel
theorem dL_law_982 : decode cL_law 982 = .ok (.iconst 2, 1) := by decide +kernel
theorem dL_law_983 : decode cL_law 983 = .ok (.iadd, 1) := by decide +kernel
theorem dL_law_984 : decode cL_law 984 = .ok (.iaload, 1) := by decide +kernel
theorem dL_law_985 : decode cL_law 985 = .ok (.aload_n 0, 1) := by decide +kernel
theorem dL_law_986 : decode cL_law 986 = .ok (.iload_n 3, 1) := by decide +kernel
theorem dL_law_987 : decode cL_law 987 = .ok (.iconst 3, 1) := by decide +kernel
theorem dL_law_988 : decode cL_law 988 = .ok (.iadd, 1) := by decide +kernel
theorem dL_law_989 : decode cL_law 989 = .ok (.iaload, 1) := by decide +kernel
theorem dL_law_990 : decode cL_law 990 = .ok (.invokevirtual 107, 3) := by decide +kernel
theorem dL_law_993 : decode cL_law 993 = .ok (.aload_n 2, 1) := by decide +kernel
theorem dL_law_994 : decode cL_law 994 = .ok (.aload_n 0, 1) := by decide +kernel
theorem dL_law_995 : decode cL_law 995 = .ok (.iload_n 3, 1) := by decide +kernel
theorem dL_law_996 : decode cL_law 996 = .ok (.iconst 1, 1) := by decide +kernel
theorem dL_law_997 : decode cL_law 997 = .ok (.iadd, 1) := by decide +kernel
theorem dL_law_998 : decode cL_law 998 = .ok (.iaload, 1) := by decide +kernel
theorem dL_law_999 : decode cL_law 999 = .ok (.aload_n 0, 1) := by decide +kernel
theorem dL_law_1000 : decode cL_law 1000 = .ok (.iload_n 3, 1) := by decide +kernel
theorem dL_law_1001 : decode cL_law 1001 = .ok (.iconst 2, 1) := by decide +kernel
theorem dL_law_1002 : decode cL_law 1002 = .ok (.iadd, 1) := by decide +kernel
theorem dL_law_1003 : decode cL_law 1003 = .ok (.iaload, 1) := by decide +kernel
theorem dL_law_1004 : decode cL_law 1004 = .ok (.aload_n 0, 1) := by decide +kernel
theorem dL_law_1005 : decode cL_law 1005 = .ok (.iload_n 3, 1) := by decide +kernel
theorem dL_law_1006 : decode cL_law 1006 = .ok (.iconst 3, 1) := by decide +kernel
theorem dL_law_1007 : decode cL_law 1007 = .ok (.iadd, 1) := by decide +kernel
theorem dL_law_1008 : decode cL_law 1008 = .ok (.iaload, 1) := by decide +kernel
theorem dL_law_1009 : decode cL_law 1009 = .ok (.invokevirtual 110, 3) := by decide +kernel
theorem dL_law_1012 : decode cL_law 1012 = .ok (.if_icmp .eq 723, 3) := by decide +kernel
theorem dL_law_1015 : decode cL_law 1015 = .ok (.iconst 0, 1) := by decide +kernel
theorem dL_law_1016 : decode cL_law 1016 = .ok (.ireturn, 1) := by decide +kernel
theorem dL_law_1017 : decode cL_law 1017 = .ok (.aload_n 1, 1) := by decide +kernel
theorem dL_law_1018 : decode cL_law 1018 = .ok (.aload_n 0, 1) := by decide +kernel
theorem dL_law_1019 : decode cL_law 1019 = .ok (.iload_n 3, 1) := by decide +kernel
theorem dL_law_1020 : decode cL_law 1020 = .ok (.iconst 1, 1) := by decide +kernel
theorem dL_law_1021 : decode cL_law 1021 = .ok (.iadd, 1) := by decide +kernel
theorem dL_law_1022 : decode cL_law 1022 = .ok (.iaload, 1) := by decide +kernel
theorem dL_law_1023 : decode cL_law 1023 = .ok (.aload_n 0, 1) := by decide +kernel
theorem dL_law_1024 : decode cL_law 1024 = .ok (.iload_n 3, 1) := by decide +kernel
theorem dL_law_1025 : decode cL_law 1025 = .ok (.iconst 2, 1) := by decide +kernel
theorem dL_law_1026 : decode cL_law 1026 = .ok (.iadd, 1) := by decide +kernel
theorem dL_law_1027 : decode cL_law 1027 = .ok (.iaload, 1) := by decide +kernel
theorem dL_law_1028 : decode cL_law 1028 = .ok (.invokevirtual 111, 3) := by decide +kernel
theorem dL_law_1031 : decode cL_law 1031 = .ok (.aload_n 2, 1) := by decide +kernel
theorem dL_law_1032 : decode cL_law 1032 = .ok (.aload_n 0, 1) := by decide +kernel
theorem dL_law_1033 : decode cL_law 1033 = .ok (.iload_n 3, 1) := by decide +kernel
theorem dL_law_1034 : decode cL_law 1034 = .ok (.iconst 1, 1) := by decide +kernel
theorem dL_law_1035 : decode cL_law 1035 = .ok (.iadd, 1) := by decide +kernel
theorem dL_law_1036 : decode cL_law 1036 = .ok (.iaload, 1) := by decide +kernel
theorem dL_law_1037 : decode cL_law 1037 = .ok (.aload_n 0, 1) := by decide +kernel
theorem dL_law_1038 : decode cL_law 1038 = .ok (.iload_n 3, 1) := by decide +kernel
theorem dL_law_1039 : decode cL_law 1039 = .ok (.iconst 2, 1) := by decide +kernel
theorem dL_law_1040 : decode cL_law 1040 = .ok (.iadd, 1) := by decide +kernel
theorem dL_law_1041 : decode cL_law 1041 = .ok (.iaload, 1) := by decide +kernel
theorem dL_law_1042 : decode cL_law 1042 = .ok (.invokevirtual 114, 3) := by decide +kernel
theorem dL_law_1045 : decode cL_law 1045 = .ok (.if_icmp .eq 690, 3) := by decide +kernel
theorem dL_law_1048 : decode cL_law 1048 = .ok (.iconst 0, 1) := by decide +kernel
theorem dL_law_1049 : decode cL_law 1049 = .ok (.ireturn, 1) := by decide +kernel
theorem dL_law_1050 : decode cL_law 1050 = .ok (.aload_n 1, 1) := by decide +kernel
theorem dL_law_1051 : decode cL_law 1051 = .ok (.aload_n 0, 1) := by decide +kernel
theorem dL_law_1052 : decode cL_law 1052 = .ok (.iload_n 3, 1) := by decide +kernel
theorem dL_law_1053 : decode cL_law 1053 = .ok (.iconst 1, 1) := by decide +kernel
theorem dL_law_1054 : decode cL_law 1054 = .ok (.iadd, 1) := by decide +kernel
theorem dL_law_1055 : decode cL_law 1055 = .ok (.iaload, 1) := by decide +kernel
theorem dL_law_1056 : decode cL_law 1056 = .ok (.invokevirtual 115, 3) := by decide +kernel
theorem dL_law_1059 : decode cL_law 1059 = .ok (.aload_n 2, 1) := by decide +kernel
theorem dL_law_1060 : decode cL_law 1060 = .ok (.aload_n 0, 1) := by decide +kernel
theorem dL_law_1061 : decode cL_law 1061 = .ok (.iload_n 3, 1) := by decide +kernel
theorem dL_law_1062 : decode cL_law 1062 = .ok (.iconst 1, 1) := by decide +kernel
theorem dL_law_1063 : decode cL_law 1063 = .ok (.iadd, 1) := by decide +kernel
theorem dL_law_1064 : decode cL_law 1064 = .ok (.iaload, 1) := by decide +kernel
theorem dL_law_1065 : decode cL_law 1065 = .ok (.invokevirtual 118, 3) := by decide +kernel
theorem dL_law_1068 : decode cL_law 1068 = .ok (.if_icmp .eq 667, 3) := by decide +kernel
theorem dL_law_1071 : decode cL_law 1071 = .ok (.iconst 0, 1) := by decide +kernel
theorem dL_law_1072 : decode cL_law 1072 = .ok (.ireturn, 1) := by decide +kernel
theorem dL_law_1073 : decode cL_law 1073 = .ok (.aload_n 1, 1) := by decide +kernel
theorem dL_law_1074 : decode cL_law 1074 = .ok (.aload_n 0, 1) := by decide +kernel
theorem dL_law_1075 : decode cL_law 1075 = .ok (.iload_n 3, 1) := by decide +kernel
theorem dL_law_1076 : decode cL_law 1076 = .ok (.iconst 1, 1) := by decide +kernel
theorem dL_law_1077 : decode cL_law 1077 = .ok (.iadd, 1) := by decide +kernel
theorem dL_law_1078 : decode cL_law 1078 = .ok (.iaload, 1) := by decide +kernel
theorem dL_law_1079 : decode cL_law 1079 = .ok (.aload_n 0, 1) := by decide +kernel
theorem dL_law_1080 : decode cL_law 1080 = .ok (.iload_n 3, 1) := by decide +kernel
theorem dL_law_1081 : decode cL_law 1081 = .ok (.iconst 2, 1) := by decide +kernel
theorem dL_law_1082 : decode cL_law 1082 = .ok (.iadd, 1) := by decide +kernel
theorem dL_law_1083 : decode cL_law 1083 = .ok (.iaload, 1) := by decide +kernel
theorem dL_law_1084 : decode cL_law 1084 = .ok (.aload_n 0, 1) := by decide +kernel
theorem dL_law_1085 : decode cL_law 1085 = .ok (.iload_n 3, 1) := by decide +kernel
theorem dL_law_1086 : decode cL_law 1086 = .ok (.iconst 3, 1) := by decide +kernel
theorem dL_law_1087 : decode cL_law 1087 = .ok (.iadd, 1) := by decide +kernel
theorem dL_law_1088 : decode cL_law 1088 = .ok (.iaload, 1) := by decide +kernel
theorem dL_law_1089 : decode cL_law 1089 = .ok (.aload_n 0, 1) := by decide +kernel
theorem dL_law_1090 : decode cL_law 1090 = .ok (.iload_n 3, 1) := by decide +kernel
theorem dL_law_1091 : decode cL_law 1091 = .ok (.iconst 4, 1) := by decide +kernel
theorem dL_law_1092 : decode cL_law 1092 = .ok (.iadd, 1) := by decide +kernel
theorem dL_law_1093 : decode cL_law 1093 = .ok (.iaload, 1) := by decide +kernel
theorem dL_law_1094 : decode cL_law 1094 = .ok (.invokevirtual 119, 3) := by decide +kernel
theorem dL_law_1097 : decode cL_law 1097 = .ok (.aload_n 2, 1) := by decide +kernel
theorem dL_law_1098 : decode cL_law 1098 = .ok (.aload_n 0, 1) := by decide +kernel
theorem dL_law_1099 : decode cL_law 1099 = .ok (.iload_n 3, 1) := by decide +kernel
theorem dL_law_1100 : decode cL_law 1100 = .ok (.iconst 1, 1) := by decide +kernel
theorem dL_law_1101 : decode cL_law 1101 = .ok (.iadd, 1) := by decide +kernel
theorem dL_law_1102 : decode cL_law 1102 = .ok (.iaload, 1) := by decide +kernel
theorem dL_law_1103 : decode cL_law 1103 = .ok (.aload_n 0, 1) := by decide +kernel
theorem dL_law_1104 : decode cL_law 1104 = .ok (.iload_n 3, 1) := by decide +kernel
theorem dL_law_1105 : decode cL_law 1105 = .ok (.iconst 2, 1) := by decide +kernel
theorem dL_law_1106 : decode cL_law 1106 = .ok (.iadd, 1) := by decide +kernel
theorem dL_law_1107 : decode cL_law 1107 = .ok (.iaload, 1) := by decide +kernel
theorem dL_law_1108 : decode cL_law 1108 = .ok (.aload_n 0, 1) := by decide +kernel
theorem dL_law_1109 : decode cL_law 1109 = .ok (.iload_n 3, 1) := by decide +kernel
theorem dL_law_1110 : decode cL_law 1110 = .ok (.iconst 3, 1) := by decide +kernel
theorem dL_law_1111 : decode cL_law 1111 = .ok (.iadd, 1) := by decide +kernel
theorem dL_law_1112 : decode cL_law 1112 = .ok (.iaload, 1) := by decide +kernel
theorem dL_law_1113 : decode cL_law 1113 = .ok (.aload_n 0, 1) := by decide +kernel
theorem dL_law_1114 : decode cL_law 1114 = .ok (.iload_n 3, 1) := by decide +kernel
theorem dL_law_1115 : decode cL_law 1115 = .ok (.iconst 4, 1) := by decide +kernel
theorem dL_law_1116 : decode cL_law 1116 = .ok (.iadd, 1) := by decide +kernel
theorem dL_law_1117 : decode cL_law 1117 = .ok (.iaload, 1) := by decide +kernel
theorem dL_law_1118 : decode cL_law 1118 = .ok (.invokevirtual 122, 3) := by decide +kernel
theorem dL_law_1121 : decode cL_law 1121 = .ok (.if_icmp .eq 614, 3) := by decide +kernel
theorem dL_law_1124 : decode cL_law 1124 = .ok (.iconst 0, 1) := by decide +kernel
theorem dL_law_1125 : decode cL_law 1125 = .ok (.ireturn, 1) := by decide +kernel
theorem dL_law_1126 : decode cL_law 1126 = .ok (.aload_n 1, 1) := by decide +kernel
theorem dL_law_1127 : decode cL_law 1127 = .ok (.aload_n 0, 1) := by decide +kernel
theorem dL_law_1128 : decode cL_law 1128 = .ok (.iload_n 3, 1) := by decide +kernel
theorem dL_law_1129 : decode cL_law 1129 = .ok (.iconst 1, 1) := by decide +kernel
theorem dL_law_1130 : decode cL_law 1130 = .ok (.iadd, 1) := by decide +kernel
theorem dL_law_1131 : decode cL_law 1131 = .ok (.iaload, 1) := by decide +kernel
theorem dL_law_1132 : decode cL_law 1132 = .ok (.invokevirtual 123, 3) := by decide +kernel
theorem dL_law_1135 : decode cL_law 1135 = .ok (.aload_n 2, 1) := by decide +kernel
theorem dL_law_1136 : decode cL_law 1136 = .ok (.aload_n 0, 1) := by decide +kernel
theorem dL_law_1137 : decode cL_law 1137 = .ok (.iload_n 3, 1) := by decide +kernel
theorem dL_law_1138 : decode cL_law 1138 = .ok (.iconst 1, 1) := by decide +kernel
theorem dL_law_1139 : decode cL_law 1139 = .ok (.iadd, 1) := by decide +kernel
theorem dL_law_1140 : decode cL_law 1140 = .ok (.iaload, 1) := by decide +kernel
theorem dL_law_1141 : decode cL_law 1141 = .ok (.invokevirtual 126, 3) := by decide +kernel
theorem dL_law_1144 : decode cL_law 1144 = .ok (.if_icmp .eq 591, 3) := by decide +kernel
theorem dL_law_1147 : decode cL_law 1147 = .ok (.iconst 0, 1) := by decide +kernel
theorem dL_law_1148 : decode cL_law 1148 = .ok (.ireturn, 1) := by decide +kernel
theorem dL_law_1149 : decode cL_law 1149 = .ok (.aload_n 1, 1) := by decide +kernel
theorem dL_law_1150 : decode cL_law 1150 = .ok (.aload_n 0, 1) := by decide +kernel
theorem dL_law_1151 : decode cL_law 1151 = .ok (.iload_n 3, 1) := by decide +kernel
theorem dL_law_1152 : decode cL_law 1152 = .ok (.iconst 1, 1) := by decide +kernel
theorem dL_law_1153 : decode cL_law 1153 = .ok (.iadd, 1) := by decide +kernel
theorem dL_law_1154 : decode cL_law 1154 = .ok (.iaload, 1) := by decide +kernel
theorem dL_law_1155 : decode cL_law 1155 = .ok (.aload_n 0, 1) := by decide +kernel
theorem dL_law_1156 : decode cL_law 1156 = .ok (.iload_n 3, 1) := by decide +kernel
theorem dL_law_1157 : decode cL_law 1157 = .ok (.iconst 2, 1) := by decide +kernel
theorem dL_law_1158 : decode cL_law 1158 = .ok (.iadd, 1) := by decide +kernel
theorem dL_law_1159 : decode cL_law 1159 = .ok (.iaload, 1) := by decide +kernel
theorem dL_law_1160 : decode cL_law 1160 = .ok (.aload_n 0, 1) := by decide +kernel
theorem dL_law_1161 : decode cL_law 1161 = .ok (.iload_n 3, 1) := by decide +kernel
theorem dL_law_1162 : decode cL_law 1162 = .ok (.iconst 3, 1) := by decide +kernel
theorem dL_law_1163 : decode cL_law 1163 = .ok (.iadd, 1) := by decide +kernel
theorem dL_law_1164 : decode cL_law 1164 = .ok (.iaload, 1) := by decide +kernel
theorem dL_law_1165 : decode cL_law 1165 = .ok (.invokevirtual 127, 3) := by decide +kernel
theorem dL_law_1168 : decode cL_law 1168 = .ok (.aload_n 2, 1) := by decide +kernel
theorem dL_law_1169 : decode cL_law 1169 = .ok (.aload_n 0, 1) := by decide +kernel
theorem dL_law_1170 : decode cL_law 1170 = .ok (.iload_n 3, 1) := by decide +kernel
theorem dL_law_1171 : decode cL_law 1171 = .ok (.iconst 1, 1) := by decide +kernel
theorem dL_law_1172 : decode cL_law 1172 = .ok (.iadd, 1) := by decide +kernel
theorem dL_law_1173 : decode cL_law 1173 = .ok (.iaload, 1) := by decide +kernel
theorem dL_law_1174 : decode cL_law 1174 = .ok (.aload_n 0, 1) := by decide +kernel
theorem dL_law_1175 : decode cL_law 1175 = .ok (.iload_n 3, 1) := by decide +kernel
theorem dL_law_1176 : decode cL_law 1176 = .ok (.iconst 2, 1) := by decide +kernel
theorem dL_law_1177 : decode cL_law 1177 = .ok (.iadd, 1) := by decide +kernel
theorem dL_law_1178 : decode cL_law 1178 = .ok (.iaload, 1) := by decide +kernel
theorem dL_law_1179 : decode cL_law 1179 = .ok (.aload_n 0, 1) := by decide +kernel
theorem dL_law_1180 : decode cL_law 1180 = .ok (.iload_n 3, 1) := by decide +kernel
theorem dL_law_1181 : decode cL_law 1181 = .ok (.iconst 3, 1) := by decide +kernel
theorem dL_law_1182 : decode cL_law 1182 = .ok (.iadd, 1) := by decide +kernel
theorem dL_law_1183 : decode cL_law 1183 = .ok (.iaload, 1) := by decide +kernel
theorem dL_law_1184 : decode cL_law 1184 = .ok (.invokevirtual 130, 3) := by decide +kernel
theorem dL_law_1187 : decode cL_law 1187 = .ok (.if_icmp .eq 548, 3) := by decide +kernel
theorem dL_law_1190 : decode cL_law 1190 = .ok (.iconst 0, 1) := by decide +kernel
theorem dL_law_1191 : decode cL_law 1191 = .ok (.ireturn, 1) := by decide +kernel
theorem dL_law_1192 : decode cL_law 1192 = .ok (.aload_n 1, 1) := by decide +kernel
theorem dL_law_1193 : decode cL_law 1193 = .ok (.aload_n 0, 1) := by decide +kernel
theorem dL_law_1194 : decode cL_law 1194 = .ok (.iload_n 3, 1) := by decide +kernel
theorem dL_law_1195 : decode cL_law 1195 = .ok (.iconst 1, 1) := by decide +kernel
theorem dL_law_1196 : decode cL_law 1196 = .ok (.iadd, 1) := by decide +kernel
theorem dL_law_1197 : decode cL_law 1197 = .ok (.iaload, 1) := by decide +kernel
theorem dL_law_1198 : decode cL_law 1198 = .ok (.aload_n 0, 1) := by decide +kernel
theorem dL_law_1199 : decode cL_law 1199 = .ok (.iload_n 3, 1) := by decide +kernel
theorem dL_law_1200 : decode cL_law 1200 = .ok (.iconst 2, 1) := by decide +kernel
theorem dL_law_1201 : decode cL_law 1201 = .ok (.iadd, 1) := by decide +kernel
theorem dL_law_1202 : decode cL_law 1202 = .ok (.iaload, 1) := by decide +kernel
theorem dL_law_1203 : decode cL_law 1203 = .ok (.aload_n 0, 1) := by decide +kernel
theorem dL_law_1204 : decode cL_law 1204 = .ok (.iload_n 3, 1) := by decide +kernel
theorem dL_law_1205 : decode cL_law 1205 = .ok (.iconst 3, 1) := by decide +kernel
theorem dL_law_1206 : decode cL_law 1206 = .ok (.iadd, 1) := by decide +kernel
theorem dL_law_1207 : decode cL_law 1207 = .ok (.iaload, 1) := by decide +kernel
theorem dL_law_1208 : decode cL_law 1208 = .ok (.invokevirtual 131, 3) := by decide +kernel
theorem dL_law_1211 : decode cL_law 1211 = .ok (.aload_n 2, 1) := by decide +kernel
theorem dL_law_1212 : decode cL_law 1212 = .ok (.aload_n 0, 1) := by decide +kernel
theorem dL_law_1213 : decode cL_law 1213 = .ok (.iload_n 3, 1) := by decide +kernel
theorem dL_law_1214 : decode cL_law 1214 = .ok (.iconst 1, 1) := by decide +kernel
theorem dL_law_1215 : decode cL_law 1215 = .ok (.iadd, 1) := by decide +kernel
theorem dL_law_1216 : decode cL_law 1216 = .ok (.iaload, 1) := by decide +kernel
theorem dL_law_1217 : decode cL_law 1217 = .ok (.aload_n 0, 1) := by decide +kernel
theorem dL_law_1218 : decode cL_law 1218 = .ok (.iload_n 3, 1) := by decide +kernel
theorem dL_law_1219 : decode cL_law 1219 = .ok (.iconst 2, 1) := by decide +kernel
theorem dL_law_1220 : decode cL_law 1220 = .ok (.iadd, 1) := by decide +kernel
theorem dL_law_1221 : decode cL_law 1221 = .ok (.iaload, 1) := by decide +kernel
theorem dL_law_1222 : decode cL_law 1222 = .ok (.aload_n 0, 1) := by decide +kernel
theorem dL_law_1223 : decode cL_law 1223 = .ok (.iload_n 3, 1) := by decide +kernel
theorem dL_law_1224 : decode cL_law 1224 = .ok (.iconst 3, 1) := by decide +kernel
theorem dL_law_1225 : decode cL_law 1225 = .ok (.iadd, 1) := by decide +kernel
theorem dL_law_1226 : decode cL_law 1226 = .ok (.iaload, 1) := by decide +kernel
theorem dL_law_1227 : decode cL_law 1227 = .ok (.invokevirtual 134, 3) := by decide +kernel
theorem dL_law_1230 : decode cL_law 1230 = .ok (.if_icmp .eq 505, 3) := by decide +kernel
theorem dL_law_1233 : decode cL_law 1233 = .ok (.iconst 0, 1) := by decide +kernel
theorem dL_law_1234 : decode cL_law 1234 = .ok (.ireturn, 1) := by decide +kernel
theorem dL_law_1235 : decode cL_law 1235 = .ok (.aload_n 1, 1) := by decide +kernel
theorem dL_law_1236 : decode cL_law 1236 = .ok (.aload_n 0, 1) := by decide +kernel
theorem dL_law_1237 : decode cL_law 1237 = .ok (.iload_n 3, 1) := by decide +kernel
theorem dL_law_1238 : decode cL_law 1238 = .ok (.iconst 1, 1) := by decide +kernel
theorem dL_law_1239 : decode cL_law 1239 = .ok (.iadd, 1) := by decide +kernel
theorem dL_law_1240 : decode cL_law 1240 = .ok (.iaload, 1) := by decide +kernel
theorem dL_law_1241 : decode cL_law 1241 = .ok (.aload_n 0, 1) := by decide +kernel
theorem dL_law_1242 : decode cL_law 1242 = .ok (.iload_n 3, 1) := by decide +kernel
theorem dL_law_1243 : decode cL_law 1243 = .ok (.iconst 2, 1) := by decide +kernel
theorem dL_law_1244 : decode cL_law 1244 = .ok (.iadd, 1) := by decide +kernel
theorem dL_law_1245 : decode cL_law 1245 = .ok (.iaload, 1) := by decide +kernel
theorem dL_law_1246 : decode cL_law 1246 = .ok (.invokevirtual 135, 3) := by decide +kernel
theorem dL_law_1249 : decode cL_law 1249 = .ok (.aload_n 2, 1) := by decide +kernel
theorem dL_law_1250 : decode cL_law 1250 = .ok (.aload_n 0, 1) := by decide +kernel
theorem dL_law_1251 : decode cL_law 1251 = .ok (.iload_n 3, 1) := by decide +kernel
theorem dL_law_1252 : decode cL_law 1252 = .ok (.iconst 1, 1) := by decide +kernel
theorem dL_law_1253 : decode cL_law 1253 = .ok (.iadd, 1) := by decide +kernel
theorem dL_law_1254 : decode cL_law 1254 = .ok (.iaload, 1) := by decide +kernel
theorem dL_law_1255 : decode cL_law 1255 = .ok (.aload_n 0, 1) := by decide +kernel
theorem dL_law_1256 : decode cL_law 1256 = .ok (.iload_n 3, 1) := by decide +kernel
theorem dL_law_1257 : decode cL_law 1257 = .ok (.iconst 2, 1) := by decide +kernel
theorem dL_law_1258 : decode cL_law 1258 = .ok (.iadd, 1) := by decide +kernel
theorem dL_law_1259 : decode cL_law 1259 = .ok (.iaload, 1) := by decide +kernel
theorem dL_law_1260 : decode cL_law 1260 = .ok (.invokevirtual 138, 3) := by decide +kernel
theorem dL_law_1263 : decode cL_law 1263 = .ok (.if_icmp .eq 472, 3) := by decide +kernel
theorem dL_law_1266 : decode cL_law 1266 = .ok (.iconst 0, 1) := by decide +kernel
theorem dL_law_1267 : decode cL_law 1267 = .ok (.ireturn, 1) := by decide +kernel
theorem dL_law_1268 : decode cL_law 1268 = .ok (.aload_n 1, 1) := by decide +kernel
theorem dL_law_1269 : decode cL_law 1269 = .ok (.invokevirtual 139, 3) := by decide +kernel
theorem dL_law_1272 : decode cL_law 1272 = .ok (.aload_n 2, 1) := by decide +kernel
theorem dL_law_1273 : decode cL_law 1273 = .ok (.invokevirtual 142, 3) := by decide +kernel
theorem dL_law_1276 : decode cL_law 1276 = .ok (.if_icmp .eq 459, 3) := by decide +kernel
theorem dL_law_1279 : decode cL_law 1279 = .ok (.iconst 0, 1) := by decide +kernel
theorem dL_law_1280 : decode cL_law 1280 = .ok (.ireturn, 1) := by decide +kernel
theorem dL_law_1281 : decode cL_law 1281 = .ok (.aload_n 1, 1) := by decide +kernel
theorem dL_law_1282 : decode cL_law 1282 = .ok (.aload_n 0, 1) := by decide +kernel
theorem dL_law_1283 : decode cL_law 1283 = .ok (.iload_n 3, 1) := by decide +kernel
theorem dL_law_1284 : decode cL_law 1284 = .ok (.iconst 1, 1) := by decide +kernel
theorem dL_law_1285 : decode cL_law 1285 = .ok (.iadd, 1) := by decide +kernel
theorem dL_law_1286 : decode cL_law 1286 = .ok (.iaload, 1) := by decide +kernel
theorem dL_law_1287 : decode cL_law 1287 = .ok (.invokevirtual 143, 3) := by decide +kernel
theorem dL_law_1290 : decode cL_law 1290 = .ok (.aload_n 2, 1) := by decide +kernel
theorem dL_law_1291 : decode cL_law 1291 = .ok (.aload_n 0, 1) := by decide +kernel
theorem dL_law_1292 : decode cL_law 1292 = .ok (.iload_n 3, 1) := by decide +kernel
theorem dL_law_1293 : decode cL_law 1293 = .ok (.iconst 1, 1) := by decide +kernel
theorem dL_law_1294 : decode cL_law 1294 = .ok (.iadd, 1) := by decide +kernel
theorem dL_law_1295 : decode cL_law 1295 = .ok (.iaload, 1) := by decide +kernel
theorem dL_law_1296 : decode cL_law 1296 = .ok (.invokevirtual 146, 3) := by decide +kernel
theorem dL_law_1299 : decode cL_law 1299 = .ok (.if_icmp .eq 436, 3) := by decide +kernel
theorem dL_law_1302 : decode cL_law 1302 = .ok (.iconst 0, 1) := by decide +kernel
theorem dL_law_1303 : decode cL_law 1303 = .ok (.ireturn, 1) := by decide +kernel
theorem dL_law_1304 : decode cL_law 1304 = .ok (.aload_n 1, 1) := by decide +kernel
theorem dL_law_1305 : decode cL_law 1305 = .ok (.aload_n 0, 1) := by decide +kernel
theorem dL_law_1306 : decode cL_law 1306 = .ok (.iload_n 3, 1) := by decide +kernel
theorem dL_law_1307 : decode cL_law 1307 = .ok (.iconst 1, 1) := by decide +kernel
theorem dL_law_1308 : decode cL_law 1308 = .ok (.iadd, 1) := by decide +kernel
theorem dL_law_1309 : decode cL_law 1309 = .ok (.iaload, 1) := by decide +kernel
theorem dL_law_1310 : decode cL_law 1310 = .ok (.aload_n 0, 1) := by decide +kernel
theorem dL_law_1311 : decode cL_law 1311 = .ok (.iload_n 3, 1) := by decide +kernel
theorem dL_law_1312 : decode cL_law 1312 = .ok (.iconst 2, 1) := by decide +kernel
theorem dL_law_1313 : decode cL_law 1313 = .ok (.iadd, 1) := by decide +kernel
theorem dL_law_1314 : decode cL_law 1314 = .ok (.iaload, 1) := by decide +kernel
theorem dL_law_1315 : decode cL_law 1315 = .ok (.aload_n 0, 1) := by decide +kernel
theorem dL_law_1316 : decode cL_law 1316 = .ok (.iload_n 3, 1) := by decide +kernel
theorem dL_law_1317 : decode cL_law 1317 = .ok (.iconst 3, 1) := by decide +kernel
theorem dL_law_1318 : decode cL_law 1318 = .ok (.iadd, 1) := by decide +kernel
theorem dL_law_1319 : decode cL_law 1319 = .ok (.iaload, 1) := by decide +kernel
theorem dL_law_1320 : decode cL_law 1320 = .ok (.invokevirtual 147, 3) := by decide +kernel
theorem dL_law_1323 : decode cL_law 1323 = .ok (.aload_n 2, 1) := by decide +kernel
theorem dL_law_1324 : decode cL_law 1324 = .ok (.aload_n 0, 1) := by decide +kernel
theorem dL_law_1325 : decode cL_law 1325 = .ok (.iload_n 3, 1) := by decide +kernel
theorem dL_law_1326 : decode cL_law 1326 = .ok (.iconst 1, 1) := by decide +kernel
theorem dL_law_1327 : decode cL_law 1327 = .ok (.iadd, 1) := by decide +kernel
theorem dL_law_1328 : decode cL_law 1328 = .ok (.iaload, 1) := by decide +kernel
theorem dL_law_1329 : decode cL_law 1329 = .ok (.aload_n 0, 1) := by decide +kernel
theorem dL_law_1330 : decode cL_law 1330 = .ok (.iload_n 3, 1) := by decide +kernel
theorem dL_law_1331 : decode cL_law 1331 = .ok (.iconst 2, 1) := by decide +kernel
theorem dL_law_1332 : decode cL_law 1332 = .ok (.iadd, 1) := by decide +kernel
theorem dL_law_1333 : decode cL_law 1333 = .ok (.iaload, 1) := by decide +kernel
theorem dL_law_1334 : decode cL_law 1334 = .ok (.aload_n 0, 1) := by decide +kernel
theorem dL_law_1335 : decode cL_law 1335 = .ok (.iload_n 3, 1) := by decide +kernel
theorem dL_law_1336 : decode cL_law 1336 = .ok (.iconst 3, 1) := by decide +kernel
theorem dL_law_1337 : decode cL_law 1337 = .ok (.iadd, 1) := by decide +kernel
theorem dL_law_1338 : decode cL_law 1338 = .ok (.iaload, 1) := by decide +kernel
theorem dL_law_1339 : decode cL_law 1339 = .ok (.invokevirtual 150, 3) := by decide +kernel
theorem dL_law_1342 : decode cL_law 1342 = .ok (.if_icmp .eq 393, 3) := by decide +kernel
theorem dL_law_1345 : decode cL_law 1345 = .ok (.iconst 0, 1) := by decide +kernel
theorem dL_law_1346 : decode cL_law 1346 = .ok (.ireturn, 1) := by decide +kernel
theorem dL_law_1347 : decode cL_law 1347 = .ok (.aload_n 1, 1) := by decide +kernel
theorem dL_law_1348 : decode cL_law 1348 = .ok (.aload_n 0, 1) := by decide +kernel
theorem dL_law_1349 : decode cL_law 1349 = .ok (.iload_n 3, 1) := by decide +kernel
theorem dL_law_1350 : decode cL_law 1350 = .ok (.iconst 1, 1) := by decide +kernel
theorem dL_law_1351 : decode cL_law 1351 = .ok (.iadd, 1) := by decide +kernel
theorem dL_law_1352 : decode cL_law 1352 = .ok (.iaload, 1) := by decide +kernel
theorem dL_law_1353 : decode cL_law 1353 = .ok (.aload_n 0, 1) := by decide +kernel
theorem dL_law_1354 : decode cL_law 1354 = .ok (.iload_n 3, 1) := by decide +kernel
theorem dL_law_1355 : decode cL_law 1355 = .ok (.iconst 2, 1) := by decide +kernel
theorem dL_law_1356 : decode cL_law 1356 = .ok (.iadd, 1) := by decide +kernel
theorem dL_law_1357 : decode cL_law 1357 = .ok (.iaload, 1) := by decide +kernel
theorem dL_law_1358 : decode cL_law 1358 = .ok (.aload_n 0, 1) := by decide +kernel
theorem dL_law_1359 : decode cL_law 1359 = .ok (.iload_n 3, 1) := by decide +kernel
theorem dL_law_1360 : decode cL_law 1360 = .ok (.iconst 3, 1) := by decide +kernel
theorem dL_law_1361 : decode cL_law 1361 = .ok (.iadd, 1) := by decide +kernel
theorem dL_law_1362 : decode cL_law 1362 = .ok (.iaload, 1) := by decide +kernel
theorem dL_law_1363 : decode cL_law 1363 = .ok (.invokevirtual 151, 3) := by decide +kernel
theorem dL_law_1366 : decode cL_law 1366 = .ok (.aload_n 2, 1) := by decide +kernel
theorem dL_law_1367 : decode cL_law 1367 = .ok (.aload_n 0, 1) := by decide +kernel
theorem dL_law_1368 : decode cL_law 1368 = .ok (.iload_n 3, 1) := by decide +kernel
theorem dL_law_1369 : decode cL_law 1369 = .ok (.iconst 1, 1) := by decide +kernel
theorem dL_law_1370 : decode cL_law 1370 = .ok (.iadd, 1) := by decide +kernel
theorem dL_law_1371 : decode cL_law 1371 = .ok (.iaload, 1) := by decide +kernel
theorem dL_law_1372 : decode cL_law 1372 = .ok (.aload_n 0, 1) := by decide +kernel
theorem dL_law_1373 : decode cL_law 1373 = .ok (.iload_n 3, 1) := by decide +kernel
theorem dL_law_1374 : decode cL_law 1374 = .ok (.iconst 2, 1) := by decide +kernel
theorem dL_law_1375 : decode cL_law 1375 = .ok (.iadd, 1) := by decide +kernel
theorem dL_law_1376 : decode cL_law 1376 = .ok (.iaload, 1) := by decide +kernel
theorem dL_law_1377 : decode cL_law 1377 = .ok (.aload_n 0, 1) := by decide +kernel
theorem dL_law_1378 : decode cL_law 1378 = .ok (.iload_n 3, 1) := by decide +kernel
theorem dL_law_1379 : decode cL_law 1379 = .ok (.iconst 3, 1) := by decide +kernel
theorem dL_law_1380 : decode cL_law 1380 = .ok (.iadd, 1) := by decide +kernel
theorem dL_law_1381 : decode cL_law 1381 = .ok (.iaload, 1) := by decide +kernel
theorem dL_law_1382 : decode cL_law 1382 = .ok (.invokevirtual 154, 3) := by decide +kernel
theorem dL_law_1385 : decode cL_law 1385 = .ok (.if_icmp .eq 350, 3) := by decide +kernel
theorem dL_law_1388 : decode cL_law 1388 = .ok (.iconst 0, 1) := by decide +kernel
theorem dL_law_1389 : decode cL_law 1389 = .ok (.ireturn, 1) := by decide +kernel
theorem dL_law_1390 : decode cL_law 1390 = .ok (.aload_n 1, 1) := by decide +kernel
theorem dL_law_1391 : decode cL_law 1391 = .ok (.invokevirtual 155, 3) := by decide +kernel
theorem dL_law_1394 : decode cL_law 1394 = .ok (.aload_n 2, 1) := by decide +kernel
theorem dL_law_1395 : decode cL_law 1395 = .ok (.invokevirtual 158, 3) := by decide +kernel
theorem dL_law_1398 : decode cL_law 1398 = .ok (.if_icmp .eq 337, 3) := by decide +kernel
theorem dL_law_1401 : decode cL_law 1401 = .ok (.iconst 0, 1) := by decide +kernel
theorem dL_law_1402 : decode cL_law 1402 = .ok (.ireturn, 1) := by decide +kernel
theorem dL_law_1403 : decode cL_law 1403 = .ok (.aload_n 1, 1) := by decide +kernel
theorem dL_law_1404 : decode cL_law 1404 = .ok (.invokevirtual 159, 3) := by decide +kernel
theorem dL_law_1407 : decode cL_law 1407 = .ok (.aload_n 2, 1) := by decide +kernel
theorem dL_law_1408 : decode cL_law 1408 = .ok (.invokevirtual 162, 3) := by decide +kernel
theorem dL_law_1411 : decode cL_law 1411 = .ok (.if_icmp .eq 324, 3) := by decide +kernel
theorem dL_law_1414 : decode cL_law 1414 = .ok (.iconst 0, 1) := by decide +kernel
theorem dL_law_1415 : decode cL_law 1415 = .ok (.ireturn, 1) := by decide +kernel
theorem dL_law_1416 : decode cL_law 1416 = .ok (.aload_n 1, 1) := by decide +kernel
theorem dL_law_1417 : decode cL_law 1417 = .ok (.invokevirtual 163, 3) := by decide +kernel
theorem dL_law_1420 : decode cL_law 1420 = .ok (.aload_n 2, 1) := by decide +kernel
theorem dL_law_1421 : decode cL_law 1421 = .ok (.invokevirtual 166, 3) := by decide +kernel
theorem dL_law_1424 : decode cL_law 1424 = .ok (.if_icmp .eq 311, 3) := by decide +kernel
theorem dL_law_1427 : decode cL_law 1427 = .ok (.iconst 0, 1) := by decide +kernel
theorem dL_law_1428 : decode cL_law 1428 = .ok (.ireturn, 1) := by decide +kernel
theorem dL_law_1429 : decode cL_law 1429 = .ok (.aload_n 1, 1) := by decide +kernel
theorem dL_law_1430 : decode cL_law 1430 = .ok (.aload_n 0, 1) := by decide +kernel
theorem dL_law_1431 : decode cL_law 1431 = .ok (.iload_n 3, 1) := by decide +kernel
theorem dL_law_1432 : decode cL_law 1432 = .ok (.iconst 1, 1) := by decide +kernel
theorem dL_law_1433 : decode cL_law 1433 = .ok (.iadd, 1) := by decide +kernel
theorem dL_law_1434 : decode cL_law 1434 = .ok (.iaload, 1) := by decide +kernel
theorem dL_law_1435 : decode cL_law 1435 = .ok (.invokevirtual 167, 3) := by decide +kernel
theorem dL_law_1438 : decode cL_law 1438 = .ok (.aload_n 2, 1) := by decide +kernel
theorem dL_law_1439 : decode cL_law 1439 = .ok (.aload_n 0, 1) := by decide +kernel
theorem dL_law_1440 : decode cL_law 1440 = .ok (.iload_n 3, 1) := by decide +kernel
theorem dL_law_1441 : decode cL_law 1441 = .ok (.iconst 1, 1) := by decide +kernel
theorem dL_law_1442 : decode cL_law 1442 = .ok (.iadd, 1) := by decide +kernel
theorem dL_law_1443 : decode cL_law 1443 = .ok (.iaload, 1) := by decide +kernel
theorem dL_law_1444 : decode cL_law 1444 = .ok (.invokevirtual 170, 3) := by decide +kernel
theorem dL_law_1447 : decode cL_law 1447 = .ok (.if_icmp .eq 288, 3) := by decide +kernel
theorem dL_law_1450 : decode cL_law 1450 = .ok (.iconst 0, 1) := by decide +kernel
theorem dL_law_1451 : decode cL_law 1451 = .ok (.ireturn, 1) := by decide +kernel
theorem dL_law_1452 : decode cL_law 1452 = .ok (.aload_n 1, 1) := by decide +kernel
theorem dL_law_1453 : decode cL_law 1453 = .ok (.aload_n 0, 1) := by decide +kernel
theorem dL_law_1454 : decode cL_law 1454 = .ok (.iload_n 3, 1) := by decide +kernel
theorem dL_law_1455 : decode cL_law 1455 = .ok (.iconst 1, 1) := by decide +kernel
theorem dL_law_1456 : decode cL_law 1456 = .ok (.iadd, 1) := by decide +kernel
theorem dL_law_1457 : decode cL_law 1457 = .ok (.iaload, 1) := by decide +kernel
theorem dL_law_1458 : decode cL_law 1458 = .ok (.aload_n 0, 1) := by decide +kernel
theorem dL_law_1459 : decode cL_law 1459 = .ok (.iload_n 3, 1) := by decide +kernel
theorem dL_law_1460 : decode cL_law 1460 = .ok (.iconst 2, 1) := by decide +kernel
theorem dL_law_1461 : decode cL_law 1461 = .ok (.iadd, 1) := by decide +kernel
theorem dL_law_1462 : decode cL_law 1462 = .ok (.iaload, 1) := by decide +kernel
theorem dL_law_1463 : decode cL_law 1463 = .ok (.invokevirtual 171, 3) := by decide +kernel
theorem dL_law_1466 : decode cL_law 1466 = .ok (.aload_n 2, 1) := by decide +kernel
theorem dL_law_1467 : decode cL_law 1467 = .ok (.aload_n 0, 1) := by decide +kernel
theorem dL_law_1468 : decode cL_law 1468 = .ok (.iload_n 3, 1) := by decide +kernel
theorem dL_law_1469 : decode cL_law 1469 = .ok (.iconst 1, 1) := by decide +kernel
theorem dL_law_1470 : decode cL_law 1470 = .ok (.iadd, 1) := by decide +kernel
theorem dL_law_1471 : decode cL_law 1471 = .ok (.iaload, 1) := by decide +kernel
theorem dL_law_1472 : decode cL_law 1472 = .ok (.aload_n 0, 1) := by decide +kernel
theorem dL_law_1473 : decode cL_law 1473 = .ok (.iload_n 3, 1) := by decide +kernel
theorem dL_law_1474 : decode cL_law 1474 = .ok (.iconst 2, 1) := by decide +kernel
theorem dL_law_1475 : decode cL_law 1475 = .ok (.iadd, 1) := by decide +kernel
theorem dL_law_1476 : decode cL_law 1476 = .ok (.iaload, 1) := by decide +kernel
theorem dL_law_1477 : decode cL_law 1477 = .ok (.invokevirtual 174, 3) := by decide +kernel
theorem dL_law_1480 : decode cL_law 1480 = .ok (.if_icmp .eq 255, 3) := by decide +kernel
theorem dL_law_1483 : decode cL_law 1483 = .ok (.iconst 0, 1) := by decide +kernel
theorem dL_law_1484 : decode cL_law 1484 = .ok (.ireturn, 1) := by decide +kernel
theorem dL_law_1485 : decode cL_law 1485 = .ok (.aload_n 1, 1) := by decide +kernel
theorem dL_law_1486 : decode cL_law 1486 = .ok (.aload_n 0, 1) := by decide +kernel
theorem dL_law_1487 : decode cL_law 1487 = .ok (.iload_n 3, 1) := by decide +kernel
theorem dL_law_1488 : decode cL_law 1488 = .ok (.iconst 1, 1) := by decide +kernel
theorem dL_law_1489 : decode cL_law 1489 = .ok (.iadd, 1) := by decide +kernel
theorem dL_law_1490 : decode cL_law 1490 = .ok (.iaload, 1) := by decide +kernel
theorem dL_law_1491 : decode cL_law 1491 = .ok (.invokevirtual 175, 3) := by decide +kernel
theorem dL_law_1494 : decode cL_law 1494 = .ok (.aload_n 2, 1) := by decide +kernel
theorem dL_law_1495 : decode cL_law 1495 = .ok (.aload_n 0, 1) := by decide +kernel
theorem dL_law_1496 : decode cL_law 1496 = .ok (.iload_n 3, 1) := by decide +kernel
theorem dL_law_1497 : decode cL_law 1497 = .ok (.iconst 1, 1) := by decide +kernel
theorem dL_law_1498 : decode cL_law 1498 = .ok (.iadd, 1) := by decide +kernel
theorem dL_law_1499 : decode cL_law 1499 = .ok (.iaload, 1) := by decide +kernel
theorem dL_law_1500 : decode cL_law 1500 = .ok (.invokevirtual 178, 3) := by decide +kernel
theorem dL_law_1503 : decode cL_law 1503 = .ok (.if_icmp .eq 232, 3) := by decide +kernel
theorem dL_law_1506 : decode cL_law 1506 = .ok (.iconst 0, 1) := by decide +kernel
theorem dL_law_1507 : decode cL_law 1507 = .ok (.ireturn, 1) := by decide +kernel
theorem dL_law_1508 : decode cL_law 1508 = .ok (.aload_n 1, 1) := by decide +kernel
theorem dL_law_1509 : decode cL_law 1509 = .ok (.aload_n 0, 1) := by decide +kernel
theorem dL_law_1510 : decode cL_law 1510 = .ok (.iload_n 3, 1) := by decide +kernel
theorem dL_law_1511 : decode cL_law 1511 = .ok (.iconst 1, 1) := by decide +kernel
theorem dL_law_1512 : decode cL_law 1512 = .ok (.iadd, 1) := by decide +kernel
theorem dL_law_1513 : decode cL_law 1513 = .ok (.iaload, 1) := by decide +kernel
theorem dL_law_1514 : decode cL_law 1514 = .ok (.aload_n 0, 1) := by decide +kernel
theorem dL_law_1515 : decode cL_law 1515 = .ok (.iload_n 3, 1) := by decide +kernel
theorem dL_law_1516 : decode cL_law 1516 = .ok (.iconst 2, 1) := by decide +kernel
theorem dL_law_1517 : decode cL_law 1517 = .ok (.iadd, 1) := by decide +kernel
theorem dL_law_1518 : decode cL_law 1518 = .ok (.iaload, 1) := by decide +kernel
theorem dL_law_1519 : decode cL_law 1519 = .ok (.invokevirtual 179, 3) := by decide +kernel
theorem dL_law_1522 : decode cL_law 1522 = .ok (.aload_n 2, 1) := by decide +kernel
theorem dL_law_1523 : decode cL_law 1523 = .ok (.aload_n 0, 1) := by decide +kernel
theorem dL_law_1524 : decode cL_law 1524 = .ok (.iload_n 3, 1) := by decide +kernel
theorem dL_law_1525 : decode cL_law 1525 = .ok (.iconst 1, 1) := by decide +kernel
theorem dL_law_1526 : decode cL_law 1526 = .ok (.iadd, 1) := by decide +kernel
theorem dL_law_1527 : decode cL_law 1527 = .ok (.iaload, 1) := by decide +kernel
theorem dL_law_1528 : decode cL_law 1528 = .ok (.aload_n 0, 1) := by decide +kernel
theorem dL_law_1529 : decode cL_law 1529 = .ok (.iload_n 3, 1) := by decide +kernel
theorem dL_law_1530 : decode cL_law 1530 = .ok (.iconst 2, 1) := by decide +kernel
theorem dL_law_1531 : decode cL_law 1531 = .ok (.iadd, 1) := by decide +kernel
theorem dL_law_1532 : decode cL_law 1532 = .ok (.iaload, 1) := by decide +kernel
theorem dL_law_1533 : decode cL_law 1533 = .ok (.invokevirtual 182, 3) := by decide +kernel
theorem dL_law_1536 : decode cL_law 1536 = .ok (.if_icmp .eq 199, 3) := by decide +kernel
theorem dL_law_1539 : decode cL_law 1539 = .ok (.iconst 0, 1) := by decide +kernel
theorem dL_law_1540 : decode cL_law 1540 = .ok (.ireturn, 1) := by decide +kernel
theorem dL_law_1541 : decode cL_law 1541 = .ok (.aload_n 1, 1) := by decide +kernel
theorem dL_law_1542 : decode cL_law 1542 = .ok (.aload_n 0, 1) := by decide +kernel
theorem dL_law_1543 : decode cL_law 1543 = .ok (.iload_n 3, 1) := by decide +kernel
theorem dL_law_1544 : decode cL_law 1544 = .ok (.iconst 1, 1) := by decide +kernel
theorem dL_law_1545 : decode cL_law 1545 = .ok (.iadd, 1) := by decide +kernel
theorem dL_law_1546 : decode cL_law 1546 = .ok (.iaload, 1) := by decide +kernel
theorem dL_law_1547 : decode cL_law 1547 = .ok (.aload_n 0, 1) := by decide +kernel
theorem dL_law_1548 : decode cL_law 1548 = .ok (.iload_n 3, 1) := by decide +kernel
theorem dL_law_1549 : decode cL_law 1549 = .ok (.iconst 2, 1) := by decide +kernel
theorem dL_law_1550 : decode cL_law 1550 = .ok (.iadd, 1) := by decide +kernel
theorem dL_law_1551 : decode cL_law 1551 = .ok (.iaload, 1) := by decide +kernel
theorem dL_law_1552 : decode cL_law 1552 = .ok (.invokevirtual 183, 3) := by decide +kernel
theorem dL_law_1555 : decode cL_law 1555 = .ok (.aload_n 2, 1) := by decide +kernel
theorem dL_law_1556 : decode cL_law 1556 = .ok (.aload_n 0, 1) := by decide +kernel
theorem dL_law_1557 : decode cL_law 1557 = .ok (.iload_n 3, 1) := by decide +kernel
theorem dL_law_1558 : decode cL_law 1558 = .ok (.iconst 1, 1) := by decide +kernel
theorem dL_law_1559 : decode cL_law 1559 = .ok (.iadd, 1) := by decide +kernel
theorem dL_law_1560 : decode cL_law 1560 = .ok (.iaload, 1) := by decide +kernel
theorem dL_law_1561 : decode cL_law 1561 = .ok (.aload_n 0, 1) := by decide +kernel
theorem dL_law_1562 : decode cL_law 1562 = .ok (.iload_n 3, 1) := by decide +kernel
theorem dL_law_1563 : decode cL_law 1563 = .ok (.iconst 2, 1) := by decide +kernel
theorem dL_law_1564 : decode cL_law 1564 = .ok (.iadd, 1) := by decide +kernel
theorem dL_law_1565 : decode cL_law 1565 = .ok (.iaload, 1) := by decide +kernel
theorem dL_law_1566 : decode cL_law 1566 = .ok (.invokevirtual 186, 3) := by decide +kernel
theorem dL_law_1569 : decode cL_law 1569 = .ok (.if_icmp .eq 166, 3) := by decide +kernel
theorem dL_law_1572 : decode cL_law 1572 = .ok (.iconst 0, 1) := by decide +kernel
theorem dL_law_1573 : decode cL_law 1573 = .ok (.ireturn, 1) := by decide +kernel
theorem dL_law_1574 : decode cL_law 1574 = .ok (.aload_n 1, 1) := by decide +kernel
theorem dL_law_1575 : decode cL_law 1575 = .ok (.aload_n 0, 1) := by decide +kernel
theorem dL_law_1576 : decode cL_law 1576 = .ok (.iload_n 3, 1) := by decide +kernel
theorem dL_law_1577 : decode cL_law 1577 = .ok (.iconst 1, 1) := by decide +kernel
theorem dL_law_1578 : decode cL_law 1578 = .ok (.iadd, 1) := by decide +kernel
theorem dL_law_1579 : decode cL_law 1579 = .ok (.iaload, 1) := by decide +kernel
theorem dL_law_1580 : decode cL_law 1580 = .ok (.invokevirtual 187, 3) := by decide +kernel
theorem dL_law_1583 : decode cL_law 1583 = .ok (.aload_n 2, 1) := by decide +kernel
theorem dL_law_1584 : decode cL_law 1584 = .ok (.aload_n 0, 1) := by decide +kernel
theorem dL_law_1585 : decode cL_law 1585 = .ok (.iload_n 3, 1) := by decide +kernel
theorem dL_law_1586 : decode cL_law 1586 = .ok (.iconst 1, 1) := by decide +kernel
theorem dL_law_1587 : decode cL_law 1587 = .ok (.iadd, 1) := by decide +kernel
theorem dL_law_1588 : decode cL_law 1588 = .ok (.iaload, 1) := by decide +kernel
theorem dL_law_1589 : decode cL_law 1589 = .ok (.invokevirtual 190, 3) := by decide +kernel
theorem dL_law_1592 : decode cL_law 1592 = .ok (.if_icmp .eq 143, 3) := by decide +kernel
theorem dL_law_1595 : decode cL_law 1595 = .ok (.iconst 0, 1) := by decide +kernel
theorem dL_law_1596 : decode cL_law 1596 = .ok (.ireturn, 1) := by decide +kernel
theorem dL_law_1597 : decode cL_law 1597 = .ok (.aload_n 1, 1) := by decide +kernel
theorem dL_law_1598 : decode cL_law 1598 = .ok (.aload_n 0, 1) := by decide +kernel
theorem dL_law_1599 : decode cL_law 1599 = .ok (.iload_n 3, 1) := by decide +kernel
theorem dL_law_1600 : decode cL_law 1600 = .ok (.iconst 1, 1) := by decide +kernel
theorem dL_law_1601 : decode cL_law 1601 = .ok (.iadd, 1) := by decide +kernel
theorem dL_law_1602 : decode cL_law 1602 = .ok (.iaload, 1) := by decide +kernel
theorem dL_law_1603 : decode cL_law 1603 = .ok (.invokevirtual 191, 3) := by decide +kernel
theorem dL_law_1606 : decode cL_law 1606 = .ok (.aload_n 2, 1) := by decide +kernel
theorem dL_law_1607 : decode cL_law 1607 = .ok (.aload_n 0, 1) := by decide +kernel
theorem dL_law_1608 : decode cL_law 1608 = .ok (.iload_n 3, 1) := by decide +kernel
theorem dL_law_1609 : decode cL_law 1609 = .ok (.iconst 1, 1) := by decide +kernel
theorem dL_law_1610 : decode cL_law 1610 = .ok (.iadd, 1) := by decide +kernel
theorem dL_law_1611 : decode cL_law 1611 = .ok (.iaload, 1) := by decide +kernel
theorem dL_law_1612 : decode cL_law 1612 = .ok (.invokevirtual 194, 3) := by decide +kernel
theorem dL_law_1615 : decode cL_law 1615 = .ok (.if_icmp .eq 120, 3) := by decide +kernel
theorem dL_law_1618 : decode cL_law 1618 = .ok (.iconst 0, 1) := by decide +kernel
theorem dL_law_1619 : decode cL_law 1619 = .ok (.ireturn, 1) := by decide +kernel
theorem dL_law_1620 : decode cL_law 1620 = .ok (.aload_n 1, 1) := by decide +kernel
theorem dL_law_1621 : decode cL_law 1621 = .ok (.aload_n 0, 1) := by decide +kernel
theorem dL_law_1622 : decode cL_law 1622 = .ok (.iload_n 3, 1) := by decide +kernel
theorem dL_law_1623 : decode cL_law 1623 = .ok (.iconst 1, 1) := by decide +kernel
theorem dL_law_1624 : decode cL_law 1624 = .ok (.iadd, 1) := by decide +kernel
theorem dL_law_1625 : decode cL_law 1625 = .ok (.iaload, 1) := by decide +kernel
theorem dL_law_1626 : decode cL_law 1626 = .ok (.aload_n 0, 1) := by decide +kernel
theorem dL_law_1627 : decode cL_law 1627 = .ok (.iload_n 3, 1) := by decide +kernel
theorem dL_law_1628 : decode cL_law 1628 = .ok (.iconst 2, 1) := by decide +kernel
theorem dL_law_1629 : decode cL_law 1629 = .ok (.iadd, 1) := by decide +kernel
theorem dL_law_1630 : decode cL_law 1630 = .ok (.iaload, 1) := by decide +kernel
theorem dL_law_1631 : decode cL_law 1631 = .ok (.aload_n 0, 1) := by decide +kernel
theorem dL_law_1632 : decode cL_law 1632 = .ok (.iload_n 3, 1) := by decide +kernel
theorem dL_law_1633 : decode cL_law 1633 = .ok (.iconst 3, 1) := by decide +kernel
theorem dL_law_1634 : decode cL_law 1634 = .ok (.iadd, 1) := by decide +kernel
theorem dL_law_1635 : decode cL_law 1635 = .ok (.iaload, 1) := by decide +kernel
theorem dL_law_1636 : decode cL_law 1636 = .ok (.invokevirtual 195, 3) := by decide +kernel
theorem dL_law_1639 : decode cL_law 1639 = .ok (.aload_n 2, 1) := by decide +kernel
theorem dL_law_1640 : decode cL_law 1640 = .ok (.aload_n 0, 1) := by decide +kernel
theorem dL_law_1641 : decode cL_law 1641 = .ok (.iload_n 3, 1) := by decide +kernel
theorem dL_law_1642 : decode cL_law 1642 = .ok (.iconst 1, 1) := by decide +kernel
theorem dL_law_1643 : decode cL_law 1643 = .ok (.iadd, 1) := by decide +kernel
theorem dL_law_1644 : decode cL_law 1644 = .ok (.iaload, 1) := by decide +kernel
theorem dL_law_1645 : decode cL_law 1645 = .ok (.aload_n 0, 1) := by decide +kernel
theorem dL_law_1646 : decode cL_law 1646 = .ok (.iload_n 3, 1) := by decide +kernel
theorem dL_law_1647 : decode cL_law 1647 = .ok (.iconst 2, 1) := by decide +kernel
theorem dL_law_1648 : decode cL_law 1648 = .ok (.iadd, 1) := by decide +kernel
theorem dL_law_1649 : decode cL_law 1649 = .ok (.iaload, 1) := by decide +kernel
theorem dL_law_1650 : decode cL_law 1650 = .ok (.aload_n 0, 1) := by decide +kernel
theorem dL_law_1651 : decode cL_law 1651 = .ok (.iload_n 3, 1) := by decide +kernel
theorem dL_law_1652 : decode cL_law 1652 = .ok (.iconst 3, 1) := by decide +kernel
theorem dL_law_1653 : decode cL_law 1653 = .ok (.iadd, 1) := by decide +kernel
theorem dL_law_1654 : decode cL_law 1654 = .ok (.iaload, 1) := by decide +kernel
theorem dL_law_1655 : decode cL_law 1655 = .ok (.invokevirtual 198, 3) := by decide +kernel
theorem dL_law_1658 : decode cL_law 1658 = .ok (.if_icmp .eq 77, 3) := by decide +kernel
theorem dL_law_1661 : decode cL_law 1661 = .ok (.iconst 0, 1) := by decide +kernel
theorem dL_law_1662 : decode cL_law 1662 = .ok (.ireturn, 1) := by decide +kernel
theorem dL_law_1663 : decode cL_law 1663 = .ok (.aload_n 1, 1) := by decide +kernel
theorem dL_law_1664 : decode cL_law 1664 = .ok (.aload_n 0, 1) := by decide +kernel
theorem dL_law_1665 : decode cL_law 1665 = .ok (.iload_n 3, 1) := by decide +kernel
theorem dL_law_1666 : decode cL_law 1666 = .ok (.iconst 1, 1) := by decide +kernel
theorem dL_law_1667 : decode cL_law 1667 = .ok (.iadd, 1) := by decide +kernel
theorem dL_law_1668 : decode cL_law 1668 = .ok (.iaload, 1) := by decide +kernel
theorem dL_law_1669 : decode cL_law 1669 = .ok (.invokevirtual 199, 3) := by decide +kernel
theorem dL_law_1672 : decode cL_law 1672 = .ok (.aload_n 2, 1) := by decide +kernel
theorem dL_law_1673 : decode cL_law 1673 = .ok (.aload_n 0, 1) := by decide +kernel
theorem dL_law_1674 : decode cL_law 1674 = .ok (.iload_n 3, 1) := by decide +kernel
theorem dL_law_1675 : decode cL_law 1675 = .ok (.iconst 1, 1) := by decide +kernel
theorem dL_law_1676 : decode cL_law 1676 = .ok (.iadd, 1) := by decide +kernel
theorem dL_law_1677 : decode cL_law 1677 = .ok (.iaload, 1) := by decide +kernel
theorem dL_law_1678 : decode cL_law 1678 = .ok (.invokevirtual 202, 3) := by decide +kernel
theorem dL_law_1681 : decode cL_law 1681 = .ok (.if_icmp .eq 54, 3) := by decide +kernel
theorem dL_law_1684 : decode cL_law 1684 = .ok (.iconst 0, 1) := by decide +kernel
theorem dL_law_1685 : decode cL_law 1685 = .ok (.ireturn, 1) := by decide +kernel
theorem dL_law_1686 : decode cL_law 1686 = .ok (.aload_n 1, 1) := by decide +kernel
theorem dL_law_1687 : decode cL_law 1687 = .ok (.invokevirtual 203, 3) := by decide +kernel
theorem dL_law_1690 : decode cL_law 1690 = .ok (.aload_n 2, 1) := by decide +kernel
theorem dL_law_1691 : decode cL_law 1691 = .ok (.invokevirtual 206, 3) := by decide +kernel
theorem dL_law_1694 : decode cL_law 1694 = .ok (.if_icmp .eq 41, 3) := by decide +kernel
theorem dL_law_1697 : decode cL_law 1697 = .ok (.iconst 0, 1) := by decide +kernel
theorem dL_law_1698 : decode cL_law 1698 = .ok (.ireturn, 1) := by decide +kernel
theorem dL_law_1699 : decode cL_law 1699 = .ok (.aload_n 1, 1) := by decide +kernel
theorem dL_law_1700 : decode cL_law 1700 = .ok (.invokevirtual 207, 3) := by decide +kernel
theorem dL_law_1703 : decode cL_law 1703 = .ok (.aload_n 2, 1) := by decide +kernel
theorem dL_law_1704 : decode cL_law 1704 = .ok (.invokevirtual 210, 3) := by decide +kernel
theorem dL_law_1707 : decode cL_law 1707 = .ok (.if_icmp .eq 28, 3) := by decide +kernel
theorem dL_law_1710 : decode cL_law 1710 = .ok (.iconst 0, 1) := by decide +kernel
theorem dL_law_1711 : decode cL_law 1711 = .ok (.ireturn, 1) := by decide +kernel
theorem dL_law_1712 : decode cL_law 1712 = .ok (.aload_n 1, 1) := by decide +kernel
theorem dL_law_1713 : decode cL_law 1713 = .ok (.aload_n 0, 1) := by decide +kernel
theorem dL_law_1714 : decode cL_law 1714 = .ok (.iload_n 3, 1) := by decide +kernel
theorem dL_law_1715 : decode cL_law 1715 = .ok (.iconst 1, 1) := by decide +kernel
theorem dL_law_1716 : decode cL_law 1716 = .ok (.iadd, 1) := by decide +kernel
theorem dL_law_1717 : decode cL_law 1717 = .ok (.iaload, 1) := by decide +kernel
theorem dL_law_1718 : decode cL_law 1718 = .ok (.invokevirtual 211, 3) := by decide +kernel
theorem dL_law_1721 : decode cL_law 1721 = .ok (.aload_n 2, 1) := by decide +kernel
theorem dL_law_1722 : decode cL_law 1722 = .ok (.aload_n 0, 1) := by decide +kernel
theorem dL_law_1723 : decode cL_law 1723 = .ok (.iload_n 3, 1) := by decide +kernel
theorem dL_law_1724 : decode cL_law 1724 = .ok (.iconst 1, 1) := by decide +kernel
theorem dL_law_1725 : decode cL_law 1725 = .ok (.iadd, 1) := by decide +kernel
theorem dL_law_1726 : decode cL_law 1726 = .ok (.iaload, 1) := by decide +kernel
theorem dL_law_1727 : decode cL_law 1727 = .ok (.invokevirtual 214, 3) := by decide +kernel
theorem dL_law_1730 : decode cL_law 1730 = .ok (.if_icmp .eq 5, 3) := by decide +kernel
theorem dL_law_1733 : decode cL_law 1733 = .ok (.iconst 0, 1) := by decide +kernel
theorem dL_law_1734 : decode cL_law 1734 = .ok (.ireturn, 1) := by decide +kernel
theorem dL_law_1735 : decode cL_law 1735 = .ok (.iinc 3 6, 3) := by decide +kernel
theorem dL_law_1738 : decode cL_law 1738 = .ok (.goto (-1720), 3) := by decide +kernel
theorem dL_law_1741 : decode cL_law 1741 = .ok (.iconst 1, 1) := by decide +kernel
theorem dL_law_1742 : decode cL_law 1742 = .ok (.ireturn, 1) := by decide +kernel
end
section
/-! THE ABSTRACT MEMORY. A cell is a number; ints and longs lie in functions of (cell, place); the shape and the references are fixed (zG). -/
abbrev zv : Type := Int32 ⊕ Int64 ⊕ Nat
abbrev vI (x : Int32) : zv := .inl x
abbrev vL (x : Int64) : zv := .inr (.inl x)
abbrev vR (r : Nat) : zv := .inr (.inr r)
abbrev zI : Type := Nat → Nat → Int32
abbrev zL : Type := Nat → Nat → Int64
def zs {α : Type} (M : Nat → Nat → α) (c k : Nat) (v : α) : Nat → Nat → α := fun a j => if a = c ∧ j = k then v else M a j
def zr (ad : Nat → Nat) (r : Nat) : Value := if r = 0 then .null else .ref (ad r)
def zc (ad : Nat → Nat) : zv → Value
  | .inl x => .int x
  | .inr (.inl x) => .long x
  | .inr (.inr r) => zr ad r
def z2 : zv → Bool
  | .inr (.inl _) => true
  | _ => false
/-- classes and slots, the size of the heap at the law's start, addresses, classes of arrays -/
abbrev zG : Type := va_G × Nat × (Nat → Nat) × (Nat → ClassId)
def gD (g : zG) : va_G := g.1
def gz (g : zG) : Nat := g.2.1
def gad (g : zG) : Nat → Nat := g.2.2.1
def gac (g : zG) : Nat → ClassId := g.2.2.2
def gA (g : zG) : Nat → Prop := fun q => gz g ≤ q
/-- the layout: how many cells, their shapes (kind, length), the references in them -/
def zshL : List (Nat × Nat) := [(9, 0), (16, 9), (14, 10), (0, 8), (2, 8), (11, 6), (0, 16), (11, 6), (0, 16), (11, 6), (0, 16), (11, 6), (0, 16), (11, 6), (0, 16), (11, 6), (0, 16), (11, 6), (0, 16), (11, 6), (0, 16), (14, 10), (0, 8), (2, 8), (11, 6), (0, 16), (11, 6), (0, 16), (11, 6), (0, 16), (11, 6), (0, 16), (11, 6), (0, 16), (11, 6), (0, 16), (11, 6), (0, 16), (11, 6), (0, 16), (14, 10), (0, 8), (2, 8), (11, 6), (0, 16), (11, 6), (0, 16), (11, 6), (0, 16), (11, 6), (0, 16), (11, 6), (0, 16), (11, 6), (0, 16), (11, 6), (0, 16), (11, 6), (0, 16), (15, 7), (11, 6), (0, 16), (0, 25), (0, 8), (0, 8), (3, 8), (13, 5), (1, 160), (13, 5), (1, 160), (13, 5), (1, 160), (13, 5), (1, 160), (13, 5), (1, 160), (13, 5), (1, 160), (13, 5), (1, 160), (13, 5), (1, 160), (12, 3), (0, 3), (10, 5), (0, 20), (0, 8), (17, 31), (0, 8), (0, 8), (1, 1280), (0, 8), (0, 8), (0, 8), (0, 8), (0, 8), (0, 8), (0, 128), (0, 8), (0, 20), (0, 184), (0, 16), (0, 16), (0, 3), (0, 8), (0, 8)]
def zrfL : List (List Nat) := [[], [2, 21, 40, 59, 65, 82, 84, 86, 0], [3, 4, 0, 0, 0, 0, 0, 0, 0, 0], [], [5, 7, 9, 11, 13, 15, 17, 19], [0, 0, 0, 0, 0, 6], [], [0, 0, 0, 0, 0, 8], [], [0, 0, 0, 0, 0, 10], [], [0, 0, 0, 0, 0, 12], [], [0, 0, 0, 0, 0, 14], [], [0, 0, 0, 0, 0, 16], [], [0, 0, 0, 0, 0, 18], [], [0, 0, 0, 0, 0, 20], [], [22, 23, 0, 0, 0, 0, 0, 0, 0, 0], [], [24, 26, 28, 30, 32, 34, 36, 38], [0, 0, 0, 0, 0, 25], [], [0, 0, 0, 0, 0, 27], [], [0, 0, 0, 0, 0, 29], [], [0, 0, 0, 0, 0, 31], [], [0, 0, 0, 0, 0, 33], [], [0, 0, 0, 0, 0, 35], [], [0, 0, 0, 0, 0, 37], [], [0, 0, 0, 0, 0, 39], [], [41, 42, 0, 0, 0, 0, 0, 0, 0, 0], [], [43, 45, 47, 49, 51, 53, 55, 57], [0, 0, 0, 0, 0, 44], [], [0, 0, 0, 0, 0, 46], [], [0, 0, 0, 0, 0, 48], [], [0, 0, 0, 0, 0, 50], [], [0, 0, 0, 0, 0, 52], [], [0, 0, 0, 0, 0, 54], [], [0, 0, 0, 0, 0, 56], [], [0, 0, 0, 0, 0, 58], [], [2, 60, 62, 63, 64, 0, 0], [0, 0, 0, 0, 0, 61], [], [], [], [], [66, 68, 70, 72, 74, 76, 78, 80], [67, 0, 0, 0, 0], [], [69, 0, 0, 0, 0], [], [71, 0, 0, 0, 0], [], [73, 0, 0, 0, 0], [], [75, 0, 0, 0, 0], [], [77, 0, 0, 0, 0], [], [79, 0, 0, 0, 0], [], [81, 0, 0, 0, 0], [], [83, 0, 0], [], [85, 0, 0, 0, 0], [], [], [88, 89, 90, 0, 91, 0, 92, 93, 94, 95, 96, 97, 0, 0, 0, 0, 0, 0, 0, 98, 0, 99, 0, 100, 101, 102, 0, 0, 103, 104, 105], [], [], [], [], [], [], [], [], [], [], [], [], [], [], [], [], [], []]
def zN : Nat := 105
def zsh (i : Nat) : Nat × Nat := zshL.getD i (9, 0)
def zrf (i k : Nat) : Nat := (zrfL.getD i []).getD k 0
theorem zok {i : Nat} (h : (zsh i).1 ≠ 9) : 1 ≤ i ∧ i ≤ zN := by
  by_cases h0 : i = 0
  · subst h0; exact absurd rfl h
  · by_cases h1 : i ≤ zN
    · exact ⟨by omega, h1⟩
    · exfalso
      apply h
      have e : zsh i = (9, 0) := by
        unfold zsh
        rw [List.getD_eq_getElem?_getD, List.getElem?_eq_none (show zshL.length ≤ i from Nat.lt_of_not_le h1)]
        rfl
      rw [e]
def zfr (ci k : Nat) : Bool := (([[true, false, false, false, false], [false, false, false, false, false, true], [true, false, false], [true, false, false, false, false], [true, true, false, false, false, false, false, false, false, false], [true, true, true, true, true, false, false], [true, true, true, true, true, true, true, true, false], [true, true, true, false, true, false, true, true, true, true, true, true, false, false, false, false, false, false, false, true, false, true, false, true, true, true, false, false, true, true, true]] : List (List Bool)).getD ci []).getD k false
/-- kinds: 0 int[], 1 long[], 2 Pane[], 3 Shelf[]; 5 a static int[], 6 a String, 7 its bytes, 8 the script, 9 nothing; 10 and more: an object -/
def zcell (g : zG) (I : zI) (L : zL) (i : Nat) : va_E :=
  if (zsh i).1 = 0 then .inl (gac g i, (zsh i).2, .inl (I i))
  else if (zsh i).1 = 1 then .inl (gac g i, (zsh i).2, .inr (.inl (L i)))
  else if (zsh i).1 < 10 then .inl (gac g i, (zsh i).2, .inr (.inr (.inr (.inr (fun k => if zrf i k = 0 then none else some (gad g (zrf i k)))))))
  else .inr ((zsh i).1 - 10, (List.range (zsh i).2).map (fun k => if zfr ((zsh i).1 - 10) k then zr (gad g) (zrf i k) else .int (I i k)))
def zw (g : zG) (I : zI) (L : zL) : va_W := (List.range (zN)).map fun j => (gad g (j + 1), zcell g I L (j + 1))
def zty (k : Nat) : Option FieldType := if k = 0 then some .int else if k = 1 then some .long else if k = 2 then some (.object RX1) else if k = 3 then some (.object RX3) else none
def zt (g : zG) : List (ClassId × FieldType) := (List.range (zN)).filterMap fun j => (zty (zsh (j + 1)).1).map fun ty => (gac g (j + 1), ty)
theorem zw_at {g : zG} {I : zI} {L : zL} {i : Nat} (h1 : 1 ≤ i) (h2 : i ≤ zN) : (zw g I L)[i - 1]? = some (gad g i, zcell g I L i) := by
  unfold zw
  rw [List.getElem?_map, List.getElem?_range (by omega)]
  have e : i - 1 + 1 = i := by omega
  simp only [Option.map_some, e]
theorem zw_set {g : zG} {I I' : zI} {L L' : zL} {i : Nat} (h1 : 1 ≤ i) (h2 : i ≤ zN) (h : ∀ j, j ≠ i → zcell g I' L' j = zcell g I L j) {c : va_E} (hc : c = zcell g I' L' i) : (zw g I L).set (i - 1) (gad g i, c) = zw g I' L' := by
  apply List.ext_getElem?
  intro j
  have hlen : (zw g I L).length = zN := by simp [zw]
  rw [List.getElem?_set]
  by_cases e : i - 1 = j
  · rw [if_pos e, if_pos (by omega), hc, ← e, zw_at h1 h2]
  · rw [if_neg e]
    by_cases hj : j < zN
    · have a := zw_at (g := g) (I := I) (L := L) (i := j + 1) (by omega) (by omega)
      have b := zw_at (g := g) (I := I') (L := L') (i := j + 1) (by omega) (by omega)
      simp only [Nat.add_sub_cancel] at a b
      rw [a, b, h (j + 1) (by omega)]
    · have hlen' : (zw g I' L').length = zN := by simp [zw]
      rw [List.getElem?_eq_none (by omega), List.getElem?_eq_none (by omega)]
theorem zt_at {g : zG} {i : Nat} {ty : FieldType} (h1 : 1 ≤ i) (h2 : i ≤ zN) (hk : zty (zsh i).1 = some ty) : ∃ t0 : Nat, (zt g)[t0]? = some (gac g i, ty) := by
  have hm : (gac g i, ty) ∈ zt g := by
    unfold zt
    refine List.mem_filterMap.mpr ⟨i - 1, List.mem_range.mpr (by omega), ?_⟩
    have e : i - 1 + 1 = i := by omega
    rw [e, hk]
    rfl
  exact List.getElem?_of_mem hm
theorem zs_same {α : Type} {M : Nat → Nat → α} {c k : Nat} {v : α} : zs M c k v c k = v := by simp [zs]
theorem zs_ne {α : Type} {M : Nat → Nat → α} {c k : Nat} {v : α} {a j : Nat} (h : ¬ (a = c ∧ j = k)) : zs M c k v a j = M a j := by simp only [zs, if_neg h]
theorem zs_nec {α : Type} {M : Nat → Nat → α} {c k : Nat} {v : α} {a : Nat} (h : a ≠ c) : zs M c k v a = M a := by funext j; simp only [zs, h, false_and, if_false]
theorem zs_upd {M : zI} {c k : Nat} {v : Int32} : zs M c k v c = upd (M c) k v := by funext j; simp [zs, upd]
theorem zs_updL {M : zL} {c k : Nat} {v : Int64} : zs M c k v c = vp_updL (M c) k v := by funext j; simp [zs, vp_updL]
theorem zr_cat (ad : Nat → Nat) (r : Nat) : (zr ad r).category = 1 := by unfold zr; split <;> rfl
theorem zc_cat (ad : Nat → Nat) {v : zv} (h : z2 v = false) : (zc ad v).category = 1 := by
  rcases v with x | x | r
  · rfl
  · exact absurd h (by simp [z2])
  · exact zr_cat ad r
theorem zc_cat2 (ad : Nat → Nat) (v : zv) : ((zc ad v).category == 2) = z2 v := by
  rcases v with x | x | r
  · rfl
  · rfl
  · show ((zr ad r).category == 2) = false
    rw [zr_cat]
    rfl
theorem zr_0 (ad : Nat → Nat) : zr ad 0 = .null := rfl
theorem zr_n (ad : Nat → Nat) {r : Nat} (h : r ≠ 0) : zr ad r = .ref (ad r) := by simp [zr, h]
/-- the words that every method may use -/
def zT : List Cond := lw_tbl.filter goodWord
theorem zT_mem {w : Cond} (h : w ∈ lw_tbl) (hg : goodWord w = true) : w ∈ zT := List.mem_filter.mpr ⟨h, hg⟩
theorem zT_good {y : MethodName} {bytes : ByteArray} {maxL : Nat} {rt : Option FieldType} (h : Cond.code y bytes maxL rt ∈ zT) : GoodIn zT (Cond.code y bytes maxL rt :: zT) := by
  intro w hw
  have hm : w ∈ zT := by
    rcases List.mem_cons.mp hw with e | e
    · rw [e]; exact h
    · exact e
  exact ⟨hm, good_of_word (List.mem_filter.mp hm).2⟩
/-- static arrays: number, class, field, contents -/
def zsta : List (Nat × String × String × List Int32) := [(1001, RX1, "KIND_ABOVE", [-1, 0, 0, 2, 0, 1, 3]), (1002, RX0, "FREEZING", [10, 20, 0, 0, 51, 0, 70]), (1003, RX0, "MELTING", [11, 0, 30, 40, 0, 0, 71]), (1004, RX0, "SHOWING", [12, 0, 0, 0, 50, 60, 0])]
/-- Strings: class, entry, text, place -/
def zstr : List (String × Nat × String × Nat) := [(RX2, 87, "form", 0), (RX2, 89, "pane", 1), (RX2, 91, "hang", 2), (RX2, 93, "cold", 3), (RX2, 95, "wet", 4), (RX2, 97, "out", 5), (RX7, 161, "form", 0), (RX7, 168, "pane", 1), (RX7, 173, "hang", 2), (RX7, 175, "cold", 3), (RX7, 176, "wet", 4), (RX7, 177, "out", 5)]
def zslen : List Nat := [4, 4, 4, 4, 3, 3]
def zsbyt : List (List Int32) := [[102, 111, 114, 109], [112, 97, 110, 101], [104, 97, 110, 103], [99, 111, 108, 100], [119, 101, 116], [111, 117, 116]]
/-- what never changes: static arrays, the JDK's statics, Strings -/
def zSt (g : zG) (U : State) (H : Heap) : Prop :=
  (∀ q ∈ zsta, va_Z q.2.1 q.2.2.1 "[I" (.ref (gad g q.1)) (gA g) U H ∧ va_T .int (gad g q.1) 7 (fun j => .int (q.2.2.2.getD j 0)) (gA g) U H) ∧
  va_Z "java/lang/String" "COMPACT_STRINGS" "Z" (.int 1) (gA g) U H ∧
  (va_Z "jdk/internal/util/Preconditions" "SIOOBE_FORMATTER" "Ljava/util/function/BiFunction;" .null (gA g) U H ∨ va_Z "jdk/internal/util/Preconditions" "SIOOBE_FORMATTER" "Ljava/util/function/BiFunction;" (.ref (gad g 2999)) (gA g) U H) ∧
  vk_S 6 zslen zsbyt (fun j => gad g (2000 + j)) (fun j => gad g (2100 + j)) (gA g) U H ∧
  ∀ q ∈ zstr, vk_R q.1 q.2.1 q.2.2.1 (gad g (2000 + q.2.2.2)) U
theorem zSt.go {g : zG} {s U : State} {H H1 : Heap} (hW : s.WarmedH U.vm) (hq : ∀ a : Nat, a < H.size → ¬ gA g a → H1[a]? = H[a]?) (h : zSt g s H) : zSt g U H1 := by
  obtain ⟨h1, h2, h3, h4, h5⟩ := h
  have al := hW.alike
  refine ⟨fun q hm => ⟨((h1 q hm).1.moved al).kept hq, ((h1 q hm).2.moved al).kept hq⟩, (h2.moved al).kept hq, ?_, (h4.moved al).kept hq, fun q hm => (h5 q hm).warm hW⟩
  rcases h3 with h | h
  · exact Or.inl ((h.moved al).kept hq)
  · exact Or.inr ((h.moved al).kept hq)
theorem zSt.blind {g : zG} {U V : State} {H : Heap} (hv : V.vm = U.vm) (h : zSt g U H) : zSt g V H := by
  obtain ⟨h1, h2, h3, h4, h5⟩ := h
  have al : U.vm.Alike V.vm := by rw [hv]; exact Vm.Alike.refl U.vm
  refine ⟨fun q hm => ⟨(h1 q hm).1.moved al, (h1 q hm).2.moved al⟩, h2.moved al, ?_, h4.moved al, fun q hm => (h5 q hm).same hv⟩
  rcases h3 with h | h
  · exact Or.inl (h.moved al)
  · exact Or.inr (h.moved al)
/-- the world -/
def Wd (g : zG) (I : zI) (L : zL) (U : State) (H : Heap) : Prop := va_P (gD g) vwCl (zw g I L) H ∧ va_D (gA g) (zw g I L) ∧ va_K (gD g) vwCl (zt g) U ∧ zSt g U H
/-- what a method's end is -/
def zQ (g : zG) (Q : Option zv → zI → zL → Prop) : Array Value → State → Outcome → State → Prop := fun _ st oc t =>
  (∃ (v : Option zv) (I : zI) (L : zL), oc = .returned (v.map (zc (gad g))) ∧ Q v I L ∧ Wd g I L t t.heap) ∧ va_F (gA g) st t
def zRm (d : Nat) : Room := { frames := d, cells := 0, slots := 0, locals := 64 * d }
/-- a method: its name, bytes, locals, what it returns -/
abbrev zM : Type := MethodName × ByteArray × Nat × Option FieldType
def zPc (g : zG) (as : List zv) (I : zI) (L : zL) : Array Value → State → Prop := va_Pc (as.map (zc (gad g))) (fun U => Wd g I L U U.heap)
/-- a call of M with these arguments, over this memory, at d levels of room, ends so that Q -/
def Call (l : Launch) (g : zG) (d : Nat) (M : zM) (as : List zv) (I : zI) (L : zL) (Q : Option zv → zI → zL → Prop) : Prop :=
  Met l M.1 (Cond.code M.1 M.2.1 M.2.2.1 M.2.2.2 :: zT) (zRm d) (zPc g as I L) (zQ g Q) 0 0 (gA g)
abbrev zi (Q : Int32 → zI → zL → Prop) : Option zv → zI → zL → Prop := fun v I L => ∃ r, v = some (vI r) ∧ Q r I L
abbrev zl (Q : Int64 → zI → zL → Prop) : Option zv → zI → zL → Prop := fun v I L => ∃ r, v = some (vL r) ∧ Q r I L
abbrev za (Q : Nat → zI → zL → Prop) : Option zv → zI → zL → Prop := fun v I L => ∃ r, v = some (vR r) ∧ Q r I L
abbrev zn (Q : zI → zL → Prop) : Option zv → zI → zL → Prop := fun v I L => v = none ∧ Q I L
/-- where a walk stands -/
abbrev zK : Type := Program × Launch × Env × Room × State × MethodId × Array Value × List Frame × Method × Code × (State → Prop)
abbrev zW (k : zK) (H : Heap) (locs : List Loc) (f : JFrame) : Prop := W k.1 k.2.1 k.2.2.1 k.2.2.2.1 k.2.2.2.2.1 k.2.2.2.2.2.1 k.2.2.2.2.2.2.1 k.2.2.2.2.2.2.2.1 k.2.2.2.2.2.2.2.2.1 k.2.2.2.2.2.2.2.2.2.1 H locs 0 0 k.2.2.2.2.2.2.2.2.2.2 f
abbrev ks (k : zK) : State := k.2.2.2.2.1
abbrev km (k : zK) : MethodId := k.2.2.2.2.2.1
abbrev kl (k : zK) : Launch := k.2.1
def zX (k : zK) (g : zG) (cc : ByteArray) (own : String) (nL : Nat) (rt : Option FieldType) (d : Nat) : Prop :=
  k.1.tables.exec = Jvm.exec ∧ k.2.2.2.2.2.2.2.2.2.1.code = cc ∧ k.2.2.2.2.2.2.2.2.2.1.maxLocals = nL ∧ (ks k).vm.findClass own = some (km k).cls ∧ (∀ w ∈ zT, w.before k.2.2.2.2.2.2.1 (ks k) = true) ∧
  va_K (gD g) vwCl (zt g) (ks k) ∧ zSt g (ks k) (ks k).heap ∧ k.2.2.2.2.2.2.2.2.1.locks = false ∧ k.2.2.2.2.2.2.2.2.1.sig.returnType = rt ∧ d ≤ k.2.2.2.1.frames ∧ 64 * d ≤ k.2.2.2.1.locals
/-- the walk from here comes to its end -/
def AW (k : zK) (g : zG) (nL : Nat) (I : zI) (L : zL) (pc : Nat) (ls : List (Nat × zv)) (st : List zv) : Prop :=
  ∀ (H : Heap) (locs : List Loc) (la : Array Slot), va_P (gD g) vwCl (zw g I L) H → va_D (gA g) (zw g I L) → va_S (gA g) (ks k).heap H locs → lv_has la nL (ls.map fun q => (q.1, zc (gad g) q.2)) →
    zW k H locs (F0 (km k) pc la (st.map (zc (gad g))))
theorem zl_at {ad : Nat → Nat} {la : Array Slot} {nL : Nat} {ls : List (Nat × zv)} (h : lv_has la nL (ls.map fun q => (q.1, zc ad q.2))) (j : Nat) {i : Nat} {v : zv} (hj : ls[j]? = some (i, v)) : la[i]? = some (.val (zc ad v)) := by
  refine lv_at h j ?_
  rw [List.getElem?_map, hj]
  rfl
theorem zl_put (ad : Nat → Nat) (i : Nat) (v : zv) (ls : List (Nat × zv)) : (i, zc ad v) :: (ls.map fun q => (q.1, zc ad q.2)).filter (fun q => !(q.1 == i) && !(q.1 + 1 == i && q.2.category == 2)) = ((i, v) :: ls.filter (fun q => !(q.1 == i) && !(q.1 + 1 == i && z2 q.2))).map fun q => (q.1, zc ad q.2) := by
  rw [List.map_cons, List.filter_map]
  congr 3
  funext q
  simp only [Function.comp, zc_cat2]
end
section
section ZI
variable {k : zK} {g : zG} {cc : ByteArray} {own : String} {nL d pc : Nat} {rt : Option FieldType} {I : zI} {L : zL} {ls : List (Nat × zv)} {st : List zv}
theorem aw_iconst (X : zX k g cc own nL rt d) {n : Int} {v : Int32} (dg : decode cc pc = .ok (.iconst n, 1)) (hv : Int32.ofInt n = v) (h : AW k g nL I L (pc + 1) ls (vI v :: st)) : AW k g nL I L pc ls (st) := fun H locs la hP hD hS hl => lv_iconst X.1 X.2.1 dg hv (h H locs la hP hD hS hl)
theorem aw_bipush (X : zX k g cc own nL rt d) {n : Int} {v : Int32} (dg : decode cc pc = .ok (.bipush n, 2)) (hv : (Int8.ofInt n).toInt32 = v) (h : AW k g nL I L (pc + 2) ls (vI v :: st)) : AW k g nL I L pc ls (st) := fun H locs la hP hD hS hl => lv_bipush X.1 X.2.1 dg hv (h H locs la hP hD hS hl)
theorem aw_sipush (X : zX k g cc own nL rt d) {n : Int} {v : Int32} (dg : decode cc pc = .ok (.sipush n, 3)) (hv : (Int16.ofInt n).toInt32 = v) (h : AW k g nL I L (pc + 3) ls (vI v :: st)) : AW k g nL I L pc ls (st) := fun H locs la hP hD hS hl => lv_sipush X.1 X.2.1 dg hv (h H locs la hP hD hS hl)
theorem aw_lconst (X : zX k g cc own nL rt d) {n : Fin 2} {v : Int64} (dg : decode cc pc = .ok (.lconst n, 1)) (hv : Int64.ofNat (n : Nat) = v) (h : AW k g nL I L (pc + 1) ls (vL v :: st)) : AW k g nL I L pc ls (st) := fun H locs la hP hD hS hl => lv_lconst X.1 X.2.1 dg hv (h H locs la hP hD hS hl)
theorem aw_null (X : zX k g cc own nL rt d) (dg : decode cc pc = .ok (.aconst_null, 1)) (h : AW k g nL I L (pc + 1) ls (vR 0 :: st)) : AW k g nL I L pc ls st := fun H locs la hP hD hS hl => lv_null X.1 X.2.1 dg (h H locs la hP hD hS hl)
theorem aw_ldc (X : zX k g cc own nL rt d) {index : Nat} {v : Int32} (hw : Cond.constant own index v ∈ zT) (dg : decode cc pc = .ok (.ldc index, 2)) (h : AW k g nL I L (pc + 2) ls (vI v :: st)) : AW k g nL I L pc ls st := fun H locs la hP hD hS hl => lv_ldc X.1 X.2.1 X.2.2.2.1 (X.2.2.2.2.1 _ hw) dg (h H locs la hP hD hS hl)
theorem aw_ldcw (X : zX k g cc own nL rt d) {index : Nat} {v : Int32} (hw : Cond.constant own index v ∈ zT) (dg : decode cc pc = .ok (.ldc_w index, 3)) (h : AW k g nL I L (pc + 3) ls (vI v :: st)) : AW k g nL I L pc ls st := fun H locs la hP hD hS hl => lv_ldcw X.1 X.2.1 X.2.2.2.1 (X.2.2.2.2.1 _ hw) dg (h H locs la hP hD hS hl)
theorem aw_ldc2 (X : zX k g cc own nL rt d) {index : Nat} {v : Int64} (hw : Cond.constantLong own index v ∈ zT) (dg : decode cc pc = .ok (.ldc2_w index, 3)) (h : AW k g nL I L (pc + 3) ls (vL v :: st)) : AW k g nL I L pc ls st := fun H locs la hP hD hS hl => lv_ldc2 X.1 X.2.1 X.2.2.2.1 (X.2.2.2.2.1 _ hw) dg (h H locs la hP hD hS hl)
theorem aw_ldcS (X : zX k g cc own nL rt d) {index j : Nat} {tx : String} (hw : (own, index, tx, j) ∈ zstr) (ha : gad g (2000 + j) = gad g (2000 + j)) (dg : decode cc pc = .ok (.ldc index, 2)) (h : AW k g nL I L (pc + 2) ls (vR (2000 + j) :: st)) : AW k g nL I L pc ls st := fun H locs la hP hD hS hl => va_ldcS X.1 X.2.1 X.2.2.2.1 (X.2.2.2.2.2.2.1.2.2.2.2 _ hw) dg (by
  have h9 := h H locs la hP hD hS hl
  rw [List.map_cons, show zc (gad g) (vR (2000 + j)) = .ref (gad g (2000 + j)) from zr_n _ (by omega)] at h9
  exact h9)
theorem aw_iload_n (X : zX k g cc own nL rt d) {n : Fin 4} {x : Int32} (j : Nat) (dg : decode cc pc = .ok (.iload_n n, 1)) (hj : ls[j]? = some ((n : Nat), vI x)) (h : AW k g nL I L (pc + 1) ls (vI x :: st)) : AW k g nL I L pc ls st := fun H locs la hP hD hS hl => lv_iload_n X.1 X.2.1 dg rfl (zl_at hl j hj) (h H locs la hP hD hS hl)
theorem aw_iload (X : zX k g cc own nL rt d) {n : Nat} {x : Int32} (j : Nat) (dg : decode cc pc = .ok (.iload n, 2)) (hj : ls[j]? = some (n, vI x)) (h : AW k g nL I L (pc + 2) ls (vI x :: st)) : AW k g nL I L pc ls st := fun H locs la hP hD hS hl => lv_iload X.1 X.2.1 dg (zl_at hl j hj) (h H locs la hP hD hS hl)
theorem aw_lload_n (X : zX k g cc own nL rt d) {n : Fin 4} {x : Int64} (j : Nat) (dg : decode cc pc = .ok (.lload_n n, 1)) (hj : ls[j]? = some ((n : Nat), vL x)) (h : AW k g nL I L (pc + 1) ls (vL x :: st)) : AW k g nL I L pc ls st := fun H locs la hP hD hS hl => lv_lload_n X.1 X.2.1 dg rfl (zl_at hl j hj) (h H locs la hP hD hS hl)
theorem aw_lload (X : zX k g cc own nL rt d) {n : Nat} {x : Int64} (j : Nat) (dg : decode cc pc = .ok (.lload n, 2)) (hj : ls[j]? = some (n, vL x)) (h : AW k g nL I L (pc + 2) ls (vL x :: st)) : AW k g nL I L pc ls st := fun H locs la hP hD hS hl => lv_lload X.1 X.2.1 dg (zl_at hl j hj) (h H locs la hP hD hS hl)
theorem aw_aload_n (X : zX k g cc own nL rt d) {n : Fin 4} {x : Nat} (j : Nat) (dg : decode cc pc = .ok (.aload_n n, 1)) (hj : ls[j]? = some ((n : Nat), vR x)) (h : AW k g nL I L (pc + 1) ls (vR x :: st)) : AW k g nL I L pc ls st := by
  intro H locs la hP hD hS hl
  have h9 := h H locs la hP hD hS hl
  have e := zl_at hl j hj
  by_cases hx : x = 0
  · subst hx
    exact lv_aload_nN X.1 X.2.1 dg rfl e h9
  · have hz : zc (gad g) (vR x) = .ref (gad g x) := zr_n _ hx
    rw [hz] at e
    rw [List.map_cons, hz] at h9
    exact lv_aload_n X.1 X.2.1 dg rfl e h9
theorem aw_aload (X : zX k g cc own nL rt d) {n : Nat} {x : Nat} (j : Nat) (dg : decode cc pc = .ok (.aload n, 2)) (hj : ls[j]? = some ((n : Nat), vR x)) (h : AW k g nL I L (pc + 2) ls (vR x :: st)) : AW k g nL I L pc ls st := by
  intro H locs la hP hD hS hl
  have h9 := h H locs la hP hD hS hl
  have e := zl_at hl j hj
  by_cases hx : x = 0
  · subst hx
    exact lv_aloadN X.1 X.2.1 dg  e h9
  · have hz : zc (gad g) (vR x) = .ref (gad g x) := zr_n _ hx
    rw [hz] at e
    rw [List.map_cons, hz] at h9
    exact lv_aload X.1 X.2.1 dg  e h9
theorem aw_istore_n (X : zX k g cc own nL rt d) {n : Fin 4} {x : Int32} {ls' : List (Nat × zv)} (dg : decode cc pc = .ok (.istore_n n, 1)) (hn : (n : Nat) < nL) (hl' : ((n : Nat), vI x) :: ls.filter (fun q => !(q.1 == (n : Nat)) && !(q.1 + 1 == (n : Nat) && z2 q.2)) = ls') (h : AW k g nL I L (pc + 1) ls' st) : AW k g nL I L pc ls (vI x :: st) := by
  intro H locs la hP hD hS hl
  subst hl'
  exact lv_istore_n X.1 X.2.1 dg rfl hl hn (zl_put (gad g) n (vI x) ls) (fun la' hl2 => h H locs la' hP hD hS hl2)
theorem aw_istore (X : zX k g cc own nL rt d) {n : Nat} {x : Int32} {ls' : List (Nat × zv)} (dg : decode cc pc = .ok (.istore n, 2)) (hn : (n : Nat) < nL) (hl' : ((n : Nat), vI x) :: ls.filter (fun q => !(q.1 == (n : Nat)) && !(q.1 + 1 == (n : Nat) && z2 q.2)) = ls') (h : AW k g nL I L (pc + 2) ls' st) : AW k g nL I L pc ls (vI x :: st) := by
  intro H locs la hP hD hS hl
  subst hl'
  exact lv_istore X.1 X.2.1 dg  hl hn (zl_put (gad g) n (vI x) ls) (fun la' hl2 => h H locs la' hP hD hS hl2)
theorem aw_astore_n (X : zX k g cc own nL rt d) {n : Fin 4} {x : Nat} {ls' : List (Nat × zv)} (dg : decode cc pc = .ok (.astore_n n, 1)) (hn : (n : Nat) < nL) (hl' : ((n : Nat), vR x) :: ls.filter (fun q => !(q.1 == (n : Nat)) && !(q.1 + 1 == (n : Nat) && z2 q.2)) = ls') (h : AW k g nL I L (pc + 1) ls' st) : AW k g nL I L pc ls (vR x :: st) := by
  intro H locs la hP hD hS hl
  subst hl'
  have e := zl_put (gad g) n (vR x) ls
  by_cases hx : x = 0
  · subst hx
    exact lv_astore_nN X.1 X.2.1 dg rfl hl hn e (fun la' hl2 => h H locs la' hP hD hS hl2)
  · have hz : zc (gad g) (vR x) = .ref (gad g x) := zr_n _ hx
    rw [hz] at e
    rw [List.map_cons, hz]
    exact lv_astore_n X.1 X.2.1 dg rfl hl hn e (fun la' hl2 => h H locs la' hP hD hS hl2)
theorem aw_astore (X : zX k g cc own nL rt d) {n : Nat} {x : Nat} {ls' : List (Nat × zv)} (dg : decode cc pc = .ok (.astore n, 2)) (hn : (n : Nat) < nL) (hl' : ((n : Nat), vR x) :: ls.filter (fun q => !(q.1 == (n : Nat)) && !(q.1 + 1 == (n : Nat) && z2 q.2)) = ls') (h : AW k g nL I L (pc + 2) ls' st) : AW k g nL I L pc ls (vR x :: st) := by
  intro H locs la hP hD hS hl
  subst hl'
  have e := zl_put (gad g) n (vR x) ls
  by_cases hx : x = 0
  · subst hx
    exact lv_astoreN X.1 X.2.1 dg  hl hn e (fun la' hl2 => h H locs la' hP hD hS hl2)
  · have hz : zc (gad g) (vR x) = .ref (gad g x) := zr_n _ hx
    rw [hz] at e
    rw [List.map_cons, hz]
    exact lv_astore X.1 X.2.1 dg  hl hn e (fun la' hl2 => h H locs la' hP hD hS hl2)
theorem aw_iinc (X : zX k g cc own nL rt d) {i : Nat} {n : Int} {x v : Int32} {ls' : List (Nat × zv)} (j : Nat) (dg : decode cc pc = .ok (.iinc i n, 3)) (hj : ls[j]? = some (i, vI x)) (hv : x + Int32.ofInt n = v) (hn : i < nL) (hl' : (i, vI v) :: ls.filter (fun q => !(q.1 == i) && !(q.1 + 1 == i && z2 q.2)) = ls') (h : AW k g nL I L (pc + 3) ls' st) : AW k g nL I L pc ls st := by
  intro H locs la hP hD hS hl
  subst hl'
  exact lv_iinc (k := j) X.1 X.2.1 dg hl (by rw [List.getElem?_map, hj]; rfl) hv hn (zl_put (gad g) i (vI v) ls) (fun la' hl2 => h H locs la' hP hD hS hl2)
theorem aw_sub (ks9 : List (Nat × zv)) (hs : ∀ q ∈ ks9, q ∈ ls) (h : AW k g nL I L pc ks9 st) : AW k g nL I L pc ls st := fun H locs la hP hD hS hl => h H locs la hP hD hS ⟨hl.1, hl.2.1, fun q hq => hl.2.2 q (by obtain ⟨a, ha, rfl⟩ := List.mem_map.mp hq; exact List.mem_map.mpr ⟨a, hs a ha, rfl⟩)⟩
theorem aw_iadd (X : zX k g cc own nL rt d) {x y : Int32} (dg : decode cc pc = .ok (.iadd, 1))  (h : AW k g nL I L (pc + 1) ls (vI (x + y) :: st)) : AW k g nL I L pc ls (vI y :: vI x :: st) := fun H locs la hP hD hS hl => lv_iadd X.1 X.2.1 dg  (h H locs la hP hD hS hl)
theorem aw_isub (X : zX k g cc own nL rt d) {x y : Int32} (dg : decode cc pc = .ok (.isub, 1))  (h : AW k g nL I L (pc + 1) ls (vI (x - y) :: st)) : AW k g nL I L pc ls (vI y :: vI x :: st) := fun H locs la hP hD hS hl => lv_isub X.1 X.2.1 dg  (h H locs la hP hD hS hl)
theorem aw_imul (X : zX k g cc own nL rt d) {x y : Int32} (dg : decode cc pc = .ok (.imul, 1))  (h : AW k g nL I L (pc + 1) ls (vI (x * y) :: st)) : AW k g nL I L pc ls (vI y :: vI x :: st) := fun H locs la hP hD hS hl => lv_imul X.1 X.2.1 dg  (h H locs la hP hD hS hl)
theorem aw_iand (X : zX k g cc own nL rt d) {x y : Int32} (dg : decode cc pc = .ok (.iand, 1))  (h : AW k g nL I L (pc + 1) ls (vI (x &&& y) :: st)) : AW k g nL I L pc ls (vI y :: vI x :: st) := fun H locs la hP hD hS hl => lv_iand X.1 X.2.1 dg  (h H locs la hP hD hS hl)
theorem aw_ior (X : zX k g cc own nL rt d) {x y : Int32} (dg : decode cc pc = .ok (.ior, 1))  (h : AW k g nL I L (pc + 1) ls (vI (x ||| y) :: st)) : AW k g nL I L pc ls (vI y :: vI x :: st) := fun H locs la hP hD hS hl => lv_ior X.1 X.2.1 dg  (h H locs la hP hD hS hl)
theorem aw_ixor (X : zX k g cc own nL rt d) {x y : Int32} (dg : decode cc pc = .ok (.ixor, 1))  (h : AW k g nL I L (pc + 1) ls (vI (x ^^^ y) :: st)) : AW k g nL I L pc ls (vI y :: vI x :: st) := fun H locs la hP hD hS hl => lv_ixor X.1 X.2.1 dg  (h H locs la hP hD hS hl)
theorem aw_ishl (X : zX k g cc own nL rt d) {x y : Int32} (dg : decode cc pc = .ok (.ishl, 1))  (h : AW k g nL I L (pc + 1) ls (vI (x <<< (y &&& 31)) :: st)) : AW k g nL I L pc ls (vI y :: vI x :: st) := fun H locs la hP hD hS hl => lv_ishl X.1 X.2.1 dg  (h H locs la hP hD hS hl)
theorem aw_ishr (X : zX k g cc own nL rt d) {x y : Int32} (dg : decode cc pc = .ok (.ishr, 1))  (h : AW k g nL I L (pc + 1) ls (vI (x >>> (y &&& 31)) :: st)) : AW k g nL I L pc ls (vI y :: vI x :: st) := fun H locs la hP hD hS hl => lv_ishr X.1 X.2.1 dg  (h H locs la hP hD hS hl)
theorem aw_idiv (X : zX k g cc own nL rt d) {x y : Int32} (dg : decode cc pc = .ok (.idiv, 1)) (hne : ¬ y = 0) (h : AW k g nL I L (pc + 1) ls (vI (x / y) :: st)) : AW k g nL I L pc ls (vI y :: vI x :: st) := fun H locs la hP hD hS hl => lv_idiv X.1 X.2.1 dg hne (h H locs la hP hD hS hl)
theorem aw_irem (X : zX k g cc own nL rt d) {x y : Int32} (dg : decode cc pc = .ok (.irem, 1)) (hne : ¬ y = 0) (h : AW k g nL I L (pc + 1) ls (vI (x - x / y * y) :: st)) : AW k g nL I L pc ls (vI y :: vI x :: st) := fun H locs la hP hD hS hl => lv_irem X.1 X.2.1 dg hne (h H locs la hP hD hS hl)
theorem aw_ineg (X : zX k g cc own nL rt d) {x : Int32} (dg : decode cc pc = .ok (.ineg, 1))  (h : AW k g nL I L (pc + 1) ls (vI (-x) :: st)) : AW k g nL I L pc ls (vI x :: st) := fun H locs la hP hD hS hl => lv_ineg X.1 X.2.1 dg  (h H locs la hP hD hS hl)
theorem aw_iushr (X : zX k g cc own nL rt d) {x y : Int32} (dg : decode cc pc = .ok (.iushr, 1))  (h : AW k g nL I L (pc + 1) ls (vI ((x.toUInt32 >>> (y.toUInt32 &&& Int32.toUInt32 31)).toInt32) :: st)) : AW k g nL I L pc ls (vI y :: vI x :: st) := fun H locs la hP hD hS hl => lv_iushr X.1 X.2.1 dg rfl (h H locs la hP hD hS hl)
theorem aw_i2l (X : zX k g cc own nL rt d) {x : Int32} (dg : decode cc pc = .ok (.i2l, 1))  (h : AW k g nL I L (pc + 1) ls (vL x.toInt64 :: st)) : AW k g nL I L pc ls (vI x :: st) := fun H locs la hP hD hS hl => lv_i2l X.1 X.2.1 dg rfl (h H locs la hP hD hS hl)
theorem aw_l2i (X : zX k g cc own nL rt d) {x : Int64} (dg : decode cc pc = .ok (.l2i, 1))  (h : AW k g nL I L (pc + 1) ls (vI x.toInt32 :: st)) : AW k g nL I L pc ls (vL x :: st) := fun H locs la hP hD hS hl => lv_l2i X.1 X.2.1 dg rfl (h H locs la hP hD hS hl)
theorem aw_i2b (X : zX k g cc own nL rt d) {x : Int32} (dg : decode cc pc = .ok (.i2b, 1))  (h : AW k g nL I L (pc + 1) ls (vI x.toInt8.toInt32 :: st)) : AW k g nL I L pc ls (vI x :: st) := fun H locs la hP hD hS hl => lv_i2b X.1 X.2.1 dg rfl (h H locs la hP hD hS hl)
theorem aw_i2s (X : zX k g cc own nL rt d) {x : Int32} (dg : decode cc pc = .ok (.i2s, 1))  (h : AW k g nL I L (pc + 1) ls (vI x.toInt16.toInt32 :: st)) : AW k g nL I L pc ls (vI x :: st) := fun H locs la hP hD hS hl => lv_i2s X.1 X.2.1 dg rfl (h H locs la hP hD hS hl)
theorem aw_i2c (X : zX k g cc own nL rt d) {x : Int32} (dg : decode cc pc = .ok (.i2c, 1))  (h : AW k g nL I L (pc + 1) ls (vI (x.toUInt32 % 65536).toInt32 :: st)) : AW k g nL I L pc ls (vI x :: st) := fun H locs la hP hD hS hl => lv_i2c X.1 X.2.1 dg rfl (h H locs la hP hD hS hl)
theorem aw_ladd (X : zX k g cc own nL rt d) {x y : Int64} (dg : decode cc pc = .ok (.ladd, 1))  (h : AW k g nL I L (pc + 1) ls (vL (x + y) :: st)) : AW k g nL I L pc ls (vL y :: vL x :: st) := fun H locs la hP hD hS hl => lv_ladd X.1 X.2.1 dg  (h H locs la hP hD hS hl)
theorem aw_land (X : zX k g cc own nL rt d) {x y : Int64} (dg : decode cc pc = .ok (.land, 1))  (h : AW k g nL I L (pc + 1) ls (vL (x &&& y) :: st)) : AW k g nL I L pc ls (vL y :: vL x :: st) := fun H locs la hP hD hS hl => lv_land X.1 X.2.1 dg  (h H locs la hP hD hS hl)
theorem aw_lor (X : zX k g cc own nL rt d) {x y : Int64} (dg : decode cc pc = .ok (.lor, 1))  (h : AW k g nL I L (pc + 1) ls (vL (x ||| y) :: st)) : AW k g nL I L pc ls (vL y :: vL x :: st) := fun H locs la hP hD hS hl => lv_lor X.1 X.2.1 dg  (h H locs la hP hD hS hl)
theorem aw_lshl (X : zX k g cc own nL rt d) {x : Int64} {y : Int32} (dg : decode cc pc = .ok (.lshl, 1))  (h : AW k g nL I L (pc + 1) ls (vL (x <<< (y.toInt64 &&& 63)) :: st)) : AW k g nL I L pc ls (vI y :: vL x :: st) := fun H locs la hP hD hS hl => lv_lshl X.1 X.2.1 dg rfl (h H locs la hP hD hS hl)
theorem aw_lcmp (X : zX k g cc own nL rt d) {x y : Int64} (dg : decode cc pc = .ok (.lcmp, 1))  (h : AW k g nL I L (pc + 1) ls (vI (lg_cmp x y) :: st)) : AW k g nL I L pc ls (vL y :: vL x :: st) := fun H locs la hP hD hS hl => W.lcmp X.1 X.2.1 dg  (h H locs la hP hD hS hl)
theorem aw_dup (X : zX k g cc own nL rt d) {a : zv} (dg : decode cc pc = .ok (.dup, 1)) (ha : z2 a = false) (h : AW k g nL I L (pc + 1) ls (a :: a :: st)) : AW k g nL I L pc ls (a :: st) := fun H locs la hP hD hS hl => lv_dup X.1 X.2.1 dg (zc_cat _ ha) (h H locs la hP hD hS hl)
theorem aw_pop (X : zX k g cc own nL rt d) {a : zv} (dg : decode cc pc = .ok (.pop, 1)) (ha : z2 a = false) (h : AW k g nL I L (pc + 1) ls (st)) : AW k g nL I L pc ls (a :: st) := fun H locs la hP hD hS hl => lv_pop X.1 X.2.1 dg (zc_cat _ ha) (h H locs la hP hD hS hl)
theorem aw_dup_x1 (X : zX k g cc own nL rt d) {a b : zv} (dg : decode cc pc = .ok (.dup_x1, 1)) (ha : z2 a = false) (hb : z2 b = false) (h : AW k g nL I L (pc + 1) ls (a :: b :: a :: st)) : AW k g nL I L pc ls (a :: b :: st) := fun H locs la hP hD hS hl => lv_dup_x1 X.1 X.2.1 dg (zc_cat _ ha) (zc_cat _ hb) (h H locs la hP hD hS hl)
theorem aw_dup2 (X : zX k g cc own nL rt d) {a b : zv} (dg : decode cc pc = .ok (.dup2, 1)) (ha : z2 a = false) (hb : z2 b = false) (h : AW k g nL I L (pc + 1) ls (a :: b :: a :: b :: st)) : AW k g nL I L pc ls (a :: b :: st) := fun H locs la hP hD hS hl => lv_dup2_11 X.1 X.2.1 dg (zc_cat _ ha) (zc_cat _ hb) (h H locs la hP hD hS hl)
theorem aw_if_eq (X : zX k g cc own nL rt d) {x : Int32} {off : Int} (tgt : Nat) (dg : decode cc pc = .ok (.ifCond .eq off, 3)) (ht : (pc : Int) + off = (tgt : Int)) (ht2 : x = 0 → AW k g nL I L tgt ls st) (hf : ¬ (x = 0) → AW k g nL I L (pc + 3) ls st) : AW k g nL I L pc ls (vI x :: st) := fun H locs la hP hD hS hl => lv_if_eq X.1 X.2.1 dg ht (fun c => ht2 c H locs la hP hD hS hl) (fun c => hf c H locs la hP hD hS hl)
theorem aw_if_lt (X : zX k g cc own nL rt d) {x : Int32} {off : Int} (tgt : Nat) (dg : decode cc pc = .ok (.ifCond .lt off, 3)) (ht : (pc : Int) + off = (tgt : Int)) (ht2 : x < 0 → AW k g nL I L tgt ls st) (hf : ¬ (x < 0) → AW k g nL I L (pc + 3) ls st) : AW k g nL I L pc ls (vI x :: st) := fun H locs la hP hD hS hl => lv_if_lt X.1 X.2.1 dg ht (fun c => ht2 c H locs la hP hD hS hl) (fun c => hf c H locs la hP hD hS hl)
theorem aw_if_ge (X : zX k g cc own nL rt d) {x : Int32} {off : Int} (tgt : Nat) (dg : decode cc pc = .ok (.ifCond .ge off, 3)) (ht : (pc : Int) + off = (tgt : Int)) (ht2 : 0 ≤ x → AW k g nL I L tgt ls st) (hf : ¬ (0 ≤ x) → AW k g nL I L (pc + 3) ls st) : AW k g nL I L pc ls (vI x :: st) := fun H locs la hP hD hS hl => lv_if_ge X.1 X.2.1 dg ht (fun c => ht2 c H locs la hP hD hS hl) (fun c => hf c H locs la hP hD hS hl)
theorem aw_if_gt (X : zX k g cc own nL rt d) {x : Int32} {off : Int} (tgt : Nat) (dg : decode cc pc = .ok (.ifCond .gt off, 3)) (ht : (pc : Int) + off = (tgt : Int)) (ht2 : 0 < x → AW k g nL I L tgt ls st) (hf : ¬ (0 < x) → AW k g nL I L (pc + 3) ls st) : AW k g nL I L pc ls (vI x :: st) := fun H locs la hP hD hS hl => lv_if_gt X.1 X.2.1 dg ht (fun c => ht2 c H locs la hP hD hS hl) (fun c => hf c H locs la hP hD hS hl)
theorem aw_if_le (X : zX k g cc own nL rt d) {x : Int32} {off : Int} (tgt : Nat) (dg : decode cc pc = .ok (.ifCond .le off, 3)) (ht : (pc : Int) + off = (tgt : Int)) (ht2 : x ≤ 0 → AW k g nL I L tgt ls st) (hf : ¬ (x ≤ 0) → AW k g nL I L (pc + 3) ls st) : AW k g nL I L pc ls (vI x :: st) := fun H locs la hP hD hS hl => lv_if_le X.1 X.2.1 dg ht (fun c => ht2 c H locs la hP hD hS hl) (fun c => hf c H locs la hP hD hS hl)
theorem aw_icmp_eq (X : zX k g cc own nL rt d) {x y : Int32} {off : Int} (tgt : Nat) (dg : decode cc pc = .ok (.if_icmp .eq off, 3)) (ht : (pc : Int) + off = (tgt : Int)) (ht2 : x = y → AW k g nL I L tgt ls st) (hf : ¬ (x = y) → AW k g nL I L (pc + 3) ls st) : AW k g nL I L pc ls (vI y :: vI x :: st) := fun H locs la hP hD hS hl => lv_icmp_eq X.1 X.2.1 dg ht (fun c => ht2 c H locs la hP hD hS hl) (fun c => hf c H locs la hP hD hS hl)
theorem aw_icmp_lt (X : zX k g cc own nL rt d) {x y : Int32} {off : Int} (tgt : Nat) (dg : decode cc pc = .ok (.if_icmp .lt off, 3)) (ht : (pc : Int) + off = (tgt : Int)) (ht2 : x < y → AW k g nL I L tgt ls st) (hf : ¬ (x < y) → AW k g nL I L (pc + 3) ls st) : AW k g nL I L pc ls (vI y :: vI x :: st) := fun H locs la hP hD hS hl => lv_icmp_lt X.1 X.2.1 dg ht (fun c => ht2 c H locs la hP hD hS hl) (fun c => hf c H locs la hP hD hS hl)
theorem aw_icmp_ge (X : zX k g cc own nL rt d) {x y : Int32} {off : Int} (tgt : Nat) (dg : decode cc pc = .ok (.if_icmp .ge off, 3)) (ht : (pc : Int) + off = (tgt : Int)) (ht2 : y ≤ x → AW k g nL I L tgt ls st) (hf : ¬ (y ≤ x) → AW k g nL I L (pc + 3) ls st) : AW k g nL I L pc ls (vI y :: vI x :: st) := fun H locs la hP hD hS hl => lv_icmp_ge X.1 X.2.1 dg ht (fun c => ht2 c H locs la hP hD hS hl) (fun c => hf c H locs la hP hD hS hl)
theorem aw_icmp_gt (X : zX k g cc own nL rt d) {x y : Int32} {off : Int} (tgt : Nat) (dg : decode cc pc = .ok (.if_icmp .gt off, 3)) (ht : (pc : Int) + off = (tgt : Int)) (ht2 : y < x → AW k g nL I L tgt ls st) (hf : ¬ (y < x) → AW k g nL I L (pc + 3) ls st) : AW k g nL I L pc ls (vI y :: vI x :: st) := fun H locs la hP hD hS hl => lv_icmp_gt X.1 X.2.1 dg ht (fun c => ht2 c H locs la hP hD hS hl) (fun c => hf c H locs la hP hD hS hl)
theorem aw_icmp_le (X : zX k g cc own nL rt d) {x y : Int32} {off : Int} (tgt : Nat) (dg : decode cc pc = .ok (.if_icmp .le off, 3)) (ht : (pc : Int) + off = (tgt : Int)) (ht2 : x ≤ y → AW k g nL I L tgt ls st) (hf : ¬ (x ≤ y) → AW k g nL I L (pc + 3) ls st) : AW k g nL I L pc ls (vI y :: vI x :: st) := fun H locs la hP hD hS hl => lv_icmp_le X.1 X.2.1 dg ht (fun c => ht2 c H locs la hP hD hS hl) (fun c => hf c H locs la hP hD hS hl)
theorem aw_if_ne (X : zX k g cc own nL rt d) {x : Int32} {off : Int} (tgt : Nat) (dg : decode cc pc = .ok (.ifCond .ne off, 3)) (ht : (pc : Int) + off = (tgt : Int)) (ht2 : ¬ x = 0 → AW k g nL I L tgt ls st) (hf : x = 0 → AW k g nL I L (pc + 3) ls st) : AW k g nL I L pc ls (vI x :: st) := fun H locs la hP hD hS hl => lv_if_ne X.1 X.2.1 dg ht (fun c => ht2 c H locs la hP hD hS hl) (fun c => hf c H locs la hP hD hS hl)
theorem aw_icmp_ne (X : zX k g cc own nL rt d) {x y : Int32} {off : Int} (tgt : Nat) (dg : decode cc pc = .ok (.if_icmp .ne off, 3)) (ht : (pc : Int) + off = (tgt : Int)) (ht2 : ¬ x = y → AW k g nL I L tgt ls st) (hf : x = y → AW k g nL I L (pc + 3) ls st) : AW k g nL I L pc ls (vI y :: vI x :: st) := fun H locs la hP hD hS hl => lv_icmp_ne X.1 X.2.1 dg ht (fun c => ht2 c H locs la hP hD hS hl) (fun c => hf c H locs la hP hD hS hl)
theorem aw_goto (X : zX k g cc own nL rt d) {off : Int} (tgt : Nat) (dg : decode cc pc = .ok (.goto off, 3)) (ht : (pc : Int) + off = (tgt : Int)) (h : AW k g nL I L tgt ls st) : AW k g nL I L pc ls st := fun H locs la hP hD hS hl => lv_goto X.1 X.2.1 dg ht (h H locs la hP hD hS hl)
theorem aw_ifnull (X : zX k g cc own nL rt d) {x : Nat} {off : Int} (tgt : Nat) (dg : decode cc pc = .ok (.ifnull off, 3)) (ht : (pc : Int) + off = (tgt : Int)) (ht2 : x = 0 → AW k g nL I L tgt ls st) (hf : ¬ x = 0 → AW k g nL I L (pc + 3) ls st) : AW k g nL I L pc ls (vR x :: st) := by
  intro H locs la hP hD hS hl
  by_cases hx : x = 0
  · have h9 := ht2 hx H locs la hP hD hS hl
    subst hx
    exact lv_ifnullN X.1 X.2.1 dg ht h9
  · have h9 := hf hx H locs la hP hD hS hl
    have hz : zc (gad g) (vR x) = .ref (gad g x) := zr_n _ hx
    rw [List.map_cons, hz]
    exact lv_ifnull X.1 X.2.1 dg h9
theorem aw_ifnonnull (X : zX k g cc own nL rt d) {x : Nat} {off : Int} (tgt : Nat) (dg : decode cc pc = .ok (.ifnonnull off, 3)) (ht : (pc : Int) + off = (tgt : Int)) (ht2 : x = 0 → AW k g nL I L (pc + 3) ls st) (hf : ¬ x = 0 → AW k g nL I L tgt ls st) : AW k g nL I L pc ls (vR x :: st) := by
  intro H locs la hP hD hS hl
  by_cases hx : x = 0
  · have h9 := ht2 hx H locs la hP hD hS hl
    subst hx
    exact lv_ifnonnullN X.1 X.2.1 dg h9
  · have h9 := hf hx H locs la hP hD hS hl
    have hz : zc (gad g) (vR x) = .ref (gad g x) := zr_n _ hx
    rw [List.map_cons, hz]
    exact lv_ifnonnull X.1 X.2.1 dg ht h9
theorem aw_tableIn (X : zX k g cc own nL rt d) {x : Int32} {dflt lo hi off : Int} {offs : Array Int} {len : Nat} (i tgt : Nat) (dg : decode cc pc = .ok (.tableswitch dflt lo hi offs, len)) (hx : x.toInt = lo + i) (hh : lo + i ≤ hi) (ho : offs[i]? = some off) (ht : (pc : Int) + off = (tgt : Int)) (h : AW k g nL I L tgt ls st) : AW k g nL I L pc ls (vI x :: st) := fun H locs la hP hD hS hl => lv_tableIn X.1 X.2.1 dg (by omega) (by omega) (by rw [show (x.toInt - lo).toNat = i by omega]; exact ho) ht (h H locs la hP hD hS hl)
theorem aw_tableOut (X : zX k g cc own nL rt d) {x : Int32} {dflt lo hi : Int} {offs : Array Int} {len : Nat} (tgt : Nat) (dg : decode cc pc = .ok (.tableswitch dflt lo hi offs, len)) (hx : x.toInt < lo ∨ hi < x.toInt) (ht : (pc : Int) + dflt = (tgt : Int)) (h : AW k g nL I L tgt ls st) : AW k g nL I L pc ls (vI x :: st) := fun H locs la hP hD hS hl => lv_tableOut X.1 X.2.1 dg hx ht (h H locs la hP hD hS hl)
theorem aw_lookup (X : zX k g cc own nL rt d) {x : Int32} {dflt : Int} {ps : Array (Int × Int)} {len : Nat} (dg : decode cc pc = .ok (.lookupswitch dflt ps, len)) (hp : (ps.toList.zip (ps.toList.drop 1)).all (fun (a, next) => a.1 < next.1) = true) (tg : Nat) (ht : (pc : Int) + Op.lookupswitch.offset ps.toList dflt x.toInt = (tg : Int)) (h : AW k g nL I L tg ls st) : AW k g nL I L pc ls (vI x :: st) := fun H locs la hP hD hS hl => lv_lookup X.1 X.2.1 dg hp rfl ht (h H locs la hP hD hS hl)
end ZI
end
section
/-! FIELDS AND ARRAYS over the abstract memory -/
theorem zcell_obj {g : zG} {I : zI} {L : zL} {i ci N : Nat} (h : zsh i = (10 + ci, N)) : zcell g I L i = .inr (ci, (List.range N).map (fun k => if zfr ci k then zr (gad g) (zrf i k) else .int (I i k))) := by
  unfold zcell
  rw [h]
  show (if 10 + ci = 0 then _ else if 10 + ci = 1 then _ else if 10 + ci < 10 then _ else Sum.inr (10 + ci - 10, (List.range N).map (fun k => if zfr (10 + ci - 10) k then zr (gad g) (zrf i k) else .int (I i k)))) = _
  rw [if_neg (by omega), if_neg (by omega), if_neg (by omega), Nat.add_sub_cancel_left]
theorem zcell_i {g : zG} {I : zI} {L : zL} {i n : Nat} (h : zsh i = (0, n)) : zcell g I L i = .inl (gac g i, n, .inl (I i)) := by
  unfold zcell
  rw [h]
  rfl
theorem zcell_l {g : zG} {I : zI} {L : zL} {i n : Nat} (h : zsh i = (1, n)) : zcell g I L i = .inl (gac g i, n, .inr (.inl (L i))) := by
  unfold zcell
  rw [h]
  rfl
theorem zcell_r {g : zG} {I : zI} {L : zL} {i n kd : Nat} (h : zsh i = (kd, n)) (h2 : kd = 2 ∨ kd = 3) : zcell g I L i = .inl (gac g i, n, .inr (.inr (.inr (.inr (fun k => if zrf i k = 0 then none else some (gad g (zrf i k))))))) := by
  unfold zcell
  rw [h]
  rcases h2 with rfl | rfl <;> rfl
theorem zcell_neI {g : zG} {I : zI} {L : zL} {a k : Nat} {x : Int32} {j : Nat} (h : j ≠ a) : zcell g (zs I a k x) L j = zcell g I L j := by
  unfold zcell
  simp only [zs_nec h]
theorem zcell_neL {g : zG} {I : zI} {L : zL} {a k : Nat} {x : Int64} {j : Nat} (h : j ≠ a) : zcell g I (zs L a k x) j = zcell g I L j := by
  unfold zcell
  simp only [zs_nec h]
theorem zset_obj {ci N a kf : Nat} {x : Int32} {ad : Nat → Nat} {I : zI} (hr : zfr ci kf = false) : ((List.range N).map (fun k => if zfr ci k then zr ad (zrf a k) else .int (I a k))).set kf (.int x) = (List.range N).map (fun k => if zfr ci k then zr ad (zrf a k) else .int (zs I a kf x a k)) := by
  apply List.ext_getElem?
  intro j
  rw [List.getElem?_set, List.getElem?_map, List.getElem?_map, List.length_map, List.length_range]
  by_cases e : kf = j
  · subst e
    rw [if_pos rfl]
    by_cases hj : kf < N
    · rw [if_pos hj, List.getElem?_range hj, Option.map_some, hr, zs_same]
      rfl
    · rw [if_neg hj, List.getElem?_eq_none (by rw [List.length_range]; omega)]
      rfl
  · rw [if_neg e]
    by_cases hj : j < N
    · rw [List.getElem?_range hj, Option.map_some, Option.map_some, zs_ne (fun h => e h.2.symm)]
    · rw [List.getElem?_eq_none (by rw [List.length_range]; omega)]
      rfl
def zCl (ci N : Nat) (C : String) (T : u_T) (t0 : Nat → FieldType) : Prop := vwCl[ci]? = some (C, T, N) ∧ (∀ w ∈ u_ws C T N, w ∈ zT) ∧ (∀ k, k < N → parseFieldDescriptor (T k).2.2.1 = some (t0 k)) ∧ (∀ a, a < N → ∀ b, b < N → a ≠ b → (T a).2.1 ≠ (T b).2.1)
/-- a field as a class's constant pool names it: class ci of N slots, slot kf -/
def zF (own : String) (idx ci kf N : Nat) (C : String) (T : u_T) (t0 : Nat → FieldType) : Prop := zCl ci N C T t0 ∧ (T kf).1 = C ∧ Cond.fieldLink own idx C (T kf).2.1 (T kf).2.2.1 ∈ zT ∧ kf < N
section ZM
variable {k : zK} {g : zG} {cc : ByteArray} {own : String} {nL d pc : Nat} {rt : Option FieldType} {I : zI} {L : zL} {ls : List (Nat × zv)} {st : List zv} {idx ci kf N a : Nat} {C : String} {T : u_T} {t0 : Nat → FieldType}
theorem aw_getI (X : zX k g cc own nL rt d) (F : zF own idx ci kf N C T t0) (hr : zfr ci kf = false) (ha : zsh a = (10 + ci, N)) (dg : decode cc pc = .ok (.getfield idx, 3)) (h : AW k g nL I L (pc + 3) ls (vI (I a kf) :: st)) : AW k g nL I L pc ls (vR a :: st) := by
  intro H locs la hP hD hS hl
  have h9 := h H locs la hP hD hS hl
  obtain ⟨⟨hc, hw, -, -⟩, hC, hlk, hk⟩ := F
  have ho := zok (i := a) (by rw [ha]; show 10 + ci ≠ 9; omega)
  have he := zw_at (g := g) (I := I) (L := L) ho.1 ho.2
  rw [zcell_obj ha] at he
  have hz : zc (gad g) (vR a) = .ref (gad g a) := zr_n _ (by omega)
  rw [List.map_cons, hz]
  exact va_get X.1 X.2.1 X.2.2.2.2.1 hw X.2.2.2.1 X.2.2.2.2.2.1 hP (a - 1) he hc kf hk (X.2.2.2.2.1 _ hlk) (fun _ h => by rw [hC] at h; exact h) (by rw [List.getElem?_map, List.getElem?_range hk, Option.map_some, hr]; rfl) dg h9
theorem aw_getR (X : zX k g cc own nL rt d) (F : zF own idx ci kf N C T t0) (hr : zfr ci kf = true) {r : Nat} (ha : zsh a = (10 + ci, N)) (hv : zrf a kf = r) (dg : decode cc pc = .ok (.getfield idx, 3)) (h : AW k g nL I L (pc + 3) ls (vR r :: st)) : AW k g nL I L pc ls (vR a :: st) := by
  intro H locs la hP hD hS hl
  have h9 := h H locs la hP hD hS hl
  obtain ⟨⟨hc, hw, -, -⟩, hC, hlk, hk⟩ := F
  have ho := zok (i := a) (by rw [ha]; show 10 + ci ≠ 9; omega)
  have he := zw_at (g := g) (I := I) (L := L) ho.1 ho.2
  rw [zcell_obj ha] at he
  have hz : zc (gad g) (vR a) = .ref (gad g a) := zr_n _ (by omega)
  rw [List.map_cons, hz]
  exact va_get X.1 X.2.1 X.2.2.2.2.1 hw X.2.2.2.1 X.2.2.2.2.2.1 hP (a - 1) he hc kf hk (X.2.2.2.2.1 _ hlk) (fun _ h => by rw [hC] at h; exact h) (by rw [List.getElem?_map, List.getElem?_range hk, Option.map_some, hr, hv]; rfl) dg h9
theorem aw_putG (ty : FieldType) (X : zX k g cc own nL rt d) (F : zF own idx ci kf N C T t0) (hr : zfr ci kf = false) (hfin : (T kf).2.2.2 = false) (hty : t0 kf = ty) {x : Int32} (hn : narrow ty (.int x) = .int x) (hfit : fits ty (.int x) = true) (ha : zsh a = (10 + ci, N)) (dg : decode cc pc = .ok (.putfield idx, 3)) (h : AW k g nL (zs I a kf x) L (pc + 3) ls st) : AW k g nL I L pc ls (vI x :: vR a :: st) := by
  intro H locs la hP hD hS hl
  obtain ⟨⟨hc, hw, ht, hnm⟩, hC, hlk, hk⟩ := F
  have ho := zok (i := a) (by rw [ha]; show 10 + ci ≠ 9; omega)
  have he := zw_at (g := g) (I := I) (L := L) ho.1 ho.2
  have ez := zw_set (g := g) (I := I) (L := L) (I' := zs I a kf x) (L' := L) ho.1 ho.2 (fun j hj => zcell_neI hj) (c := .inr (ci, ((List.range N).map (fun k => if zfr ci k then zr (gad g) (zrf a k) else .int (I a k))).set kf (.int x))) (by rw [zcell_obj ha, zset_obj hr])
  rw [zcell_obj ha] at he
  have hz : zc (gad g) (vR a) = .ref (gad g a) := zr_n _ (by omega)
  rw [List.map_cons, List.map_cons, hz]
  refine va_put X.1 X.2.1 X.2.2.2.2.1 hw t0 ht hnm X.2.2.2.1 X.2.2.2.2.2.1 hP hD hS (a - 1) he hc kf hk (X.2.2.2.2.1 _ hlk) (fun _ h => by rw [hC] at h; exact h) hfin (ty := ty) (by rw [ht kf hk, hty]) hn hfit (by rw [List.length_map, List.length_range]; exact hk) dg (fun H1 locs1 hP1 hD1 hS1 => ?_)
  exact h H1 locs1 la (by rw [← ez]; exact hP1) (by rw [← ez]; exact hD1) hS1 hl
theorem aw_putI (X : zX k g cc own nL rt d) (F : zF own idx ci kf N C T t0) (hr : zfr ci kf = false) (hfin : (T kf).2.2.2 = false) (hty : t0 kf = .int) {x : Int32} (ha : zsh a = (10 + ci, N)) (dg : decode cc pc = .ok (.putfield idx, 3)) (h : AW k g nL (zs I a kf x) L (pc + 3) ls st) : AW k g nL I L pc ls (vI x :: vR a :: st) := aw_putG .int X F hr hfin hty (vp_nar_int x) rfl ha dg h
theorem aw_putZ (X : zX k g cc own nL rt d) (F : zF own idx ci kf N C T t0) (hr : zfr ci kf = false) (hfin : (T kf).2.2.2 = false) (hty : t0 kf = .boolean) {x : Int32} (hx : x = 0 ∨ x = 1) (ha : zsh a = (10 + ci, N)) (dg : decode cc pc = .ok (.putfield idx, 3)) (h : AW k g nL (zs I a kf x) L (pc + 3) ls st) : AW k g nL I L pc ls (vI x :: vR a :: st) := aw_putG .boolean X F hr hfin hty (by rcases hx with rfl | rfl <;> rfl) (by rcases hx with rfl | rfl <;> rfl) ha dg h
theorem aw_alen (X : zX k g cc own nL rt d) {kd n : Nat} {v : Int32} (ha : zsh a = (kd, n)) (hk : kd < 4) (hv : Int32.ofNat n = v) (dg : decode cc pc = .ok (.arraylength, 1)) (h : AW k g nL I L (pc + 1) ls (vI v :: st)) : AW k g nL I L pc ls (vR a :: st) := by
  intro H locs la hP hD hS hl
  have h9 := h H locs la hP hD hS hl
  have ho := zok (i := a) (by rw [ha]; show kd ≠ 9; omega)
  have he := zw_at (g := g) (I := I) (L := L) ho.1 ho.2
  have hz : zc (gad g) (vR a) = .ref (gad g a) := zr_n _ (by omega)
  rw [List.map_cons, hz]
  have hcase : kd = 0 ∨ kd = 1 ∨ kd = 2 ∨ kd = 3 := by omega
  rcases hcase with rfl | rfl | rfl | rfl
  · obtain ⟨t1, ht⟩ := zt_at (g := g) ho.1 ho.2 (ty := .int) (by rw [ha]; rfl)
    rw [zcell_i ha] at he
    exact va_alen X.1 X.2.1 X.2.2.2.2.2.1 hP (a - 1) t1 he ht hv dg h9
  · obtain ⟨t1, ht⟩ := zt_at (g := g) ho.1 ho.2 (ty := .long) (by rw [ha]; rfl)
    rw [zcell_l ha] at he
    exact va_alen X.1 X.2.1 X.2.2.2.2.2.1 hP (a - 1) t1 he ht hv dg h9
  · obtain ⟨t1, ht⟩ := zt_at (g := g) ho.1 ho.2 (ty := .object RX1) (by rw [ha]; rfl)
    rw [zcell_r ha (Or.inl rfl)] at he
    exact va_alen X.1 X.2.1 X.2.2.2.2.2.1 hP (a - 1) t1 he ht hv dg h9
  · obtain ⟨t1, ht⟩ := zt_at (g := g) ho.1 ho.2 (ty := .object RX3) (by rw [ha]; rfl)
    rw [zcell_r ha (Or.inr rfl)] at he
    exact va_alen X.1 X.2.1 X.2.2.2.2.2.1 hP (a - 1) t1 he ht hv dg h9
theorem aw_iald (X : zX k g cc own nL rt d) {n : Nat} {i : Int32} (ha : zsh a = (0, n)) (hi : vp_in i n) (dg : decode cc pc = .ok (.iaload, 1)) (h : AW k g nL I L (pc + 1) ls (vI (I a i.toNatClampNeg) :: st)) : AW k g nL I L pc ls (vI i :: vR a :: st) := by
  intro H locs la hP hD hS hl
  have h9 := h H locs la hP hD hS hl
  have ho := zok (i := a) (by rw [ha]; exact fun h => nomatch h)
  have he := zw_at (g := g) (I := I) (L := L) ho.1 ho.2
  have hz : zc (gad g) (vR a) = .ref (gad g a) := zr_n _ (by omega)
  rw [List.map_cons, List.map_cons, hz]
  obtain ⟨t1, ht⟩ := zt_at (g := g) ho.1 ho.2 (ty := .int) (by rw [ha]; rfl)
  rw [zcell_i ha] at he
  exact va_iald X.1 X.2.1 X.2.2.2.2.2.1 hP (a - 1) t1 he ht hi dg h9
theorem aw_iast (X : zX k g cc own nL rt d) {n : Nat} {i x : Int32} (ha : zsh a = (0, n)) (hi : vp_in i n) (dg : decode cc pc = .ok (.iastore, 1)) (h : AW k g nL (zs I a i.toNatClampNeg x) L (pc + 1) ls st) : AW k g nL I L pc ls (vI x :: vI i :: vR a :: st) := by
  intro H locs la hP hD hS hl
  have ho := zok (i := a) (by rw [ha]; exact fun h => nomatch h)
  have he := zw_at (g := g) (I := I) (L := L) ho.1 ho.2
  have ez := zw_set (g := g) (I := I) (L := L) (I' := zs I a i.toNatClampNeg x) (L' := L) ho.1 ho.2 (fun j hj => zcell_neI hj) (c := .inl (gac g a, n, .inl (upd (I a) i.toNatClampNeg x))) (by rw [zcell_i ha, zs_upd])
  have hz : zc (gad g) (vR a) = .ref (gad g a) := zr_n _ (by omega)
  rw [List.map_cons, List.map_cons, List.map_cons, hz]
  obtain ⟨t1, ht⟩ := zt_at (g := g) ho.1 ho.2 (ty := .int) (by rw [ha]; rfl)
  rw [zcell_i ha] at he
  refine va_iast X.1 X.2.1 X.2.2.2.2.2.1 hP hD hS (a - 1) t1 he ht hi dg (fun H1 locs1 hP1 hD1 hS1 => ?_)
  rw [ez] at hP1 hD1
  exact h H1 locs1 la hP1 hD1 hS1 hl
theorem aw_lald (X : zX k g cc own nL rt d) {n : Nat} {i : Int32} (ha : zsh a = (1, n)) (hi : vp_in i n) (dg : decode cc pc = .ok (.laload, 1)) (h : AW k g nL I L (pc + 1) ls (vL (L a i.toNatClampNeg) :: st)) : AW k g nL I L pc ls (vI i :: vR a :: st) := by
  intro H locs la hP hD hS hl
  have h9 := h H locs la hP hD hS hl
  have ho := zok (i := a) (by rw [ha]; exact fun h => nomatch h)
  have he := zw_at (g := g) (I := I) (L := L) ho.1 ho.2
  have hz : zc (gad g) (vR a) = .ref (gad g a) := zr_n _ (by omega)
  rw [List.map_cons, List.map_cons, hz]
  obtain ⟨t1, ht⟩ := zt_at (g := g) ho.1 ho.2 (ty := .long) (by rw [ha]; rfl)
  rw [zcell_l ha] at he
  exact va_lald X.1 X.2.1 X.2.2.2.2.2.1 hP (a - 1) t1 he ht hi dg h9
theorem aw_last (X : zX k g cc own nL rt d) {n : Nat} {i : Int32} {x : Int64} (ha : zsh a = (1, n)) (hi : vp_in i n) (dg : decode cc pc = .ok (.lastore, 1)) (h : AW k g nL I (zs L a i.toNatClampNeg x) (pc + 1) ls st) : AW k g nL I L pc ls (vL x :: vI i :: vR a :: st) := by
  intro H locs la hP hD hS hl
  have ho := zok (i := a) (by rw [ha]; exact fun h => nomatch h)
  have he := zw_at (g := g) (I := I) (L := L) ho.1 ho.2
  have ez := zw_set (g := g) (I := I) (L := L) (I' := I) (L' := zs L a i.toNatClampNeg x) ho.1 ho.2 (fun j hj => zcell_neL hj) (c := .inl (gac g a, n, .inr (.inl (vp_updL (L a) i.toNatClampNeg x)))) (by rw [zcell_l ha, zs_updL])
  have hz : zc (gad g) (vR a) = .ref (gad g a) := zr_n _ (by omega)
  rw [List.map_cons, List.map_cons, List.map_cons, hz]
  obtain ⟨t1, ht⟩ := zt_at (g := g) ho.1 ho.2 (ty := .long) (by rw [ha]; rfl)
  rw [zcell_l ha] at he
  refine va_last X.1 X.2.1 X.2.2.2.2.2.1 hP hD hS (a - 1) t1 he ht hi dg (fun H1 locs1 hP1 hD1 hS1 => ?_)
  rw [ez] at hP1 hD1
  exact h H1 locs1 la hP1 hD1 hS1 hl
theorem aw_aald (X : zX k g cc own nL rt d) {n kd r : Nat} {i : Int32} (ha : zsh a = (kd, n)) (hk : kd = 2 ∨ kd = 3) (hi : vp_in i n) (hv : zrf a i.toNatClampNeg = r) (dg : decode cc pc = .ok (.aaload, 1)) (h : AW k g nL I L (pc + 1) ls (vR r :: st)) : AW k g nL I L pc ls (vI i :: vR a :: st) := by
  intro H locs la hP hD hS hl
  have h9 := h H locs la hP hD hS hl
  have ho := zok (i := a) (by rw [ha]; show kd ≠ 9; omega)
  have he := zw_at (g := g) (I := I) (L := L) ho.1 ho.2
  have hz : zc (gad g) (vR a) = .ref (gad g a) := zr_n _ (by omega)
  rw [List.map_cons, List.map_cons, hz]
  rw [zcell_r ha hk] at he
  have hf : zc (gad g) (vR r) = va_rf ((fun k => if zrf a k = 0 then none else some (gad g (zrf a k))) i.toNatClampNeg) := by
    show zr (gad g) r = _
    unfold zr
    dsimp only
    rw [hv]
    split <;> rfl
  rw [List.map_cons, hf] at h9
  rcases hk with rfl | rfl
  · obtain ⟨t1, ht⟩ := zt_at (g := g) ho.1 ho.2 (ty := .object RX1) (by rw [ha]; rfl)
    exact va_aldq X.1 X.2.1 X.2.2.2.2.2.1 hP (a - 1) t1 he ht hi dg h9
  · obtain ⟨t1, ht⟩ := zt_at (g := g) ho.1 ho.2 (ty := .object RX3) (by rw [ha]; rfl)
    exact va_aldq X.1 X.2.1 X.2.2.2.2.2.1 hP (a - 1) t1 he ht hi dg h9
/-- static arrays -/
theorem aw_gets (X : zX k g cc own nL rt d) {r : Nat} {C n : String} {xs : List Int32} (hq : (r, C, n, xs) ∈ zsta) (hl : Cond.fieldLink own idx C n "[I" ∈ zT) (h0 : r ≠ 0) (dg : decode cc pc = .ok (.getstatic idx, 3)) (h : AW k g nL I L (pc + 3) ls (vR r :: st)) : AW k g nL I L pc ls st := by
  intro H locs la hP hD hS hl9
  have h9 := h H locs la hP hD hS hl9
  have hz : zc (gad g) (vR r) = .ref (gad g r) := zr_n _ h0
  rw [List.map_cons, hz] at h9
  exact va_gets X.1 X.2.1 (X.2.2.2.2.2.2.1.1 _ hq).1 hS X.2.2.2.1 (X.2.2.2.2.1 _ hl) (fun _ h => h) dg h9
theorem aw_slen (X : zX k g cc own nL rt d) {r : Nat} {C n : String} {xs : List Int32} (hq : (r, C, n, xs) ∈ zsta) (h0 : r ≠ 0) (dg : decode cc pc = .ok (.arraylength, 1)) (h : AW k g nL I L (pc + 1) ls (vI 7 :: st)) : AW k g nL I L pc ls (vR r :: st) := by
  intro H locs la hP hD hS hl9
  have h9 := h H locs la hP hD hS hl9
  have hz : zc (gad g) (vR r) = .ref (gad g r) := zr_n _ h0
  rw [List.map_cons, hz]
  exact va_tlen X.1 X.2.1 (X.2.2.2.2.2.2.1.1 _ hq).2 hS rfl dg h9
theorem aw_sald (X : zX k g cc own nL rt d) {r : Nat} {C n : String} {xs : List Int32} {i : Int32} (hq : (r, C, n, xs) ∈ zsta) (h0 : r ≠ 0) (hi : vp_in i 7) (dg : decode cc pc = .ok (.iaload, 1)) (h : AW k g nL I L (pc + 1) ls (vI (xs.getD i.toNatClampNeg 0) :: st)) : AW k g nL I L pc ls (vI i :: vR r :: st) := by
  intro H locs la hP hD hS hl9
  have h9 := h H locs la hP hD hS hl9
  have hz : zc (gad g) (vR r) = .ref (gad g r) := zr_n _ h0
  rw [List.map_cons, List.map_cons, hz]
  exact va_ti X.1 X.2.1 (X.2.2.2.2.2.2.1.1 _ hq).2 hS hi rfl dg h9
/-- Math -/
def jmax (x y : Int32) : Int32 := if x < y then y else x
def jmin (x y : Int32) : Int32 := if y < x then y else x
def jabs (x : Int32) : Int32 := if 0 ≤ x then x else 0 - x
theorem zroom (X : zX k g cc own nL rt d) (hd : 1 ≤ d) {n : Nat} (h : n ≤ 50) : 1 ≤ k.2.2.2.1.frames ∧ n + 13 ≤ k.2.2.2.1.locals := by
  obtain ⟨-, -, -, -, -, -, -, -, -, h1, h2⟩ := X
  exact ⟨by omega, by omega⟩
theorem zcsum (ad : Nat → Nat) : ∀ st : List zv, ((st.map (zc ad)).map fun v => v.category).sum ≤ 2 * st.length
  | [] => Nat.le_refl _
  | a :: st => by
    have h := zcsum ad st
    simp only [List.map_cons, List.sum_cons, List.length_cons]
    have h2 : (zc ad a).category ≤ 2 := by
      rcases a with x | x | r
      · exact Nat.le_succ 1
      · exact Nat.le_refl 2
      · rw [show zc ad (.inr (.inr r)) = zr ad r from rfl, zr_cat]; exact Nat.le_succ 1
    omega
def zMath (own : String) (idx : Nat) (y : MethodName) (cc : ByteArray) (n : Nat) : Prop := Cond.methodLink own idx y ∈ zT ∧ Cond.static y ∈ zT ∧ Cond.initialized "java/lang/Math" ∈ zT ∧ Cond.code y cc n (some .int) ∈ zT
theorem aw_max (X : zX k g cc own nL rt d) (hd : 1 ≤ d) (hs : st.length ≤ 4) (hw : zMath own idx Lib.Math.max.name Lib.Math.max.code 2) {x y : Int32} (dg : decode cc pc = .ok (.invokestatic idx, 3)) (h : AW k g nL I L (pc + 3) ls (vI (jmax x y) :: st)) : AW k g nL I L pc ls (vI y :: vI x :: st) := fun H locs la hP hD hS hl =>
  va_mmax X.1 X.2.1 (X.2.2.1.trans hl.1.symm) X.2.2.2.1 (X.2.2.2.2.1 _ hw.1) (X.2.2.2.2.1 _ hw.2.1) (X.2.2.2.2.1 _ hw.2.2.1) (X.2.2.2.2.1 _ hw.2.2.2) (zroom X hd (n := 0) (by omega)).1 (zroom X hd (by have := zcsum (gad g) st; omega)).2 (Nat.zero_le _) (Nat.zero_le _) dg (h H locs la hP hD hS hl)
theorem aw_min (X : zX k g cc own nL rt d) (hd : 1 ≤ d) (hs : st.length ≤ 4) (hw : zMath own idx Lib.Math.min.name Lib.Math.min.code 2) {x y : Int32} (dg : decode cc pc = .ok (.invokestatic idx, 3)) (h : AW k g nL I L (pc + 3) ls (vI (jmin x y) :: st)) : AW k g nL I L pc ls (vI y :: vI x :: st) := fun H locs la hP hD hS hl =>
  va_mmin X.1 X.2.1 (X.2.2.1.trans hl.1.symm) X.2.2.2.1 (X.2.2.2.2.1 _ hw.1) (X.2.2.2.2.1 _ hw.2.1) (X.2.2.2.2.1 _ hw.2.2.1) (X.2.2.2.2.1 _ hw.2.2.2) (zroom X hd (n := 0) (by omega)).1 (zroom X hd (by have := zcsum (gad g) st; omega)).2 (Nat.zero_le _) (Nat.zero_le _) dg (h H locs la hP hD hS hl)
theorem aw_abs (X : zX k g cc own nL rt d) (hd : 1 ≤ d) (hs : st.length ≤ 4) (hw : zMath own idx Lib.Math.abs.name Lib.Math.abs.code 1) {x : Int32} (dg : decode cc pc = .ok (.invokestatic idx, 3)) (h : AW k g nL I L (pc + 3) ls (vI (jabs x) :: st)) : AW k g nL I L pc ls (vI x :: st) := fun H locs la hP hD hS hl =>
  va_mabs X.1 X.2.1 (X.2.2.1.trans hl.1.symm) X.2.2.2.1 (X.2.2.2.2.1 _ hw.1) (X.2.2.2.2.1 _ hw.2.1) (X.2.2.2.2.1 _ hw.2.2.1) (X.2.2.2.2.1 _ hw.2.2.2) (zroom X hd (n := 0) (by omega)).1 (zroom X hd (by have := zcsum (gad g) st; omega)).2 (Nat.zero_le _) (Nat.zero_le _) dg (h H locs la hP hD hS hl)
end ZM
end
section
/-! RETURNS, ENTRIES, CALLS over the abstract memory -/
/-- where the walk is to end: Q at the method's return -/
def zE (k : zK) (g : zG) (Q : Option zv → zI → zL → Prop) : Prop := k.2.2.2.2.2.2.2.2.2.2 = MQ k.2.2.2.2.2.2.2.1 (zQ g Q) k.2.2.2.2.2.2.1 (ks k) 0 0 (gA g)
section ZR
variable {k : zK} {g : zG} {cc : ByteArray} {own : String} {nL d pc : Nat} {rt : Option FieldType} {I : zI} {L : zL} {ls : List (Nat × zv)} {st : List zv} {Q : Option zv → zI → zL → Prop}
theorem zWd (X : zX k g cc own nL rt d) {H : Heap} {locs : List Loc} (hP : va_P (gD g) vwCl (zw g I L) H) (hD : va_D (gA g) (zw g I L)) (hS : va_S (gA g) (ks k).heap H locs) {U : State} (ht : U.heap = H) (hW : (ks k).WarmedH U.vm) : Wd g I L U U.heap := by
  rw [ht]
  exact ⟨hP, hD, va_K.moved hW.alike X.2.2.2.2.2.1, zSt.go hW hS.2.1 X.2.2.2.2.2.2.1⟩
theorem zEnd (X : zX k g cc own nL rt d) {H : Heap} {locs : List Loc} (hP : va_P (gD g) vwCl (zw g I L) H) (hD : va_D (gA g) (zw g I L)) (hS : va_S (gA g) (ks k).heap H locs) (v : Option zv) (hq : Q v I L) {oc : Outcome} (hoc : oc = .returned (v.map (zc (gad g)))) : ∀ t : State, t.heap = H → (ks k).WarmedH t.vm → zQ g Q k.2.2.2.2.2.2.1 (ks k) oc t :=
  fun t ht hW => ⟨⟨v, I, L, hoc, hq, zWd X hP hD hS ht hW⟩, hS.F ht⟩
theorem aw_iret (X : zX k g cc own nL rt d) (E : zE k g Q) (hr : rt = some .int) {x : Int32} (dg : decode cc pc = .ok (.ireturn, 1)) (hq : Q (some (vI x)) I L) : AW k g nL I L pc ls [vI x] := by
  intro H locs la hP hD hS hl
  unfold zW
  rw [show k.2.2.2.2.2.2.2.2.2.2 = _ from E]
  exact W.iret X.1 X.2.1 (by rw [X.2.2.2.2.2.2.2.2.1, hr]) (zEnd X hP hD hS (some (vI x)) hq rfl) hS.2.2 dg X.2.2.2.2.2.2.2.1
theorem aw_nret (ty : FieldType) (X : zX k g cc own nL rt d) (E : zE k g Q) (hr : rt = some ty) {x : Int32} (hn : narrow ty (.int x) = .int x) (dg : decode cc pc = .ok (.ireturn, 1)) (hq : Q (some (vI x)) I L) : AW k g nL I L pc ls [vI x] := by
  intro H locs la hP hD hS hl
  unfold zW
  rw [show k.2.2.2.2.2.2.2.2.2.2 = _ from E]
  exact W.zret X.1 X.2.1 (by rw [X.2.2.2.2.2.2.2.2.1, hr]) hn (zEnd X hP hD hS (some (vI x)) hq rfl) hS.2.2 dg X.2.2.2.2.2.2.2.1
theorem aw_zret (X : zX k g cc own nL rt d) (E : zE k g Q) (hr : rt = some .boolean) {x : Int32} (hx : x = 0 ∨ x = 1) (dg : decode cc pc = .ok (.ireturn, 1)) (hq : Q (some (vI x)) I L) : AW k g nL I L pc ls [vI x] := aw_nret .boolean X E hr (by rcases hx with rfl | rfl <;> rfl) dg hq
theorem aw_lret (X : zX k g cc own nL rt d) (E : zE k g Q) (hr : rt = some .long) {x : Int64} (dg : decode cc pc = .ok (.lreturn, 1)) (hq : Q (some (vL x)) I L) : AW k g nL I L pc ls [vL x] := by
  intro H locs la hP hD hS hl
  unfold zW
  rw [show k.2.2.2.2.2.2.2.2.2.2 = _ from E]
  exact W.lret X.1 X.2.1 (by rw [X.2.2.2.2.2.2.2.2.1, hr]) (zEnd X hP hD hS (some (vL x)) hq rfl) hS.2.2 dg X.2.2.2.2.2.2.2.1
theorem aw_vret (X : zX k g cc own nL rt d) (E : zE k g Q) (hr : rt = none) (dg : decode cc pc = .ok (.return_, 1)) (hq : Q none I L) : AW k g nL I L pc ls [] := by
  intro H locs la hP hD hS hl
  unfold zW
  rw [show k.2.2.2.2.2.2.2.2.2.2 = _ from E]
  exact W.vret X.1 X.2.1 (by rw [X.2.2.2.2.2.2.2.2.1, hr]) (zEnd X hP hD hS none hq rfl) hS.2.2 dg X.2.2.2.2.2.2.2.1
theorem aw_aret (X : zX k g cc own nL rt d) (E : zE k g Q) {C : String} (hr : rt = some (.object C)) {x : Nat} (dg : decode cc pc = .ok (.areturn, 1)) (hq : Q (some (vR x)) I L) : AW k g nL I L pc ls [vR x] := by
  intro H locs la hP hD hS hl
  unfold zW
  rw [show k.2.2.2.2.2.2.2.2.2.2 = _ from E]
  exact W.aret X.1 X.2.1 (by rw [X.2.2.2.2.2.2.2.2.1, hr]) (Or.inl ⟨C, rfl⟩) (by
    show zr (gad g) x = .null ∨ ∃ a, zr (gad g) x = .ref a
    unfold zr
    split
    · exact Or.inl rfl
    · exact Or.inr ⟨_, rfl⟩) (zEnd X hP hD hS (some (vR x)) hq rfl) hS.2.2 dg X.2.2.2.2.2.2.2.1
/-- entry -/
def zargs : Nat → List zv → List (Nat × zv)
  | _, [] => []
  | i, v :: vs => (i, v) :: zargs (if z2 v then i + 2 else i + 1) vs
def zlen : List zv → Nat
  | [] => 0
  | v :: vs => (if z2 v then 2 else 1) + zlen vs
theorem zc_cat2' (ad : Nat → Nat) (v : zv) : ((zc ad v).category = 2) ↔ z2 v = true := by
  rw [← zc_cat2 ad v]
  exact (beq_iff_eq).symm
theorem zargs_eq (ad : Nat → Nat) : ∀ (vs : List zv) (i : Nat), lv_args i (vs.map (zc ad)) = (zargs i vs).map fun q => (q.1, zc ad q.2)
  | [], _ => rfl
  | v :: vs, i => by
    show (i, zc ad v) :: lv_args (if (zc ad v).category = 2 then i + 2 else i + 1) (vs.map (zc ad)) = (i, zc ad v) :: (zargs (if z2 v then i + 2 else i + 1) vs).map _
    rw [zargs_eq ad vs]
    simp only [zc_cat2']
theorem zlen_eq (ad : Nat → Nat) : ∀ (vs : List zv), (lg_sl (vs.map (zc ad))).length = zlen vs
  | [] => rfl
  | v :: vs => by
    have h := zlen_eq ad vs
    unfold lg_sl at h ⊢
    rw [List.map_cons, List.flatMap_cons, List.length_append, h]
    show _ = (if z2 v then 2 else 1) + zlen vs
    simp only [zc_cat2']
    split <;> rfl
theorem aw_entry {l : Launch} {M : zM} {as : List zv} (hy : plainName M.1.cls = true) (hlen : zlen as ≤ M.2.2.1) (h : ∀ k : zK, kl k = l → zX k g M.2.1 M.1.cls M.2.2.1 M.2.2.2 d → zE k g Q → AW k g M.2.2.1 I L 0 (zargs 0 as) []) : Call l g d M as I L Q := by
  unfold Call
  refine Met.ofW (cc := M.2.1) (maxL := M.2.2.1) (ret := M.2.2.2) hy rfl ?_
  intro p e s m args below meth c s₁ B hml hv
  obtain ⟨rfl, hP, hD, hK, hSt⟩ := hv
  have hts := atoms_spec (ws := Cond.code M.1 M.2.1 M.2.2.1 M.2.2.2 :: zT) B.pre
  have X : zX (p, l, e, (headSpec (Cond.code M.1 M.2.1 M.2.2.1 M.2.2.2 :: zT) (zRm d)).room, s, m, (as.map (zc (gad g))).toArray, below, meth, c, MQ below (zQ g Q) (as.map (zc (gad g))).toArray s 0 0 (gA g)) g M.2.1 M.1.cls M.2.2.1 M.2.2.2 d :=
    ⟨B.exec, B.bytes, hml, findClass_of_methodNamed B.named, fun w hw => hts w (List.mem_cons_of_mem _ hw), hK, hSt, B.notSynchronized, B.returns, Nat.le_refl _, Nat.le_refl _⟩
  have hl := lv_entry (as.map (zc (gad g))) (n := M.2.2.1) (by rw [zlen_eq]; exact hlen)
  rw [zargs_eq] at hl
  rw [lg_entry_eq]
  exact h _ rfl X rfl s.heap [] _ hP hD va_S.rf hl
/-- behind a call -/
theorem aw_after (X : zX k g cc own nL rt d) {Q' : Option zv → zI → zL → Prop} {H : Heap} {locs : List Loc} {la : Array Slot} {st0 : List Value} {a : Array Value} (hr : va_Run k.1 (kl k) k.2.2.1 k.2.2.2.1 (ks k) (km k) k.2.2.2.2.2.2.1 k.2.2.2.2.2.2.2.1 k.2.2.2.2.2.2.2.2.1 k.2.2.2.2.2.2.2.2.2.1 H locs 0 0 0 0 (F0 (km k) pc la st0) (st.map (zc (gad g))) (zQ g Q' a) (gA g))
    (hS : va_S (gA g) (ks k).heap H locs) (hl : lv_has la nL (ls.map fun q => (q.1, zc (gad g) q.2))) (kk : ∀ v I' L', Q' v I' L' → AW k g nL I' L' (pc + 3) ls (v.toList ++ st)) : zW k H locs (F0 (km k) pc la st0) := by
  intro T hT X9
  obtain ⟨v, st₀, t, T', Lc, h0, X', hL, e1, e2, ⟨⟨v', I', L', hv, hq, hWd⟩, hz, hk⟩, hgo⟩ := hr T hT X9
  have hv' : v = v'.map (zc (gad g)) := by injection hv
  subst hv'
  rw [h0] at hz hk
  have hS' : va_S (gA g) (ks k).heap T'.heap (locs ++ Lc) := ⟨Nat.le_trans hS.1 (by rw [e1]; exact hz), fun q h1 h2 => by rw [e1, hk q (Nat.lt_of_lt_of_le h1 hS.1) h2]; exact hS.2.1 q h1 h2, fun q hq => by
      rcases List.mem_append.mp hq with h | h
      · exact hS.2.2 q h
      · exact hL q h⟩
  obtain ⟨t2, a1, b1⟩ := kk v' I' L' hq T'.heap (locs ++ Lc) la (by rw [e1]; exact hWd.1) hWd.2.1 hS' hl T' rfl X'
  refine ⟨t2, hgo t2 ?_, b1⟩
  cases v' with
  | none => exact a1
  | some x => exact a1
/-- a method's own facts, for a call of it -/
def zMd (M : zM) (n : Nat) : Prop := Cond.initialized M.1.cls ∈ zT ∧ Cond.code M.1 M.2.1 M.2.2.1 M.2.2.2 ∈ zT ∧ (M.1.cls ≠ "java/lang/invoke/MethodHandle" ∧ M.1.cls ≠ "java/lang/invoke/VarHandle" ∧ (parseMethodDescriptor M.1.desc).map (fun d => d.parameters.length) = some n) ∧ M.2.2.1 ≤ 40
/-- a method of a class of ours, called by invokevirtual -/
def zMV (M : zM) (n ci N : Nat) : Prop := zMd M n ∧ Cond.instanceMethod M.1 ∈ zT ∧ Cond.selects M.1.cls M.1 M.1 ∈ zT ∧ ∃ T, vwCl[ci]? = some (M.1.cls, T, N)
def zMS (M : zM) (n : Nat) : Prop := zMd M n ∧ Cond.static M.1 ∈ zT
theorem zgood {w : Cond} (h : w ∈ zT) : w ∈ zT ∧ ((w.onTables && w.keeps) = true ∨ ∃ ty, w = .arrayClass ty) := ⟨h, good_of_word (List.mem_filter.mp h).2⟩
theorem zblind {as : List zv} : FrameBlind (zPc g as I L) := fun a U gf mk q => by
  obtain ⟨q0, qP, qD, qK, qS⟩ := q
  exact ⟨q0, qP, qD, va_K.moved (u := U) (U := U.calling gf mk a) (Vm.Alike.refl U.vm) qK, zSt.blind rfl qS⟩
theorem zrest (ad : Nat → Nat) {st : List zv} (h : st.length ≤ 4) : ((st.map (zc ad)).map fun v => v.category).sum ≤ 8 := by
  have := zcsum ad st
  omega
theorem aw_callV (X : zX k g cc own nL rt d) {d' idx n ci N recv : Nat} {M : zM} {as st0 : List zv} {Q' : Option zv → zI → zL → Prop} (hM : zMV M n ci N) (hw : Cond.methodLink own idx M.1 ∈ zT) (hC : Call (kl k) g d' M (vR recv :: as) I L Q') (hsh : zsh recv = (10 + ci, N)) (hst : st0 = as.reverse ++ vR recv :: st) (hn : as.length = n) (hd : d' + 1 ≤ d) (hs : st.length ≤ 4) (dg : decode cc pc = .ok (.invokevirtual idx, 3))
    (kk : ∀ v I' L', Q' v I' L' → AW k g nL I' L' (pc + 3) ls (v.toList ++ st)) : AW k g nL I L pc ls st0 := by
  intro H locs la hP hD hS hl
  obtain ⟨⟨hini, hcode, hdesc, hmx⟩, hin, hsel, T, hvc⟩ := hM
  have ho := zok (i := recv) (by rw [hsh]; show 10 + ci ≠ 9; omega)
  have he := zw_at (g := g) (I := I) (L := L) ho.1 ho.2
  rw [zcell_obj hsh] at he
  have hz : zc (gad g) (vR recv) = .ref (gad g recv) := zr_n _ (by omega)
  have hG : GoodIn zT (wsV own idx M.1.cls M.1 (Cond.code M.1 M.2.1 M.2.2.1 M.2.2.2 :: zT)) := by
    intro w hw9
    unfold wsV at hw9
    rcases List.mem_append.mp hw9 with h | h
    · simp only [List.mem_cons, List.not_mem_nil, or_false] at h
      rcases h with rfl | rfl | rfl | rfl
      · exact zgood hw
      · exact zgood hin
      · exact zgood hsel
      · exact zgood hini
    · rcases List.mem_cons.mp h with rfl | h
      · exact zgood hcode
      · exact zgood h
  refine aw_after X (st := st) (ls := ls) (va_runV (C := M.1.cls) (b := gad g recv) (As := as.map (zc (gad g))) (rest := st.map (zc (gad g))) (n := n) ⟨X.1, X.2.1, X.2.2.1, X.2.2.2.1, X.2.2.2.2.1⟩ hC (cwV n X.2.2.2.2.1 hG rfl rfl rfl ⟨rfl, hdesc⟩ ⟨?_, ?_⟩) ⟨zblind, va_recv X.2.2.2.2.2.1 hP hvc he, fun U hU hW => ⟨?_, zWd X hP hD hS hU hW⟩⟩ rfl (by rw [List.length_map]; exact hn) hl.1 ?_ (lv_room (zrest (gad g) hs)) dg ⟨Nat.zero_le _, Nat.zero_le _⟩) hS hl kk
  · exact Nat.le_trans hd X.2.2.2.2.2.2.2.2.2.1
  · have := X.2.2.2.2.2.2.2.2.2.2
    show 8 + (M.2.2.1 + 11) + 64 * d' ≤ _
    omega
  · rw [List.map_cons, hz]
  · show st0.map (zc (gad g)) = _
    rw [hst, List.map_append, List.map_reverse, List.map_cons, hz]
theorem aw_callS (X : zX k g cc own nL rt d) {d' idx n : Nat} {M : zM} {as st0 : List zv} {Q' : Option zv → zI → zL → Prop} (hM : zMS M n) (hw : Cond.methodLink own idx M.1 ∈ zT) (hC : Call (kl k) g d' M as I L Q') (hst : st0 = as.reverse ++ st) (hn : as.length = n) (hd : d' + 1 ≤ d) (hs : st.length ≤ 4) (dg : decode cc pc = .ok (.invokestatic idx, 3))
    (kk : ∀ v I' L', Q' v I' L' → AW k g nL I' L' (pc + 3) ls (v.toList ++ st)) : AW k g nL I L pc ls st0 := by
  intro H locs la hP hD hS hl
  obtain ⟨⟨hini, hcode, hdesc, hmx⟩, hst9⟩ := hM
  have hG : GoodIn zT (va_wsS own idx M.1 (Cond.code M.1 M.2.1 M.2.2.1 M.2.2.2 :: zT)) := by
    intro w hw9
    unfold va_wsS at hw9
    rcases List.mem_append.mp hw9 with h | h
    · simp only [List.mem_cons, List.not_mem_nil, or_false] at h
      rcases h with rfl | rfl | rfl
      · exact zgood hw
      · exact zgood hst9
      · exact zgood hini
    · rcases List.mem_cons.mp h with rfl | h
      · exact zgood hcode
      · exact zgood h
  refine aw_after X (st := st) (ls := ls) (va_runS (As := as.map (zc (gad g))) (rest := st.map (zc (gad g))) (n := n) ⟨X.1, X.2.1, X.2.2.1, X.2.2.2.1, X.2.2.2.2.1⟩ hC (va_cwS n X.2.2.2.2.1 hG rfl rfl rfl hdesc ⟨?_, ?_⟩) ⟨zblind, fun U hU hW => ⟨rfl, zWd X hP hD hS hU hW⟩⟩ rfl (by rw [List.length_map]; exact hn) hl.1 ?_ (lv_room (zrest (gad g) hs)) dg ⟨Nat.zero_le _, Nat.zero_le _⟩) hS hl kk
  · exact Nat.le_trans hd X.2.2.2.2.2.2.2.2.2.1
  · have := X.2.2.2.2.2.2.2.2.2.2
    show 8 + (M.2.2.1 + 11) + 64 * d' ≤ _
    omega
  · show st0.map (zc (gad g)) = _
    rw [hst, List.map_append, List.map_reverse]
end ZR
end
section
/-! rows for the printed walks -/
theorem zifp {c : Prop} [Decidable c] {a b : Prop} (hc : c) (h : if c then a else b) : a := by rw [if_pos hc] at h; exact h
theorem zifn {c : Prop} [Decidable c] {a b : Prop} (hc : ¬ c) (h : if c then a else b) : b := by rw [if_neg hc] at h; exact h
theorem ztn {x v : Int32} {n : Int} (hv : v.toInt = n) (h : ¬ x = v) : ¬ x.toInt = n := fun e => h (Int32.toInt_inj.mp (e.trans hv.symm))
theorem zlt {i : Int32} {n : Nat} (h : vp_in i n) : i.toNatClampNeg < n := Nat.not_le.mp fun q => h (Or.inr q)
theorem zne0 {p c n : Nat} (h : zsh p = (10 + c, n)) : ¬ p = 0 := fun e => by
  have := (zok (i := p) (by rw [h]; show 10 + c ≠ 9; omega)).1
  omega
theorem zall {P : Nat → Prop} [DecidablePred P] {sh : Nat × Nat} (hs : sh.1 ≠ 9) (h : ∀ p, p < 106 → zsh p = sh → P p) {p : Nat} (hp : zsh p = sh) : P p := by
  have := zok (i := p) (by rw [hp]; exact hs)
  exact h p (Nat.lt_succ_of_le this.2) hp
theorem zL1 {p : Nat} (h : zsh p = (11, 6)) : zrf p 5 = p + 1 ∧ zsh (p + 1) = (0, 16) := zall (P := fun p => zrf p 5 = p + 1 ∧ zsh (p + 1) = (0, 16)) (by decide) (by decide +kernel) h
theorem zL3 {p : Nat} (h : zsh p = (13, 5)) : zrf p 0 = p + 1 ∧ zsh (p + 1) = (1, 160) := zall (P := fun p => zrf p 0 = p + 1 ∧ zsh (p + 1) = (1, 160)) (by decide) (by decide +kernel) h
theorem zL4 {p : Nat} (h : zsh p = (14, 10)) : (zrf p 0 = p + 1 ∧ zsh (p + 1) = (0, 8)) ∧ (zrf p 1 = p + 2 ∧ zsh (p + 2) = (2, 8)) ∧ ∀ i, i < 8 → zrf (p + 2) i = p + 3 + 2 * i ∧ zsh (p + 3 + 2 * i) = (11, 6) := zall (P := fun p => (zrf p 0 = p + 1 ∧ zsh (p + 1) = (0, 8)) ∧ (zrf p 1 = p + 2 ∧ zsh (p + 2) = (2, 8)) ∧ ∀ i, i < 8 → zrf (p + 2) i = p + 3 + 2 * i ∧ zsh (p + 3 + 2 * i) = (11, 6)) (by decide) (by decide +kernel) h
theorem zL65 : ∀ i, i < 8 → zrf 65 i = 66 + 2 * i ∧ zsh (66 + 2 * i) = (13, 5) := by decide +kernel
section ZP
variable {k : zK} {g : zG} {cc : ByteArray} {own : String} {nL d pc : Nat} {rt : Option FieldType} {I : zI} {L : zL} {ls : List (Nat × zv)} {st : List zv} {a n j : Nat} {i x y : Int32}
theorem aw_if_gen (X : zX k g cc own nL rt d) {off : Int} (tgt : Nat) (dg : decode cc pc = .ok (.ifCond .ge off, 3)) (ht : (pc : Int) + off = (tgt : Int)) (hf : x < 0 → AW k g nL I L (pc + 3) ls st) (h : ¬ x < 0 → AW k g nL I L tgt ls st) : AW k g nL I L pc ls (vI x :: st) := aw_if_ge X tgt dg ht (fun c => h (Int32.not_lt.mpr c)) (fun c => hf (Int32.not_le.mp c))
theorem aw_if_len (X : zX k g cc own nL rt d) {off : Int} (tgt : Nat) (dg : decode cc pc = .ok (.ifCond .le off, 3)) (ht : (pc : Int) + off = (tgt : Int)) (hf : 0 < x → AW k g nL I L (pc + 3) ls st) (h : ¬ 0 < x → AW k g nL I L tgt ls st) : AW k g nL I L pc ls (vI x :: st) := aw_if_le X tgt dg ht (fun c => h (Int32.not_lt.mpr c)) (fun c => hf (Int32.not_le.mp c))
theorem aw_icmp_gen (X : zX k g cc own nL rt d) {off : Int} (tgt : Nat) (dg : decode cc pc = .ok (.if_icmp .ge off, 3)) (ht : (pc : Int) + off = (tgt : Int)) (hf : x < y → AW k g nL I L (pc + 3) ls st) (h : ¬ x < y → AW k g nL I L tgt ls st) : AW k g nL I L pc ls (vI y :: vI x :: st) := aw_icmp_ge X tgt dg ht (fun c => h (Int32.not_lt.mpr c)) (fun c => hf (Int32.not_le.mp c))
theorem aw_icmp_len (X : zX k g cc own nL rt d) {off : Int} (tgt : Nat) (dg : decode cc pc = .ok (.if_icmp .le off, 3)) (ht : (pc : Int) + off = (tgt : Int)) (hf : y < x → AW k g nL I L (pc + 3) ls st) (h : ¬ y < x → AW k g nL I L tgt ls st) : AW k g nL I L pc ls (vI y :: vI x :: st) := aw_icmp_le X tgt dg ht (fun c => h (Int32.not_lt.mpr c)) (fun c => hf (Int32.not_le.mp c))
theorem aw_ialdj (X : zX k g cc own nL rt d) (ha : zsh a = (0, n)) (hi : vp_in i n) (hj : i.toNatClampNeg = j) (dg : decode cc pc = .ok (.iaload, 1)) (h : AW k g nL I L (pc + 1) ls (vI (I a j) :: st)) : AW k g nL I L pc ls (vI i :: vR a :: st) := by
  subst hj; exact aw_iald X ha hi dg h
theorem aw_iastj (X : zX k g cc own nL rt d) (ha : zsh a = (0, n)) (hi : vp_in i n) (hj : i.toNatClampNeg = j) (dg : decode cc pc = .ok (.iastore, 1)) (h : AW k g nL (zs I a j x) L (pc + 1) ls st) : AW k g nL I L pc ls (vI x :: vI i :: vR a :: st) := by
  subst hj; exact aw_iast X ha hi dg h
theorem aw_laldj (X : zX k g cc own nL rt d) (ha : zsh a = (1, n)) (hi : vp_in i n) (hj : i.toNatClampNeg = j) (dg : decode cc pc = .ok (.laload, 1)) (h : AW k g nL I L (pc + 1) ls (vL (L a j) :: st)) : AW k g nL I L pc ls (vI i :: vR a :: st) := by
  subst hj; exact aw_lald X ha hi dg h
theorem aw_lastj (X : zX k g cc own nL rt d) {x : Int64} (ha : zsh a = (1, n)) (hi : vp_in i n) (hj : i.toNatClampNeg = j) (dg : decode cc pc = .ok (.lastore, 1)) (h : AW k g nL I (zs L a j x) (pc + 1) ls st) : AW k g nL I L pc ls (vL x :: vI i :: vR a :: st) := by
  subst hj; exact aw_last X ha hi dg h
theorem aw_perm {ks9 : List (Nat × zv)} (is : List Nat) (hs : is.map (fun i => ls[i]?) = ks9.map some) (h : AW k g nL I L pc ks9 st) : AW k g nL I L pc ls st := aw_sub ks9 (fun q hq => by
  have h1 : some q ∈ is.map (fun i => ls[i]?) := by rw [hs]; exact List.mem_map.mpr ⟨q, hq, rfl⟩
  obtain ⟨j, -, hj⟩ := List.mem_map.mp h1
  exact List.mem_of_getElem? hj) h
theorem aw_swp {dflt : Int} {ps : Array (Int × Int)} {len : Nat} (X : zX k g cc own nL rt d) (tg : Nat) (v o : Int) (dg : decode cc pc = .ok (.lookupswitch dflt ps, len)) (hp : (ps.toList.zip (ps.toList.drop 1)).all (fun (a, next) => a.1 < next.1) = true) (hx : x.toInt = v) (ho : Op.lookupswitch.offset ps.toList dflt v = o) (ht : (pc : Int) + o = (tg : Int)) (h : AW k g nL I L tg ls st) : AW k g nL I L pc ls (vI x :: st) := aw_lookup X dg hp tg (by rw [hx, ho]; exact ht) h
theorem zdfl {d z : Int} : ∀ {ps : List (Int × Int)}, (∀ q ∈ ps, ¬ z = q.1) → Op.lookupswitch.offset ps d z = d
  | [], _ => rfl
  | (a, o) :: r, h => by
    rw [Op.lookupswitch.offset_cons, if_neg (fun e => h (a, o) List.mem_cons_self e.symm)]
    exact zdfl (fun q hq => h q (List.mem_cons_of_mem _ hq))
theorem aw_swd {dflt : Int} {ps : Array (Int × Int)} {len : Nat} (X : zX k g cc own nL rt d) (tg : Nat) (dg : decode cc pc = .ok (.lookupswitch dflt ps, len)) (hp : (ps.toList.zip (ps.toList.drop 1)).all (fun (a, next) => a.1 < next.1) = true) (hx : ∀ q ∈ ps.toList, ¬ x.toInt = q.1) (ht : (pc : Int) + dflt = (tg : Int)) (h : AW k g nL I L tg ls st) : AW k g nL I L pc ls (vI x :: st) := aw_lookup X dg hp tg (by rw [zdfl hx]; exact ht) h
end ZP
theorem zTi (i : Nat) {w : Cond} (h : lw_tbl[i]? = some w) (hg : goodWord w = true) : w ∈ zT := zT_mem (List.mem_of_getElem? h) hg
end
