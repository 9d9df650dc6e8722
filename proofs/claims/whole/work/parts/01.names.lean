-- ===== PART A: goes FIRST, ahead of the names: the tables' words, and 'selects' of the private methods out of them =====
/-- a private method of a class that the tables say can be made, by its rows of tables_1 -/
def lw_okq (q : MethodName × Nat) : Prop := (q.1.cls ≠ "java/lang/invoke/MethodHandle" ∧ q.1.cls ≠ "java/lang/invoke/VarHandle") ∧ Cond.instantiable q.1.cls q.2 ∈ tables_1 ∧ Cond.privateMethod q.1 ∈ tables_1 ∧ Cond.instanceMethod q.1 ∈ tables_1
theorem lw_p0 : lw_okq (⟨"PrintedByFrost", "shelfAt", "(I)LPrintedByFrost$Shelf;"⟩, 9) := ⟨⟨by decide +kernel, by decide +kernel⟩, List.mem_of_getElem? (i := 16) (by decide +kernel), List.mem_of_getElem? (i := 248) (by decide +kernel), List.mem_of_getElem? (i := 249) (by decide +kernel)⟩
theorem lw_p1 : lw_okq (⟨"PrintedByFrost", "refuse", "(I)I"⟩, 9) := ⟨⟨by decide +kernel, by decide +kernel⟩, List.mem_of_getElem? (i := 16) (by decide +kernel), List.mem_of_getElem? (i := 252) (by decide +kernel), List.mem_of_getElem? (i := 253) (by decide +kernel)⟩
theorem lw_p2 : lw_okq (⟨"PrintedByFrost$Shelf", "lowestBits", "(J)J"⟩, 5) := ⟨⟨by decide +kernel, by decide +kernel⟩, List.mem_of_getElem? (i := 149) (by decide +kernel), List.mem_of_getElem? (i := 279) (by decide +kernel), List.mem_of_getElem? (i := 280) (by decide +kernel)⟩
theorem lw_p3 : lw_okq (⟨"PrintedByFrost", "saidAs", "(LPrintedByFrost$Pane;I)I"⟩, 9) := ⟨⟨by decide +kernel, by decide +kernel⟩, List.mem_of_getElem? (i := 16) (by decide +kernel), List.mem_of_getElem? (i := 338) (by decide +kernel), List.mem_of_getElem? (i := 339) (by decide +kernel)⟩
theorem lw_p4 : lw_okq (⟨"PrintedByFrost", "refuseNobody", "()I"⟩, 9) := ⟨⟨by decide +kernel, by decide +kernel⟩, List.mem_of_getElem? (i := 16) (by decide +kernel), List.mem_of_getElem? (i := 426) (by decide +kernel), List.mem_of_getElem? (i := 427) (by decide +kernel)⟩
theorem lw_p5 : lw_okq (⟨"PrintedByFrost$Reader", "itemStands", "(LPrintedByFrost$Shelf;LPrintedByFrost$Street;)Z"⟩, 3) := ⟨⟨by decide +kernel, by decide +kernel⟩, List.mem_of_getElem? (i := 176) (by decide +kernel), List.mem_of_getElem? (i := 473) (by decide +kernel), List.mem_of_getElem? (i := 474) (by decide +kernel)⟩
theorem lw_p6 : lw_okq (⟨"PrintedByFrost$Reader", "failAt", "(I)Z"⟩, 3) := ⟨⟨by decide +kernel, by decide +kernel⟩, List.mem_of_getElem? (i := 176) (by decide +kernel), List.mem_of_getElem? (i := 484) (by decide +kernel), List.mem_of_getElem? (i := 485) (by decide +kernel)⟩
theorem lw_p7 : lw_okq (⟨"PrintedByFrost$Reader", "lettersStand", "(LPrintedByFrost$Shelf;Ljava/lang/String;)Z"⟩, 3) := ⟨⟨by decide +kernel, by decide +kernel⟩, List.mem_of_getElem? (i := 176) (by decide +kernel), List.mem_of_getElem? (i := 497) (by decide +kernel), List.mem_of_getElem? (i := 498) (by decide +kernel)⟩
theorem lw_p8 : lw_okq (⟨"PrintedByFrost$Reader", "signStands", "(LPrintedByFrost$Shelf;I)Z"⟩, 3) := ⟨⟨by decide +kernel, by decide +kernel⟩, List.mem_of_getElem? (i := 176) (by decide +kernel), List.mem_of_getElem? (i := 549) (by decide +kernel), List.mem_of_getElem? (i := 550) (by decide +kernel)⟩
theorem lw_p9 : lw_okq (⟨"PrintedByFrost$Reader", "numberStands", "(LPrintedByFrost$Shelf;II)Z"⟩, 3) := ⟨⟨by decide +kernel, by decide +kernel⟩, List.mem_of_getElem? (i := 176) (by decide +kernel), List.mem_of_getElem? (i := 565) (by decide +kernel), List.mem_of_getElem? (i := 566) (by decide +kernel)⟩
theorem lw_p10 : lw_okq (⟨"PrintedByFrost$Reader", "isDigitAt", "(LPrintedByFrost$Shelf;)Z"⟩, 3) := ⟨⟨by decide +kernel, by decide +kernel⟩, List.mem_of_getElem? (i := 176) (by decide +kernel), List.mem_of_getElem? (i := 569) (by decide +kernel), List.mem_of_getElem? (i := 570) (by decide +kernel)⟩
theorem lw_p11 : lw_okq (⟨"PrintedByFrost$Reader", "tell", "(ILPrintedByFrost$Street;)V"⟩, 3) := ⟨⟨by decide +kernel, by decide +kernel⟩, List.mem_of_getElem? (i := 176) (by decide +kernel), List.mem_of_getElem? (i := 573) (by decide +kernel), List.mem_of_getElem? (i := 574) (by decide +kernel)⟩
theorem lw_p12 : lw_okq (⟨"PrintedByFrost$Thought", "shapeOnGlass", "(III)I"⟩, 7) := ⟨⟨by decide +kernel, by decide +kernel⟩, List.mem_of_getElem? (i := 117) (by decide +kernel), List.mem_of_getElem? (i := 608) (by decide +kernel), List.mem_of_getElem? (i := 609) (by decide +kernel)⟩
theorem lw_p13 : lw_okq (⟨"PrintedByFrost$Pane", "freshIce", "(IIII)I"⟩, 6) := ⟨⟨by decide +kernel, by decide +kernel⟩, List.mem_of_getElem? (i := 31) (by decide +kernel), List.mem_of_getElem? (i := 626) (by decide +kernel), List.mem_of_getElem? (i := 627) (by decide +kernel)⟩
theorem lw_p14 : lw_okq (⟨"PrintedByFrost", "refuseWrong", "()I"⟩, 9) := ⟨⟨by decide +kernel, by decide +kernel⟩, List.mem_of_getElem? (i := 16) (by decide +kernel), List.mem_of_getElem? (i := 667) (by decide +kernel), List.mem_of_getElem? (i := 668) (by decide +kernel)⟩
theorem lw_p15 : lw_okq (⟨"PrintedByFrost$Thought", "readAllHours", "(LPrintedByFrost$Pane;I)V"⟩, 7) := ⟨⟨by decide +kernel, by decide +kernel⟩, List.mem_of_getElem? (i := 117) (by decide +kernel), List.mem_of_getElem? (i := 688) (by decide +kernel), List.mem_of_getElem? (i := 689) (by decide +kernel)⟩
def lw_privs_1 : List (MethodName × Nat) := [(⟨"PrintedByFrost", "shelfAt", "(I)LPrintedByFrost$Shelf;"⟩, 9), (⟨"PrintedByFrost", "refuse", "(I)I"⟩, 9), (⟨"PrintedByFrost$Shelf", "lowestBits", "(J)J"⟩, 5), (⟨"PrintedByFrost", "saidAs", "(LPrintedByFrost$Pane;I)I"⟩, 9), (⟨"PrintedByFrost", "refuseNobody", "()I"⟩, 9), (⟨"PrintedByFrost$Reader", "itemStands", "(LPrintedByFrost$Shelf;LPrintedByFrost$Street;)Z"⟩, 3), (⟨"PrintedByFrost$Reader", "failAt", "(I)Z"⟩, 3), (⟨"PrintedByFrost$Reader", "lettersStand", "(LPrintedByFrost$Shelf;Ljava/lang/String;)Z"⟩, 3), (⟨"PrintedByFrost$Reader", "signStands", "(LPrintedByFrost$Shelf;I)Z"⟩, 3), (⟨"PrintedByFrost$Reader", "numberStands", "(LPrintedByFrost$Shelf;II)Z"⟩, 3), (⟨"PrintedByFrost$Reader", "isDigitAt", "(LPrintedByFrost$Shelf;)Z"⟩, 3), (⟨"PrintedByFrost$Reader", "tell", "(ILPrintedByFrost$Street;)V"⟩, 3), (⟨"PrintedByFrost$Thought", "shapeOnGlass", "(III)I"⟩, 7), (⟨"PrintedByFrost$Pane", "freshIce", "(IIII)I"⟩, 6), (⟨"PrintedByFrost", "refuseWrong", "()I"⟩, 9), (⟨"PrintedByFrost$Thought", "readAllHours", "(LPrintedByFrost$Pane;I)V"⟩, 7)]
theorem lw_r1 : ∀ q ∈ lw_privs_1, lw_okq q := List.forall_mem_cons.mpr ⟨lw_p0, List.forall_mem_cons.mpr ⟨lw_p1, List.forall_mem_cons.mpr ⟨lw_p2, List.forall_mem_cons.mpr ⟨lw_p3, List.forall_mem_cons.mpr ⟨lw_p4, List.forall_mem_cons.mpr ⟨lw_p5, List.forall_mem_cons.mpr ⟨lw_p6, List.forall_mem_cons.mpr ⟨lw_p7, List.forall_mem_cons.mpr ⟨lw_p8, List.forall_mem_cons.mpr ⟨lw_p9, List.forall_mem_cons.mpr ⟨lw_p10, List.forall_mem_cons.mpr ⟨lw_p11, List.forall_mem_cons.mpr ⟨lw_p12, List.forall_mem_cons.mpr ⟨lw_p13, List.forall_mem_cons.mpr ⟨lw_p14, List.forall_mem_cons.mpr ⟨lw_p15, fun _ h => absurd h List.not_mem_nil⟩⟩⟩⟩⟩⟩⟩⟩⟩⟩⟩⟩⟩⟩⟩⟩
theorem lw_p16 : lw_okq (⟨"PrintedByFrost", "areLetters", "(LPrintedByFrost$Shelf;I)Z"⟩, 9) := ⟨⟨by decide +kernel, by decide +kernel⟩, List.mem_of_getElem? (i := 16) (by decide +kernel), List.mem_of_getElem? (i := 708) (by decide +kernel), List.mem_of_getElem? (i := 709) (by decide +kernel)⟩
theorem lw_p17 : lw_okq (⟨"PrintedByFrost$Thought", "lettersRightOnGlass", "(LPrintedByFrost$Shelf;II)I"⟩, 7) := ⟨⟨by decide +kernel, by decide +kernel⟩, List.mem_of_getElem? (i := 117) (by decide +kernel), List.mem_of_getElem? (i := 717) (by decide +kernel), List.mem_of_getElem? (i := 718) (by decide +kernel)⟩
theorem lw_p18 : lw_okq (⟨"PrintedByFrost$Thought", "rightBy", "(ILPrintedByFrost$Shelf;)I"⟩, 7) := ⟨⟨by decide +kernel, by decide +kernel⟩, List.mem_of_getElem? (i := 117) (by decide +kernel), List.mem_of_getElem? (i := 727) (by decide +kernel), List.mem_of_getElem? (i := 728) (by decide +kernel)⟩
theorem lw_p19 : lw_okq (⟨"PrintedByFrost$Thought", "isChosen", "(II)Z"⟩, 7) := ⟨⟨by decide +kernel, by decide +kernel⟩, List.mem_of_getElem? (i := 117) (by decide +kernel), List.mem_of_getElem? (i := 731) (by decide +kernel), List.mem_of_getElem? (i := 732) (by decide +kernel)⟩
theorem lw_p20 : lw_okq (⟨"PrintedByFrost$Thought", "lettersAmongReadings", "()I"⟩, 7) := ⟨⟨by decide +kernel, by decide +kernel⟩, List.mem_of_getElem? (i := 117) (by decide +kernel), List.mem_of_getElem? (i := 747) (by decide +kernel), List.mem_of_getElem? (i := 748) (by decide +kernel)⟩
theorem lw_p21 : lw_okq (⟨"PrintedByFrost$Street", "fewestUnlike", "(II)I"⟩, 10) := ⟨⟨by decide +kernel, by decide +kernel⟩, List.mem_of_getElem? (i := 24) (by decide +kernel), List.mem_of_getElem? (i := 792) (by decide +kernel), List.mem_of_getElem? (i := 793) (by decide +kernel)⟩
theorem lw_p22 : lw_okq (⟨"PrintedByFrost$Thought", "worthOf", "(LPrintedByFrost$Pane;)I"⟩, 7) := ⟨⟨by decide +kernel, by decide +kernel⟩, List.mem_of_getElem? (i := 117) (by decide +kernel), List.mem_of_getElem? (i := 829) (by decide +kernel), List.mem_of_getElem? (i := 830) (by decide +kernel)⟩
theorem lw_p23 : lw_okq (⟨"PrintedByFrost$Thought", "takeDearest", "()I"⟩, 7) := ⟨⟨by decide +kernel, by decide +kernel⟩, List.mem_of_getElem? (i := 117) (by decide +kernel), List.mem_of_getElem? (i := 833) (by decide +kernel), List.mem_of_getElem? (i := 834) (by decide +kernel)⟩
theorem lw_p24 : lw_okq (⟨"PrintedByFrost$Street", "isReadRight", "(LPrintedByFrost$Pane;)Z"⟩, 10) := ⟨⟨by decide +kernel, by decide +kernel⟩, List.mem_of_getElem? (i := 24) (by decide +kernel), List.mem_of_getElem? (i := 847) (by decide +kernel), List.mem_of_getElem? (i := 848) (by decide +kernel)⟩
theorem lw_p25 : lw_okq (⟨"PrintedByFrost$Street", "drawBelow", "(I)I"⟩, 10) := ⟨⟨by decide +kernel, by decide +kernel⟩, List.mem_of_getElem? (i := 24) (by decide +kernel), List.mem_of_getElem? (i := 900) (by decide +kernel), List.mem_of_getElem? (i := 901) (by decide +kernel)⟩
theorem lw_p26 : lw_okq (⟨"PrintedByFrost$Acts", "note", "(I)V"⟩, 5) := ⟨⟨by decide +kernel, by decide +kernel⟩, List.mem_of_getElem? (i := 193) (by decide +kernel), List.mem_of_getElem? (i := 943) (by decide +kernel), List.mem_of_getElem? (i := 944) (by decide +kernel)⟩
theorem lw_p27 : lw_okq (⟨"PrintedByFrost", "refusalsOf", "(I)I"⟩, 9) := ⟨⟨by decide +kernel, by decide +kernel⟩, List.mem_of_getElem? (i := 16) (by decide +kernel), List.mem_of_getElem? (i := 967) (by decide +kernel), List.mem_of_getElem? (i := 968) (by decide +kernel)⟩
theorem lw_p28 : lw_okq (⟨"PrintedByFrostModel", "no", "(I)I"⟩, 31) := ⟨⟨by decide +kernel, by decide +kernel⟩, List.mem_of_getElem? (i := 971) (by decide +kernel), List.mem_of_getElem? (i := 1078) (by decide +kernel), List.mem_of_getElem? (i := 1079) (by decide +kernel)⟩
theorem lw_p29 : lw_okq (⟨"PrintedByFrostModel", "noRow", "(I)I"⟩, 31) := ⟨⟨by decide +kernel, by decide +kernel⟩, List.mem_of_getElem? (i := 971) (by decide +kernel), List.mem_of_getElem? (i := 1086) (by decide +kernel), List.mem_of_getElem? (i := 1087) (by decide +kernel)⟩
theorem lw_p30 : lw_okq (⟨"PrintedByFrostModel", "isRow", "(I)Z"⟩, 31) := ⟨⟨by decide +kernel, by decide +kernel⟩, List.mem_of_getElem? (i := 971) (by decide +kernel), List.mem_of_getElem? (i := 1090) (by decide +kernel), List.mem_of_getElem? (i := 1091) (by decide +kernel)⟩
theorem lw_p31 : lw_okq (⟨"PrintedByFrostModel", "isPane", "(I)Z"⟩, 31) := ⟨⟨by decide +kernel, by decide +kernel⟩, List.mem_of_getElem? (i := 971) (by decide +kernel), List.mem_of_getElem? (i := 1106) (by decide +kernel), List.mem_of_getElem? (i := 1107) (by decide +kernel)⟩
def lw_privs_2 : List (MethodName × Nat) := [(⟨"PrintedByFrost", "areLetters", "(LPrintedByFrost$Shelf;I)Z"⟩, 9), (⟨"PrintedByFrost$Thought", "lettersRightOnGlass", "(LPrintedByFrost$Shelf;II)I"⟩, 7), (⟨"PrintedByFrost$Thought", "rightBy", "(ILPrintedByFrost$Shelf;)I"⟩, 7), (⟨"PrintedByFrost$Thought", "isChosen", "(II)Z"⟩, 7), (⟨"PrintedByFrost$Thought", "lettersAmongReadings", "()I"⟩, 7), (⟨"PrintedByFrost$Street", "fewestUnlike", "(II)I"⟩, 10), (⟨"PrintedByFrost$Thought", "worthOf", "(LPrintedByFrost$Pane;)I"⟩, 7), (⟨"PrintedByFrost$Thought", "takeDearest", "()I"⟩, 7), (⟨"PrintedByFrost$Street", "isReadRight", "(LPrintedByFrost$Pane;)Z"⟩, 10), (⟨"PrintedByFrost$Street", "drawBelow", "(I)I"⟩, 10), (⟨"PrintedByFrost$Acts", "note", "(I)V"⟩, 5), (⟨"PrintedByFrost", "refusalsOf", "(I)I"⟩, 9), (⟨"PrintedByFrostModel", "no", "(I)I"⟩, 31), (⟨"PrintedByFrostModel", "noRow", "(I)I"⟩, 31), (⟨"PrintedByFrostModel", "isRow", "(I)Z"⟩, 31), (⟨"PrintedByFrostModel", "isPane", "(I)Z"⟩, 31)]
theorem lw_r2 : ∀ q ∈ lw_privs_2, lw_okq q := List.forall_mem_cons.mpr ⟨lw_p16, List.forall_mem_cons.mpr ⟨lw_p17, List.forall_mem_cons.mpr ⟨lw_p18, List.forall_mem_cons.mpr ⟨lw_p19, List.forall_mem_cons.mpr ⟨lw_p20, List.forall_mem_cons.mpr ⟨lw_p21, List.forall_mem_cons.mpr ⟨lw_p22, List.forall_mem_cons.mpr ⟨lw_p23, List.forall_mem_cons.mpr ⟨lw_p24, List.forall_mem_cons.mpr ⟨lw_p25, List.forall_mem_cons.mpr ⟨lw_p26, List.forall_mem_cons.mpr ⟨lw_p27, List.forall_mem_cons.mpr ⟨lw_p28, List.forall_mem_cons.mpr ⟨lw_p29, List.forall_mem_cons.mpr ⟨lw_p30, List.forall_mem_cons.mpr ⟨lw_p31, fun _ h => absurd h List.not_mem_nil⟩⟩⟩⟩⟩⟩⟩⟩⟩⟩⟩⟩⟩⟩⟩⟩
theorem lw_p32 : lw_okq (⟨"PrintedByFrostModel", "sharp", "(I)I"⟩, 31) := ⟨⟨by decide +kernel, by decide +kernel⟩, List.mem_of_getElem? (i := 971) (by decide +kernel), List.mem_of_getElem? (i := 1124) (by decide +kernel), List.mem_of_getElem? (i := 1125) (by decide +kernel)⟩
theorem lw_p33 : lw_okq (⟨"PrintedByFrostModel", "melts", "(II)I"⟩, 31) := ⟨⟨by decide +kernel, by decide +kernel⟩, List.mem_of_getElem? (i := 971) (by decide +kernel), List.mem_of_getElem? (i := 1129) (by decide +kernel), List.mem_of_getElem? (i := 1130) (by decide +kernel)⟩
theorem lw_p34 : lw_okq (⟨"PrintedByFrostModel", "isLetter", "(I)Z"⟩, 31) := ⟨⟨by decide +kernel, by decide +kernel⟩, List.mem_of_getElem? (i := 971) (by decide +kernel), List.mem_of_getElem? (i := 1142) (by decide +kernel), List.mem_of_getElem? (i := 1143) (by decide +kernel)⟩
theorem lw_p35 : lw_okq (⟨"PrintedByFrostModel", "no10", "(I)I"⟩, 31) := ⟨⟨by decide +kernel, by decide +kernel⟩, List.mem_of_getElem? (i := 971) (by decide +kernel), List.mem_of_getElem? (i := 1162) (by decide +kernel), List.mem_of_getElem? (i := 1163) (by decide +kernel)⟩
theorem lw_p36 : lw_okq (⟨"PrintedByFrostModel", "item", "()Z"⟩, 31) := ⟨⟨by decide +kernel, by decide +kernel⟩, List.mem_of_getElem? (i := 971) (by decide +kernel), List.mem_of_getElem? (i := 1178) (by decide +kernel), List.mem_of_getElem? (i := 1179) (by decide +kernel)⟩
theorem lw_p37 : lw_okq (⟨"PrintedByFrostModel", "sign", "()I"⟩, 31) := ⟨⟨by decide +kernel, by decide +kernel⟩, List.mem_of_getElem? (i := 971) (by decide +kernel), List.mem_of_getElem? (i := 1182) (by decide +kernel), List.mem_of_getElem? (i := 1183) (by decide +kernel)⟩
theorem lw_p38 : lw_okq (⟨"PrintedByFrostModel", "word", "(Ljava/lang/String;Z)Z"⟩, 31) := ⟨⟨by decide +kernel, by decide +kernel⟩, List.mem_of_getElem? (i := 971) (by decide +kernel), List.mem_of_getElem? (i := 1187) (by decide +kernel), List.mem_of_getElem? (i := 1188) (by decide +kernel)⟩
theorem lw_p39 : lw_okq (⟨"PrintedByFrostModel", "word", "(Ljava/lang/String;)Z"⟩, 31) := ⟨⟨by decide +kernel, by decide +kernel⟩, List.mem_of_getElem? (i := 971) (by decide +kernel), List.mem_of_getElem? (i := 1191) (by decide +kernel), List.mem_of_getElem? (i := 1192) (by decide +kernel)⟩
theorem lw_p40 : lw_okq (⟨"PrintedByFrostModel", "is", "(C)Z"⟩, 31) := ⟨⟨by decide +kernel, by decide +kernel⟩, List.mem_of_getElem? (i := 971) (by decide +kernel), List.mem_of_getElem? (i := 1197) (by decide +kernel), List.mem_of_getElem? (i := 1198) (by decide +kernel)⟩
theorem lw_p41 : lw_okq (⟨"PrintedByFrostModel", "number", "(II)Z"⟩, 31) := ⟨⟨by decide +kernel, by decide +kernel⟩, List.mem_of_getElem? (i := 971) (by decide +kernel), List.mem_of_getElem? (i := 1201) (by decide +kernel), List.mem_of_getElem? (i := 1202) (by decide +kernel)⟩
theorem lw_p42 : lw_okq (⟨"PrintedByFrostModel", "isLetterOrNone", "(I)Z"⟩, 31) := ⟨⟨by decide +kernel, by decide +kernel⟩, List.mem_of_getElem? (i := 971) (by decide +kernel), List.mem_of_getElem? (i := 1223) (by decide +kernel), List.mem_of_getElem? (i := 1224) (by decide +kernel)⟩
theorem lw_p43 : lw_okq (⟨"PrintedByFrostModel", "shapeAt", "(III)I"⟩, 31) := ⟨⟨by decide +kernel, by decide +kernel⟩, List.mem_of_getElem? (i := 971) (by decide +kernel), List.mem_of_getElem? (i := 1227) (by decide +kernel), List.mem_of_getElem? (i := 1228) (by decide +kernel)⟩
theorem lw_p44 : lw_okq (⟨"PrintedByFrostModel", "freeze", "(II)V"⟩, 31) := ⟨⟨by decide +kernel, by decide +kernel⟩, List.mem_of_getElem? (i := 971) (by decide +kernel), List.mem_of_getElem? (i := 1231) (by decide +kernel), List.mem_of_getElem? (i := 1232) (by decide +kernel)⟩
theorem lw_p45 : lw_okq (⟨"PrintedByFrostModel", "pattern", "(II)I"⟩, 31) := ⟨⟨by decide +kernel, by decide +kernel⟩, List.mem_of_getElem? (i := 971) (by decide +kernel), List.mem_of_getElem? (i := 1235) (by decide +kernel), List.mem_of_getElem? (i := 1236) (by decide +kernel)⟩
theorem lw_p46 : lw_okq (⟨"PrintedByFrostModel", "melting", "(II)V"⟩, 31) := ⟨⟨by decide +kernel, by decide +kernel⟩, List.mem_of_getElem? (i := 971) (by decide +kernel), List.mem_of_getElem? (i := 1240) (by decide +kernel), List.mem_of_getElem? (i := 1241) (by decide +kernel)⟩
theorem lw_p47 : lw_okq (⟨"PrintedByFrostModel", "shapeNow", "()I"⟩, 31) := ⟨⟨by decide +kernel, by decide +kernel⟩, List.mem_of_getElem? (i := 971) (by decide +kernel), List.mem_of_getElem? (i := 1244) (by decide +kernel), List.mem_of_getElem? (i := 1245) (by decide +kernel)⟩
def lw_privs_3 : List (MethodName × Nat) := [(⟨"PrintedByFrostModel", "sharp", "(I)I"⟩, 31), (⟨"PrintedByFrostModel", "melts", "(II)I"⟩, 31), (⟨"PrintedByFrostModel", "isLetter", "(I)Z"⟩, 31), (⟨"PrintedByFrostModel", "no10", "(I)I"⟩, 31), (⟨"PrintedByFrostModel", "item", "()Z"⟩, 31), (⟨"PrintedByFrostModel", "sign", "()I"⟩, 31), (⟨"PrintedByFrostModel", "word", "(Ljava/lang/String;Z)Z"⟩, 31), (⟨"PrintedByFrostModel", "word", "(Ljava/lang/String;)Z"⟩, 31), (⟨"PrintedByFrostModel", "is", "(C)Z"⟩, 31), (⟨"PrintedByFrostModel", "number", "(II)Z"⟩, 31), (⟨"PrintedByFrostModel", "isLetterOrNone", "(I)Z"⟩, 31), (⟨"PrintedByFrostModel", "shapeAt", "(III)I"⟩, 31), (⟨"PrintedByFrostModel", "freeze", "(II)V"⟩, 31), (⟨"PrintedByFrostModel", "pattern", "(II)I"⟩, 31), (⟨"PrintedByFrostModel", "melting", "(II)V"⟩, 31), (⟨"PrintedByFrostModel", "shapeNow", "()I"⟩, 31)]
theorem lw_r3 : ∀ q ∈ lw_privs_3, lw_okq q := List.forall_mem_cons.mpr ⟨lw_p32, List.forall_mem_cons.mpr ⟨lw_p33, List.forall_mem_cons.mpr ⟨lw_p34, List.forall_mem_cons.mpr ⟨lw_p35, List.forall_mem_cons.mpr ⟨lw_p36, List.forall_mem_cons.mpr ⟨lw_p37, List.forall_mem_cons.mpr ⟨lw_p38, List.forall_mem_cons.mpr ⟨lw_p39, List.forall_mem_cons.mpr ⟨lw_p40, List.forall_mem_cons.mpr ⟨lw_p41, List.forall_mem_cons.mpr ⟨lw_p42, List.forall_mem_cons.mpr ⟨lw_p43, List.forall_mem_cons.mpr ⟨lw_p44, List.forall_mem_cons.mpr ⟨lw_p45, List.forall_mem_cons.mpr ⟨lw_p46, List.forall_mem_cons.mpr ⟨lw_p47, fun _ h => absurd h List.not_mem_nil⟩⟩⟩⟩⟩⟩⟩⟩⟩⟩⟩⟩⟩⟩⟩⟩
theorem lw_p48 : lw_okq (⟨"PrintedByFrostModel", "read", "(I)I"⟩, 31) := ⟨⟨by decide +kernel, by decide +kernel⟩, List.mem_of_getElem? (i := 971) (by decide +kernel), List.mem_of_getElem? (i := 1256) (by decide +kernel), List.mem_of_getElem? (i := 1257) (by decide +kernel)⟩
theorem lw_p49 : lw_okq (⟨"PrintedByFrostModel", "readAt", "(III)I"⟩, 31) := ⟨⟨by decide +kernel, by decide +kernel⟩, List.mem_of_getElem? (i := 971) (by decide +kernel), List.mem_of_getElem? (i := 1265) (by decide +kernel), List.mem_of_getElem? (i := 1266) (by decide +kernel)⟩
theorem lw_p50 : lw_okq (⟨"PrintedByFrostModel", "load", "(I)V"⟩, 31) := ⟨⟨by decide +kernel, by decide +kernel⟩, List.mem_of_getElem? (i := 971) (by decide +kernel), List.mem_of_getElem? (i := 1329) (by decide +kernel), List.mem_of_getElem? (i := 1330) (by decide +kernel)⟩
theorem lw_p51 : lw_okq (⟨"PrintedByFrostModel", "draw", "(I)I"⟩, 31) := ⟨⟨by decide +kernel, by decide +kernel⟩, List.mem_of_getElem? (i := 971) (by decide +kernel), List.mem_of_getElem? (i := 1356) (by decide +kernel), List.mem_of_getElem? (i := 1357) (by decide +kernel)⟩
theorem lw_p52 : lw_okq (⟨"PrintedByFrostModel", "freezes", "(II)I"⟩, 31) := ⟨⟨by decide +kernel, by decide +kernel⟩, List.mem_of_getElem? (i := 971) (by decide +kernel), List.mem_of_getElem? (i := 1370) (by decide +kernel), List.mem_of_getElem? (i := 1371) (by decide +kernel)⟩
theorem lw_p53 : lw_okq (⟨"PrintedByFrostModel", "ran", "(I)V"⟩, 31) := ⟨⟨by decide +kernel, by decide +kernel⟩, List.mem_of_getElem? (i := 971) (by decide +kernel), List.mem_of_getElem? (i := 1374) (by decide +kernel), List.mem_of_getElem? (i := 1375) (by decide +kernel)⟩
theorem lw_p54 : lw_okq (⟨"PrintedByFrostModel", "meltsAct", "(II)I"⟩, 31) := ⟨⟨by decide +kernel, by decide +kernel⟩, List.mem_of_getElem? (i := 971) (by decide +kernel), List.mem_of_getElem? (i := 1378) (by decide +kernel), List.mem_of_getElem? (i := 1379) (by decide +kernel)⟩
theorem lw_p55 : lw_okq (⟨"PrintedByFrostModel", "melts2", "(II)I"⟩, 31) := ⟨⟨by decide +kernel, by decide +kernel⟩, List.mem_of_getElem? (i := 971) (by decide +kernel), List.mem_of_getElem? (i := 1382) (by decide +kernel), List.mem_of_getElem? (i := 1383) (by decide +kernel)⟩
theorem lw_p56 : lw_okq (⟨"PrintedByFrostModel", "melts0", "(II)I"⟩, 31) := ⟨⟨by decide +kernel, by decide +kernel⟩, List.mem_of_getElem? (i := 971) (by decide +kernel), List.mem_of_getElem? (i := 1386) (by decide +kernel), List.mem_of_getElem? (i := 1387) (by decide +kernel)⟩
theorem lw_p57 : lw_okq (⟨"PrintedByFrostModel", "melts3", "(II)I"⟩, 31) := ⟨⟨by decide +kernel, by decide +kernel⟩, List.mem_of_getElem? (i := 971) (by decide +kernel), List.mem_of_getElem? (i := 1390) (by decide +kernel), List.mem_of_getElem? (i := 1391) (by decide +kernel)⟩
theorem lw_p58 : lw_okq (⟨"PrintedByFrostModel", "shows", "(II)I"⟩, 31) := ⟨⟨by decide +kernel, by decide +kernel⟩, List.mem_of_getElem? (i := 971) (by decide +kernel), List.mem_of_getElem? (i := 1394) (by decide +kernel), List.mem_of_getElem? (i := 1395) (by decide +kernel)⟩
theorem lw_p59 : lw_okq (⟨"PrintedByFrostModel", "shows0", "(II)I"⟩, 31) := ⟨⟨by decide +kernel, by decide +kernel⟩, List.mem_of_getElem? (i := 971) (by decide +kernel), List.mem_of_getElem? (i := 1398) (by decide +kernel), List.mem_of_getElem? (i := 1399) (by decide +kernel)⟩
def lw_privs_4 : List (MethodName × Nat) := [(⟨"PrintedByFrostModel", "read", "(I)I"⟩, 31), (⟨"PrintedByFrostModel", "readAt", "(III)I"⟩, 31), (⟨"PrintedByFrostModel", "load", "(I)V"⟩, 31), (⟨"PrintedByFrostModel", "draw", "(I)I"⟩, 31), (⟨"PrintedByFrostModel", "freezes", "(II)I"⟩, 31), (⟨"PrintedByFrostModel", "ran", "(I)V"⟩, 31), (⟨"PrintedByFrostModel", "meltsAct", "(II)I"⟩, 31), (⟨"PrintedByFrostModel", "melts2", "(II)I"⟩, 31), (⟨"PrintedByFrostModel", "melts0", "(II)I"⟩, 31), (⟨"PrintedByFrostModel", "melts3", "(II)I"⟩, 31), (⟨"PrintedByFrostModel", "shows", "(II)I"⟩, 31), (⟨"PrintedByFrostModel", "shows0", "(II)I"⟩, 31)]
theorem lw_r4 : ∀ q ∈ lw_privs_4, lw_okq q := List.forall_mem_cons.mpr ⟨lw_p48, List.forall_mem_cons.mpr ⟨lw_p49, List.forall_mem_cons.mpr ⟨lw_p50, List.forall_mem_cons.mpr ⟨lw_p51, List.forall_mem_cons.mpr ⟨lw_p52, List.forall_mem_cons.mpr ⟨lw_p53, List.forall_mem_cons.mpr ⟨lw_p54, List.forall_mem_cons.mpr ⟨lw_p55, List.forall_mem_cons.mpr ⟨lw_p56, List.forall_mem_cons.mpr ⟨lw_p57, List.forall_mem_cons.mpr ⟨lw_p58, List.forall_mem_cons.mpr ⟨lw_p59, fun _ h => absurd h List.not_mem_nil⟩⟩⟩⟩⟩⟩⟩⟩⟩⟩⟩⟩
def lw_privs : List (MethodName × Nat) := lw_privs_1 ++ (lw_privs_2 ++ (lw_privs_3 ++ (lw_privs_4)))
def lw_tbl : List Cond := k2_sels lw_privs ++ tables_1
theorem lw_privs_ok : ∀ q ∈ lw_privs, lw_okq q := by
  show ∀ q ∈ lw_privs_1 ++ (lw_privs_2 ++ (lw_privs_3 ++ (lw_privs_4))), lw_okq q
  exact List.forall_mem_append.mpr ⟨lw_r1, List.forall_mem_append.mpr ⟨lw_r2, List.forall_mem_append.mpr ⟨lw_r3, lw_r4⟩⟩⟩
/-! ===== BEGIN printed: names, fields, word lists, decode rows ===== -/
def RX0 : String := "PrintedByFrost$Acts"
def TX0 : u_T := fun k => match k with
  | 0 => ("PrintedByFrost$Acts", "bodies", "[I", true)
  | 1 => ("PrintedByFrost$Acts", "ran", "I", false)
  | 2 => ("PrintedByFrost$Acts", "kind", "I", false)
  | 3 => ("PrintedByFrost$Acts", "number", "I", false)
  | _ => ("PrintedByFrost$Acts", "a", "I", false)
def tyX0 : Nat → FieldType := fun k => match k with
  | 0 => .array .int
  | 1 => .int
  | 2 => .int
  | 3 => .int
  | _ => .int
abbrev wsX00 : List Cond := u_ws RX0 TX0 5
theorem nmX0 : ∀ a, a < 5 → ∀ b, b < 5 → a ≠ b → (TX0 a).2.1 ≠ (TX0 b).2.1 := by decide +kernel
theorem tyX0_ok : ∀ k, k < 5 → parseFieldDescriptor (TX0 k).2.2.1 = some (tyX0 k) := by decide +kernel
abbrev cX0_init : ByteArray := prog_2_method_1_code
def yX0_init : MethodName := ⟨RX0, "<init>", "()V"⟩
abbrev cX0_isAct : ByteArray := prog_2_method_2_code
def yX0_isAct : MethodName := ⟨RX0, "isAct", "(I)Z"⟩
abbrev cX0_forget : ByteArray := prog_2_method_3_code
def yX0_forget : MethodName := ⟨RX0, "forget", "()V"⟩
abbrev cX0_perform : ByteArray := prog_2_method_4_code
def yX0_perform : MethodName := ⟨RX0, "perform", "(LPrintedByFrost$Pane;III)I"⟩
abbrev cX0_bodyAt : ByteArray := prog_2_method_5_code
def yX0_bodyAt : MethodName := ⟨RX0, "bodyAt", "(I)I"⟩
abbrev cX0_note : ByteArray := prog_2_method_6_code
def yX0_note : MethodName := ⟨RX0, "note", "(I)V"⟩
abbrev cX0_bodyFor : ByteArray := prog_2_method_7_code
def yX0_bodyFor : MethodName := ⟨RX0, "bodyFor", "(II)I"⟩
abbrev cX0_ownBody : ByteArray := prog_2_method_8_code
def yX0_ownBody : MethodName := ⟨RX0, "ownBody", "(II)I"⟩
abbrev cX0_run : ByteArray := prog_2_method_9_code
def yX0_run : MethodName := ⟨RX0, "run", "(LPrintedByFrost$Acts;IIII)I"⟩
def RX1 : String := "PrintedByFrost$Pane"
def TX1 : u_T := fun k => match k with
  | 0 => ("PrintedByFrost$Pane", "kind", "I", false)
  | 1 => ("PrintedByFrost$Pane", "room", "I", false)
  | 2 => ("PrintedByFrost$Pane", "a", "I", false)
  | 3 => ("PrintedByFrost$Pane", "hung", "I", false)
  | 4 => ("PrintedByFrost$Pane", "scratched", "I", false)
  | _ => ("PrintedByFrost$Pane", "ice", "[I", true)
def tyX1 : Nat → FieldType := fun k => match k with
  | 0 => .int
  | 1 => .int
  | 2 => .int
  | 3 => .int
  | 4 => .int
  | _ => .array .int
abbrev wsX10 : List Cond := u_ws RX1 TX1 6
theorem nmX1 : ∀ a, a < 6 → ∀ b, b < 6 → a ≠ b → (TX1 a).2.1 ≠ (TX1 b).2.1 := by decide +kernel
theorem tyX1_ok : ∀ k, k < 6 → parseFieldDescriptor (TX1 k).2.2.1 = some (tyX1 k) := by decide +kernel
abbrev cX1_init : ByteArray := prog_3_method_1_code
def yX1_init : MethodName := ⟨RX1, "<init>", "()V"⟩
abbrev cX1_isKind : ByteArray := prog_3_method_2_code
def yX1_isKind : MethodName := ⟨RX1, "isKind", "(I)Z"⟩
abbrev cX1_kindAbove : ByteArray := prog_3_method_3_code
def yX1_kindAbove : MethodName := ⟨RX1, "kindAbove", "(I)I"⟩
abbrev cX1_makeNew : ByteArray := prog_3_method_4_code
def yX1_makeNew : MethodName := ⟨RX1, "makeNew", "(III)V"⟩
abbrev cX1_takeGlass : ByteArray := prog_3_method_5_code
def yX1_takeGlass : MethodName := ⟨RX1, "takeGlass", "(LPrintedByFrost$Pane;)V"⟩
abbrev cX1_takeAll : ByteArray := prog_3_method_6_code
def yX1_takeAll : MethodName := ⟨RX1, "takeAll", "(LPrintedByFrost$Pane;)V"⟩
abbrev cX1_isOf : ByteArray := prog_3_method_7_code
def yX1_isOf : MethodName := ⟨RX1, "isOf", "(I)Z"⟩
abbrev cX1_countedCold : ByteArray := prog_3_method_8_code
def yX1_countedCold : MethodName := ⟨RX1, "countedCold", "(I)I"⟩
abbrev cX1_sharpness : ByteArray := prog_3_method_9_code
def yX1_sharpness : MethodName := ⟨RX1, "sharpness", "(II)I"⟩
abbrev cX1_laceRow : ByteArray := prog_3_method_10_code
def yX1_laceRow : MethodName := ⟨RX1, "laceRow", "()I"⟩
abbrev cX1_patternWith : ByteArray := prog_3_method_11_code
def yX1_patternWith : MethodName := ⟨RX1, "patternWith", "(I)I"⟩
abbrev cX1_freezeWith : ByteArray := prog_3_method_12_code
def yX1_freezeWith : MethodName := ⟨RX1, "freezeWith", "(III)V"⟩
abbrev cX1_freshIce : ByteArray := prog_3_method_13_code
def yX1_freshIce : MethodName := ⟨RX1, "freshIce", "(IIII)I"⟩
abbrev cX1_melting : ByteArray := prog_3_method_14_code
def yX1_melting : MethodName := ⟨RX1, "melting", "(II)I"⟩
abbrev cX1_passHours : ByteArray := prog_3_method_15_code
def yX1_passHours : MethodName := ⟨RX1, "passHours", "(III)V"⟩
abbrev cX1_meltBy : ByteArray := prog_3_method_16_code
def yX1_meltBy : MethodName := ⟨RX1, "meltBy", "(I)V"⟩
abbrev cX1_hasCell : ByteArray := prog_3_method_17_code
def yX1_hasCell : MethodName := ⟨RX1, "hasCell", "(II)Z"⟩
abbrev cX1_cellsBeside : ByteArray := prog_3_method_18_code
def yX1_cellsBeside : MethodName := ⟨RX1, "cellsBeside", "(I)I"⟩
abbrev cX1_frosted : ByteArray := prog_3_method_19_code
def yX1_frosted : MethodName := ⟨RX1, "frosted", "()I"⟩
abbrev cX1_iceOn : ByteArray := prog_3_method_20_code
def yX1_iceOn : MethodName := ⟨RX1, "iceOn", "(I)I"⟩
abbrev cX1_isScratched : ByteArray := prog_3_method_21_code
def yX1_isScratched : MethodName := ⟨RX1, "isScratched", "(I)Z"⟩
abbrev cX1_breatheOn : ByteArray := prog_3_method_22_code
def yX1_breatheOn : MethodName := ⟨RX1, "breatheOn", "(I)I"⟩
abbrev cX1_scratchOff : ByteArray := prog_3_method_23_code
def yX1_scratchOff : MethodName := ⟨RX1, "scratchOff", "(I)I"⟩
def RX2 : String := "PrintedByFrost$Reader"
def TX2 : u_T := fun k => match k with
  | 0 => ("PrintedByFrost$Reader", "numbers", "[I", true)
  | 1 => ("PrintedByFrost$Reader", "at", "I", false)
  | _ => ("PrintedByFrost$Reader", "faultPlace", "I", false)
def tyX2 : Nat → FieldType := fun k => match k with
  | 0 => .array .int
  | 1 => .int
  | _ => .int
abbrev wsX20 : List Cond := u_ws RX2 TX2 3
theorem nmX2 : ∀ a, a < 3 → ∀ b, b < 3 → a ≠ b → (TX2 a).2.1 ≠ (TX2 b).2.1 := by decide +kernel
theorem tyX2_ok : ∀ k, k < 3 → parseFieldDescriptor (TX2 k).2.2.1 = some (tyX2 k) := by decide +kernel
abbrev cX2_init : ByteArray := prog_4_method_1_code
def yX2_init : MethodName := ⟨RX2, "<init>", "()V"⟩
abbrev cX2_itemsOf : ByteArray := prog_4_method_2_code
def yX2_itemsOf : MethodName := ⟨RX2, "itemsOf", "(LPrintedByFrost$Shelf;LPrintedByFrost$Street;)I"⟩
abbrev cX2_failAt : ByteArray := prog_4_method_3_code
def yX2_failAt : MethodName := ⟨RX2, "failAt", "(I)Z"⟩
abbrev cX2_signStands : ByteArray := prog_4_method_4_code
def yX2_signStands : MethodName := ⟨RX2, "signStands", "(LPrintedByFrost$Shelf;I)Z"⟩
abbrev cX2_itemStands : ByteArray := prog_4_method_5_code
def yX2_itemStands : MethodName := ⟨RX2, "itemStands", "(LPrintedByFrost$Shelf;LPrintedByFrost$Street;)Z"⟩
abbrev cX2_lettersStand : ByteArray := prog_4_method_6_code
def yX2_lettersStand : MethodName := ⟨RX2, "lettersStand", "(LPrintedByFrost$Shelf;Ljava/lang/String;)Z"⟩
abbrev cX2_numberStands : ByteArray := prog_4_method_7_code
def yX2_numberStands : MethodName := ⟨RX2, "numberStands", "(LPrintedByFrost$Shelf;II)Z"⟩
abbrev cX2_isDigitAt : ByteArray := prog_4_method_8_code
def yX2_isDigitAt : MethodName := ⟨RX2, "isDigitAt", "(LPrintedByFrost$Shelf;)Z"⟩
abbrev cX2_wordFrom : ByteArray := prog_4_method_9_code
def yX2_wordFrom : MethodName := ⟨RX2, "wordFrom", "(I)I"⟩
abbrev cX2_lettersOf : ByteArray := prog_4_method_10_code
def yX2_lettersOf : MethodName := ⟨RX2, "lettersOf", "(I)Ljava/lang/String;"⟩
abbrev cX2_numbersOf : ByteArray := prog_4_method_11_code
def yX2_numbersOf : MethodName := ⟨RX2, "numbersOf", "(I)I"⟩
abbrev cX2_hasRoomFor : ByteArray := prog_4_method_12_code
def yX2_hasRoomFor : MethodName := ⟨RX2, "hasRoomFor", "(ILPrintedByFrost$Street;)Z"⟩
abbrev cX2_mostOf : ByteArray := prog_4_method_13_code
def yX2_mostOf : MethodName := ⟨RX2, "mostOf", "(IILPrintedByFrost$Street;)I"⟩
abbrev cX2_tell : ByteArray := prog_4_method_14_code
def yX2_tell : MethodName := ⟨RX2, "tell", "(ILPrintedByFrost$Street;)V"⟩
def RX3 : String := "PrintedByFrost$Shelf"
def TX3 : u_T := fun k => match k with
  | 0 => ("PrintedByFrost$Shelf", "elements", "[J", true)
  | 1 => ("PrintedByFrost$Shelf", "sort", "I", false)
  | 2 => ("PrintedByFrost$Shelf", "size", "I", false)
  | 3 => ("PrintedByFrost$Shelf", "paneNumber", "I", false)
  | _ => ("PrintedByFrost$Shelf", "row", "Z", false)
def tyX3 : Nat → FieldType := fun k => match k with
  | 0 => .array .long
  | 1 => .int
  | 2 => .int
  | 3 => .int
  | _ => .boolean
abbrev wsX30 : List Cond := u_ws RX3 TX3 5
theorem nmX3 : ∀ a, a < 5 → ∀ b, b < 5 → a ≠ b → (TX3 a).2.1 ≠ (TX3 b).2.1 := by decide +kernel
theorem tyX3_ok : ∀ k, k < 5 → parseFieldDescriptor (TX3 k).2.2.1 = some (tyX3 k) := by decide +kernel
abbrev cX3_init : ByteArray := prog_5_method_1_code
def yX3_init : MethodName := ⟨RX3, "<init>", "()V"⟩
abbrev cX3_hasRow : ByteArray := prog_5_method_2_code
def yX3_hasRow : MethodName := ⟨RX3, "hasRow", "()Z"⟩
abbrev cX3_hasPane : ByteArray := prog_5_method_3_code
def yX3_hasPane : MethodName := ⟨RX3, "hasPane", "()Z"⟩
abbrev cX3_takeNothing : ByteArray := prog_5_method_4_code
def yX3_takeNothing : MethodName := ⟨RX3, "takeNothing", "()V"⟩
abbrev cX3_takePane : ByteArray := prog_5_method_5_code
def yX3_takePane : MethodName := ⟨RX3, "takePane", "(I)V"⟩
abbrev cX3_takeRow : ByteArray := prog_5_method_6_code
def yX3_takeRow : MethodName := ⟨RX3, "takeRow", "(II)V"⟩
abbrev cX3_told : ByteArray := prog_5_method_7_code
def yX3_told : MethodName := ⟨RX3, "told", "()I"⟩
abbrev cX3_elementAt : ByteArray := prog_5_method_8_code
def yX3_elementAt : MethodName := ⟨RX3, "elementAt", "(I)J"⟩
abbrev cX3_signAt : ByteArray := prog_5_method_9_code
def yX3_signAt : MethodName := ⟨RX3, "signAt", "(I)I"⟩
abbrev cX3_put : ByteArray := prog_5_method_10_code
def yX3_put : MethodName := ⟨RX3, "put", "(IJ)V"⟩
abbrev cX3_lowestBits : ByteArray := prog_5_method_11_code
def yX3_lowestBits : MethodName := ⟨RX3, "lowestBits", "(J)J"⟩
abbrev cX3_putAll : ByteArray := prog_5_method_12_code
def yX3_putAll : MethodName := ⟨RX3, "putAll", "(LPrintedByFrost$Shelf;III)V"⟩
def RX4 : String := "PrintedByFrost$Street"
def TX4 : u_T := fun k => match k with
  | 0 => ("PrintedByFrost$Street", "forms", "[I", true)
  | 1 => ("PrintedByFrost$Street", "panes", "[LPrintedByFrost$Pane;", true)
  | 2 => ("PrintedByFrost$Street", "letterCount", "I", false)
  | 3 => ("PrintedByFrost$Street", "paneCount", "I", false)
  | 4 => ("PrintedByFrost$Street", "cold", "I", false)
  | 5 => ("PrintedByFrost$Street", "wet", "I", false)
  | 6 => ("PrintedByFrost$Street", "out", "I", false)
  | 7 => ("PrintedByFrost$Street", "hour", "I", false)
  | 8 => ("PrintedByFrost$Street", "editions", "I", false)
  | _ => ("PrintedByFrost$Street", "drawn", "I", false)
def tyX4 : Nat → FieldType := fun k => match k with
  | 0 => .array .int
  | 1 => .array (.object "PrintedByFrost$Pane")
  | 2 => .int
  | 3 => .int
  | 4 => .int
  | 5 => .int
  | 6 => .int
  | 7 => .int
  | 8 => .int
  | _ => .int
abbrev wsX40 : List Cond := u_ws RX4 TX4 10
theorem nmX4 : ∀ a, a < 10 → ∀ b, b < 10 → a ≠ b → (TX4 a).2.1 ≠ (TX4 b).2.1 := by decide +kernel
theorem tyX4_ok : ∀ k, k < 10 → parseFieldDescriptor (TX4 k).2.2.1 = some (tyX4 k) := by decide +kernel
abbrev cX4_init : ByteArray := prog_6_method_1_code
def yX4_init : MethodName := ⟨RX4, "<init>", "()V"⟩
abbrev cX4_takeAll : ByteArray := prog_6_method_2_code
def yX4_takeAll : MethodName := ⟨RX4, "takeAll", "(LPrintedByFrost$Street;)V"⟩
abbrev cX4_isLetter : ByteArray := prog_6_method_3_code
def yX4_isLetter : MethodName := ⟨RX4, "isLetter", "(I)Z"⟩
abbrev cX4_isLetterOrNone : ByteArray := prog_6_method_4_code
def yX4_isLetterOrNone : MethodName := ⟨RX4, "isLetterOrNone", "(I)Z"⟩
abbrev cX4_hasLetterRoom : ByteArray := prog_6_method_5_code
def yX4_hasLetterRoom : MethodName := ⟨RX4, "hasLetterRoom", "()Z"⟩
abbrev cX4_addLetter : ByteArray := prog_6_method_6_code
def yX4_addLetter : MethodName := ⟨RX4, "addLetter", "(I)I"⟩
abbrev cX4_cellsOf : ByteArray := prog_6_method_7_code
def yX4_cellsOf : MethodName := ⟨RX4, "cellsOf", "(I)I"⟩
abbrev cX4_paneAt : ByteArray := prog_6_method_8_code
def yX4_paneAt : MethodName := ⟨RX4, "paneAt", "(I)LPrintedByFrost$Pane;"⟩
abbrev cX4_hasPaneRoom : ByteArray := prog_6_method_9_code
def yX4_hasPaneRoom : MethodName := ⟨RX4, "hasPaneRoom", "()Z"⟩
abbrev cX4_addPane : ByteArray := prog_6_method_10_code
def yX4_addPane : MethodName := ⟨RX4, "addPane", "(III)I"⟩
abbrev cX4_mostOf : ByteArray := prog_6_method_11_code
def yX4_mostOf : MethodName := ⟨RX4, "mostOf", "(I)I"⟩
abbrev cX4_mayBecome : ByteArray := prog_6_method_12_code
def yX4_mayBecome : MethodName := ⟨RX4, "mayBecome", "(II)Z"⟩
abbrev cX4_changeWeather : ByteArray := prog_6_method_13_code
def yX4_changeWeather : MethodName := ⟨RX4, "changeWeather", "(II)I"⟩
abbrev cX4_readingOf : ByteArray := prog_6_method_14_code
def yX4_readingOf : MethodName := ⟨RX4, "readingOf", "(I)I"⟩
abbrev cX4_cellsUnlike : ByteArray := prog_6_method_15_code
def yX4_cellsUnlike : MethodName := ⟨RX4, "cellsUnlike", "(II)I"⟩
abbrev cX4_nearestPair : ByteArray := prog_6_method_16_code
def yX4_nearestPair : MethodName := ⟨RX4, "nearestPair", "()I"⟩
abbrev cX4_bestChange : ByteArray := prog_6_method_17_code
def yX4_bestChange : MethodName := ⟨RX4, "bestChange", "(I)I"⟩
abbrev cX4_fewestUnlike : ByteArray := prog_6_method_18_code
def yX4_fewestUnlike : MethodName := ⟨RX4, "fewestUnlike", "(II)I"⟩
abbrev cX4_passNight : ByteArray := prog_6_method_19_code
def yX4_passNight : MethodName := ⟨RX4, "passNight", "()I"⟩
abbrev cX4_isReadRight : ByteArray := prog_6_method_20_code
def yX4_isReadRight : MethodName := ⟨RX4, "isReadRight", "(LPrintedByFrost$Pane;)Z"⟩
abbrev cX4_passHours : ByteArray := prog_6_method_21_code
def yX4_passHours : MethodName := ⟨RX4, "passHours", "(I)I"⟩
abbrev cX4_passWinter : ByteArray := prog_6_method_22_code
def yX4_passWinter : MethodName := ⟨RX4, "passWinter", "(I)I"⟩
abbrev cX4_drawBelow : ByteArray := prog_6_method_23_code
def yX4_drawBelow : MethodName := ⟨RX4, "drawBelow", "(I)I"⟩
def RX5 : String := "PrintedByFrost$Thought"
def TX5 : u_T := fun k => match k with
  | 0 => ("PrintedByFrost$Thought", "street", "LPrintedByFrost$Street;", true)
  | 1 => ("PrintedByFrost$Thought", "glass", "LPrintedByFrost$Pane;", true)
  | 2 => ("PrintedByFrost$Thought", "readings", "[I", true)
  | 3 => ("PrintedByFrost$Thought", "rightLetters", "[I", true)
  | 4 => ("PrintedByFrost$Thought", "worths", "[I", true)
  | 5 => ("PrintedByFrost$Thought", "chosenPanes", "I", false)
  | _ => ("PrintedByFrost$Thought", "chosenRight", "I", false)
def tyX5 : Nat → FieldType := fun k => match k with
  | 0 => .object "PrintedByFrost$Street"
  | 1 => .object "PrintedByFrost$Pane"
  | 2 => .array .int
  | 3 => .array .int
  | 4 => .array .int
  | 5 => .int
  | _ => .int
abbrev wsX50 : List Cond := u_ws RX5 TX5 7
theorem nmX5 : ∀ a, a < 7 → ∀ b, b < 7 → a ≠ b → (TX5 a).2.1 ≠ (TX5 b).2.1 := by decide +kernel
theorem tyX5_ok : ∀ k, k < 7 → parseFieldDescriptor (TX5 k).2.2.1 = some (tyX5 k) := by decide +kernel
abbrev cX5_init : ByteArray := prog_7_method_1_code
def yX5_init : MethodName := ⟨RX5, "<init>", "(LPrintedByFrost$Street;)V"⟩
abbrev cX5_iceAt : ByteArray := prog_7_method_2_code
def yX5_iceAt : MethodName := ⟨RX5, "iceAt", "(LPrintedByFrost$Pane;III)I"⟩
abbrev cX5_shapeAt : ByteArray := prog_7_method_3_code
def yX5_shapeAt : MethodName := ⟨RX5, "shapeAt", "(LPrintedByFrost$Pane;II)I"⟩
abbrev cX5_shapeOnGlass : ByteArray := prog_7_method_4_code
def yX5_shapeOnGlass : MethodName := ⟨RX5, "shapeOnGlass", "(III)I"⟩
abbrev cX5_readAllHours : ByteArray := prog_7_method_5_code
def yX5_readAllHours : MethodName := ⟨RX5, "readAllHours", "(LPrintedByFrost$Pane;I)V"⟩
abbrev cX5_lastHour : ByteArray := prog_7_method_6_code
def yX5_lastHour : MethodName := ⟨RX5, "lastHour", "(LPrintedByFrost$Pane;I)I"⟩
abbrev cX5_firstHourAs : ByteArray := prog_7_method_7_code
def yX5_firstHourAs : MethodName := ⟨RX5, "firstHourAs", "(LPrintedByFrost$Pane;II)I"⟩
abbrev cX5_othersReadFor : ByteArray := prog_7_method_8_code
def yX5_othersReadFor : MethodName := ⟨RX5, "othersReadFor", "(I)I"⟩
abbrev cX5_lettersAmongReadings : ByteArray := prog_7_method_9_code
def yX5_lettersAmongReadings : MethodName := ⟨RX5, "lettersAmongReadings", "()I"⟩
abbrev cX5_panesRight : ByteArray := prog_7_method_10_code
def yX5_panesRight : MethodName := ⟨RX5, "panesRight", "(I)I"⟩
abbrev cX5_lettersThatShow : ByteArray := prog_7_method_11_code
def yX5_lettersThatShow : MethodName := ⟨RX5, "lettersThatShow", "(LPrintedByFrost$Pane;II)I"⟩
abbrev cX5_warmestRoom : ByteArray := prog_7_method_12_code
def yX5_warmestRoom : MethodName := ⟨RX5, "warmestRoom", "(LPrintedByFrost$Pane;II)I"⟩
abbrev cX5_leastCold : ByteArray := prog_7_method_13_code
def yX5_leastCold : MethodName := ⟨RX5, "leastCold", "(LPrintedByFrost$Pane;II)I"⟩
abbrev cX5_curtainsRead : ByteArray := prog_7_method_14_code
def yX5_curtainsRead : MethodName := ⟨RX5, "curtainsRead", "()I"⟩
abbrev cX5_firstPaperLead : ByteArray := prog_7_method_15_code
def yX5_firstPaperLead : MethodName := ⟨RX5, "firstPaperLead", "()I"⟩
abbrev cX5_takeDearest : ByteArray := prog_7_method_16_code
def yX5_takeDearest : MethodName := ⟨RX5, "takeDearest", "()I"⟩
abbrev cX5_worthOf : ByteArray := prog_7_method_17_code
def yX5_worthOf : MethodName := ⟨RX5, "worthOf", "(LPrintedByFrost$Pane;)I"⟩
abbrev cX5_noteRightLetters : ByteArray := prog_7_method_18_code
def yX5_noteRightLetters : MethodName := ⟨RX5, "noteRightLetters", "(LPrintedByFrost$Shelf;II)V"⟩
abbrev cX5_lettersRightOnGlass : ByteArray := prog_7_method_19_code
def yX5_lettersRightOnGlass : MethodName := ⟨RX5, "lettersRightOnGlass", "(LPrintedByFrost$Shelf;II)I"⟩
abbrev cX5_choosePanesFor : ByteArray := prog_7_method_20_code
def yX5_choosePanesFor : MethodName := ⟨RX5, "choosePanesFor", "(LPrintedByFrost$Shelf;I)V"⟩
abbrev cX5_isChosen : ByteArray := prog_7_method_21_code
def yX5_isChosen : MethodName := ⟨RX5, "isChosen", "(II)Z"⟩
abbrev cX5_rightBy : ByteArray := prog_7_method_22_code
def yX5_rightBy : MethodName := ⟨RX5, "rightBy", "(ILPrintedByFrost$Shelf;)I"⟩
abbrev cX5_chosenPane : ByteArray := prog_7_method_23_code
def yX5_chosenPane : MethodName := ⟨RX5, "chosenPane", "(I)I"⟩
def RX6 : String := "PrintedByFrost"
def TX6 : u_T := fun k => match k with
  | 0 => ("PrintedByFrost", "street", "LPrintedByFrost$Street;", true)
  | 1 => ("PrintedByFrost", "imaged", "LPrintedByFrost$Street;", true)
  | 2 => ("PrintedByFrost", "draft", "LPrintedByFrost$Street;", true)
  | 3 => ("PrintedByFrost", "thought", "LPrintedByFrost$Thought;", true)
  | 4 => ("PrintedByFrost", "shelves", "[LPrintedByFrost$Shelf;", true)
  | 5 => ("PrintedByFrost", "reader", "LPrintedByFrost$Reader;", true)
  | 6 => ("PrintedByFrost", "acts", "LPrintedByFrost$Acts;", true)
  | 7 => ("PrintedByFrost", "refusals", "[I", true)
  | _ => ("PrintedByFrost", "hasImage", "Z", false)
def tyX6 : Nat → FieldType := fun k => match k with
  | 0 => .object "PrintedByFrost$Street"
  | 1 => .object "PrintedByFrost$Street"
  | 2 => .object "PrintedByFrost$Street"
  | 3 => .object "PrintedByFrost$Thought"
  | 4 => .array (.object "PrintedByFrost$Shelf")
  | 5 => .object "PrintedByFrost$Reader"
  | 6 => .object "PrintedByFrost$Acts"
  | 7 => .array .int
  | _ => .boolean
abbrev wsX60 : List Cond := u_ws RX6 TX6 9
theorem nmX6 : ∀ a, a < 9 → ∀ b, b < 9 → a ≠ b → (TX6 a).2.1 ≠ (TX6 b).2.1 := by decide +kernel
theorem tyX6_ok : ∀ k, k < 9 → parseFieldDescriptor (TX6 k).2.2.1 = some (tyX6 k) := by decide +kernel
abbrev cX6_init : ByteArray := prog_1_method_1_code
def yX6_init : MethodName := ⟨RX6, "<init>", "()V"⟩
abbrev cX6_row : ByteArray := prog_1_method_2_code
def yX6_row : MethodName := ⟨RX6, "row", "(III)I"⟩
abbrev cX6_set : ByteArray := prog_1_method_3_code
def yX6_set : MethodName := ⟨RX6, "set", "(IIJ)I"⟩
abbrev cX6_copy : ByteArray := prog_1_method_4_code
def yX6_copy : MethodName := ⟨RX6, "copy", "(IIIII)I"⟩
abbrev cX6_element : ByteArray := prog_1_method_5_code
def yX6_element : MethodName := ⟨RX6, "element", "(II)J"⟩
abbrev cX6_show : ByteArray := prog_1_method_6_code
def yX6_show : MethodName := ⟨RX6, "show", "(II)I"⟩
abbrev cX6_holds : ByteArray := prog_1_method_7_code
def yX6_holds : MethodName := ⟨RX6, "holds", "(I)I"⟩
abbrev cX6_says : ByteArray := prog_1_method_8_code
def yX6_says : MethodName := ⟨RX6, "says", "(II)I"⟩
abbrev cX6_saidAs : ByteArray := prog_1_method_9_code
def yX6_saidAs : MethodName := ⟨RX6, "saidAs", "(LPrintedByFrost$Pane;I)I"⟩
abbrev cX6_shelfAt : ByteArray := prog_1_method_10_code
def yX6_shelfAt : MethodName := ⟨RX6, "shelfAt", "(I)LPrintedByFrost$Shelf;"⟩
abbrev cX6_lackOfRow : ByteArray := prog_1_method_11_code
def yX6_lackOfRow : MethodName := ⟨RX6, "lackOfRow", "(LPrintedByFrost$Shelf;)I"⟩
abbrev cX6_refuse : ByteArray := prog_1_method_12_code
def yX6_refuse : MethodName := ⟨RX6, "refuse", "(I)I"⟩
abbrev cX6_refuseNobody : ByteArray := prog_1_method_13_code
def yX6_refuseNobody : MethodName := ⟨RX6, "refuseNobody", "()I"⟩
abbrev cX6_refuseWrong : ByteArray := prog_1_method_14_code
def yX6_refuseWrong : MethodName := ⟨RX6, "refuseWrong", "()I"⟩
abbrev cX6_isHour : ByteArray := prog_1_method_15_code
def yX6_isHour : MethodName := ⟨RX6, "isHour", "(I)Z"⟩
abbrev cX6_isCell : ByteArray := prog_1_method_16_code
def yX6_isCell : MethodName := ⟨RX6, "isCell", "(I)Z"⟩
abbrev cX6_isShape : ByteArray := prog_1_method_17_code
def yX6_isShape : MethodName := ⟨RX6, "isShape", "(I)Z"⟩
abbrev cX6_form : ByteArray := prog_1_method_18_code
def yX6_form : MethodName := ⟨RX6, "form", "(I)I"⟩
abbrev cX6_formOf : ByteArray := prog_1_method_19_code
def yX6_formOf : MethodName := ⟨RX6, "formOf", "(I)I"⟩
abbrev cX6_pane : ByteArray := prog_1_method_20_code
def yX6_pane : MethodName := ⟨RX6, "pane", "(III)I"⟩
abbrev cX6_paneOf : ByteArray := prog_1_method_21_code
def yX6_paneOf : MethodName := ⟨RX6, "paneOf", "(II)I"⟩
abbrev cX6_hang : ByteArray := prog_1_method_22_code
def yX6_hang : MethodName := ⟨RX6, "hang", "(II)I"⟩
abbrev cX6_hangs : ByteArray := prog_1_method_23_code
def yX6_hangs : MethodName := ⟨RX6, "hangs", "(I)I"⟩
abbrev cX6_ask : ByteArray := prog_1_method_24_code
def yX6_ask : MethodName := ⟨RX6, "ask", "(II)I"⟩
abbrev cX6_room : ByteArray := prog_1_method_25_code
def yX6_room : MethodName := ⟨RX6, "room", "(II)I"⟩
abbrev cX6_press : ByteArray := prog_1_method_26_code
def yX6_press : MethodName := ⟨RX6, "press", "(I)I"⟩
abbrev cX6_fault : ByteArray := prog_1_method_27_code
def yX6_fault : MethodName := ⟨RX6, "fault", "()I"⟩
abbrev cX6_melt : ByteArray := prog_1_method_28_code
def yX6_melt : MethodName := ⟨RX6, "melt", "(II)I"⟩
abbrev cX6_ice : ByteArray := prog_1_method_29_code
def yX6_ice : MethodName := ⟨RX6, "ice", "(IIII)I"⟩
abbrev cX6_shape : ByteArray := prog_1_method_30_code
def yX6_shape : MethodName := ⟨RX6, "shape", "(III)I"⟩
abbrev cX6_reads : ByteArray := prog_1_method_31_code
def yX6_reads : MethodName := ⟨RX6, "reads", "(I)I"⟩
abbrev cX6_readsAs : ByteArray := prog_1_method_32_code
def yX6_readsAs : MethodName := ⟨RX6, "readsAs", "(III)I"⟩
abbrev cX6_lasts : ByteArray := prog_1_method_33_code
def yX6_lasts : MethodName := ⟨RX6, "lasts", "(II)I"⟩
abbrev cX6_page : ByteArray := prog_1_method_34_code
def yX6_page : MethodName := ⟨RX6, "page", "(I)I"⟩
abbrev cX6_prints : ByteArray := prog_1_method_35_code
def yX6_prints : MethodName := ⟨RX6, "prints", "(IIII)I"⟩
abbrev cX6_areLetters : ByteArray := prog_1_method_36_code
def yX6_areLetters : MethodName := ⟨RX6, "areLetters", "(LPrintedByFrost$Shelf;I)Z"⟩
abbrev cX6_becomes : ByteArray := prog_1_method_37_code
def yX6_becomes : MethodName := ⟨RX6, "becomes", "(I)I"⟩
abbrev cX6_turns : ByteArray := prog_1_method_38_code
def yX6_turns : MethodName := ⟨RX6, "turns", "(III)I"⟩
abbrev cX6_could : ByteArray := prog_1_method_39_code
def yX6_could : MethodName := ⟨RX6, "could", "(III)I"⟩
abbrev cX6_unlike : ByteArray := prog_1_method_40_code
def yX6_unlike : MethodName := ⟨RX6, "unlike", "(II)I"⟩
abbrev cX6_closest : ByteArray := prog_1_method_41_code
def yX6_closest : MethodName := ⟨RX6, "closest", "()I"⟩
abbrev cX6_mend : ByteArray := prog_1_method_42_code
def yX6_mend : MethodName := ⟨RX6, "mend", "(I)I"⟩
abbrev cX6_stove : ByteArray := prog_1_method_43_code
def yX6_stove : MethodName := ⟨RX6, "stove", "(III)I"⟩
abbrev cX6_chill : ByteArray := prog_1_method_44_code
def yX6_chill : MethodName := ⟨RX6, "chill", "(III)I"⟩
abbrev cX6_mistaken : ByteArray := prog_1_method_45_code
def yX6_mistaken : MethodName := ⟨RX6, "mistaken", "()I"⟩
abbrev cX6_let : ByteArray := prog_1_method_46_code
def yX6_let : MethodName := ⟨RX6, "let", "()I"⟩
abbrev cX6_night : ByteArray := prog_1_method_47_code
def yX6_night : MethodName := ⟨RX6, "night", "()I"⟩
abbrev cX6_hours : ByteArray := prog_1_method_48_code
def yX6_hours : MethodName := ⟨RX6, "hours", "(I)I"⟩
abbrev cX6_truth : ByteArray := prog_1_method_49_code
def yX6_truth : MethodName := ⟨RX6, "truth", "(II)I"⟩
abbrev cX6_readOf : ByteArray := prog_1_method_50_code
def yX6_readOf : MethodName := ⟨RX6, "readOf", "(I)I"⟩
abbrev cX6_breath : ByteArray := prog_1_method_51_code
def yX6_breath : MethodName := ⟨RX6, "breath", "(II)I"⟩
abbrev cX6_scratch : ByteArray := prog_1_method_52_code
def yX6_scratch : MethodName := ⟨RX6, "scratch", "(II)I"⟩
abbrev cX6_winter : ByteArray := prog_1_method_53_code
def yX6_winter : MethodName := ⟨RX6, "winter", "(I)I"⟩
abbrev cX6_seed : ByteArray := prog_1_method_54_code
def yX6_seed : MethodName := ⟨RX6, "seed", "(I)I"⟩
abbrev cX6_act : ByteArray := prog_1_method_55_code
def yX6_act : MethodName := ⟨RX6, "act", "(III)I"⟩
abbrev cX6_trace : ByteArray := prog_1_method_56_code
def yX6_trace : MethodName := ⟨RX6, "trace", "(I)I"⟩
abbrev cX6_image : ByteArray := prog_1_method_57_code
def yX6_image : MethodName := ⟨RX6, "image", "()I"⟩
abbrev cX6_restore : ByteArray := prog_1_method_58_code
def yX6_restore : MethodName := ⟨RX6, "restore", "()I"⟩
abbrev cX6_status : ByteArray := prog_1_method_59_code
def yX6_status : MethodName := ⟨RX6, "status", "(I)I"⟩
abbrev cX6_refusalsOf : ByteArray := prog_1_method_60_code
def yX6_refusalsOf : MethodName := ⟨RX6, "refusalsOf", "(I)I"⟩
def RX7 : String := "PrintedByFrostModel"
def TX7 : u_T := fun k => match k with
  | 0 => ("PrintedByFrostModel", "holding", "[I", true)
  | 1 => ("PrintedByFrostModel", "rowLength", "[I", true)
  | 2 => ("PrintedByFrostModel", "rowOf", "[J", true)
  | 3 => ("PrintedByFrostModel", "letters", "I", false)
  | 4 => ("PrintedByFrostModel", "form", "[I", true)
  | 5 => ("PrintedByFrostModel", "panes", "I", false)
  | 6 => ("PrintedByFrostModel", "kind", "[I", true)
  | 7 => ("PrintedByFrostModel", "room", "[I", true)
  | 8 => ("PrintedByFrostModel", "own", "[I", true)
  | 9 => ("PrintedByFrostModel", "hung", "[I", true)
  | 10 => ("PrintedByFrostModel", "scratched", "[I", true)
  | 11 => ("PrintedByFrostModel", "truth", "[I", true)
  | 12 => ("PrintedByFrostModel", "cold", "I", false)
  | 13 => ("PrintedByFrostModel", "wet", "I", false)
  | 14 => ("PrintedByFrostModel", "out", "I", false)
  | 15 => ("PrintedByFrostModel", "hour", "I", false)
  | 16 => ("PrintedByFrostModel", "editions", "I", false)
  | 17 => ("PrintedByFrostModel", "seed", "I", false)
  | 18 => ("PrintedByFrostModel", "fault", "I", false)
  | 19 => ("PrintedByFrostModel", "refusals", "[I", true)
  | 20 => ("PrintedByFrostModel", "traced", "I", false)
  | 21 => ("PrintedByFrostModel", "traces", "[I", true)
  | 22 => ("PrintedByFrostModel", "imaged", "Z", false)
  | 23 => ("PrintedByFrostModel", "old", "[I", true)
  | 24 => ("PrintedByFrostModel", "ice", "[I", true)
  | 25 => ("PrintedByFrostModel", "was", "[I", true)
  | 26 => ("PrintedByFrostModel", "reading", "I", false)
  | 27 => ("PrintedByFrostModel", "at", "I", false)
  | 28 => ("PrintedByFrostModel", "numbers", "[I", true)
  | 29 => ("PrintedByFrostModel", "choice", "[I", true)
  | _ => ("PrintedByFrostModel", "best", "[I", true)
def tyX7 : Nat → FieldType := fun k => match k with
  | 0 => .array .int
  | 1 => .array .int
  | 2 => .array .long
  | 3 => .int
  | 4 => .array .int
  | 5 => .int
  | 6 => .array .int
  | 7 => .array .int
  | 8 => .array .int
  | 9 => .array .int
  | 10 => .array .int
  | 11 => .array .int
  | 12 => .int
  | 13 => .int
  | 14 => .int
  | 15 => .int
  | 16 => .int
  | 17 => .int
  | 18 => .int
  | 19 => .array .int
  | 20 => .int
  | 21 => .array .int
  | 22 => .boolean
  | 23 => .array .int
  | 24 => .array .int
  | 25 => .array .int
  | 26 => .int
  | 27 => .int
  | 28 => .array .int
  | 29 => .array .int
  | _ => .array .int
abbrev wsX70 : List Cond := u_ws RX7 TX7 31
theorem nmX7 : ∀ a, a < 31 → ∀ b, b < 31 → a ≠ b → (TX7 a).2.1 ≠ (TX7 b).2.1 := by decide +kernel
theorem tyX7_ok : ∀ k, k < 31 → parseFieldDescriptor (TX7 k).2.2.1 = some (tyX7 k) := by decide +kernel
abbrev cX7_init : ByteArray := prog_9_method_1_code
def yX7_init : MethodName := ⟨RX7, "<init>", "()V"⟩
abbrev cX7_no : ByteArray := prog_9_method_2_code
def yX7_no : MethodName := ⟨RX7, "no", "(I)I"⟩
abbrev cX7_no10 : ByteArray := prog_9_method_3_code
def yX7_no10 : MethodName := ⟨RX7, "no10", "(I)I"⟩
abbrev cX7_within : ByteArray := prog_9_method_4_code
def yX7_within : MethodName := ⟨RX7, "within", "(III)Z"⟩
abbrev cX7_isPane : ByteArray := prog_9_method_5_code
def yX7_isPane : MethodName := ⟨RX7, "isPane", "(I)Z"⟩
abbrev cX7_isLetter : ByteArray := prog_9_method_6_code
def yX7_isLetter : MethodName := ⟨RX7, "isLetter", "(I)Z"⟩
abbrev cX7_isRow : ByteArray := prog_9_method_7_code
def yX7_isRow : MethodName := ⟨RX7, "isRow", "(I)Z"⟩
abbrev cX7_row : ByteArray := prog_9_method_8_code
def yX7_row : MethodName := ⟨RX7, "row", "(III)I"⟩
abbrev cX7_noRow : ByteArray := prog_9_method_9_code
def yX7_noRow : MethodName := ⟨RX7, "noRow", "(I)I"⟩
abbrev cX7_set : ByteArray := prog_9_method_10_code
def yX7_set : MethodName := ⟨RX7, "set", "(IIJ)I"⟩
abbrev cX7_copy : ByteArray := prog_9_method_11_code
def yX7_copy : MethodName := ⟨RX7, "copy", "(IIIII)I"⟩
abbrev cX7_element : ByteArray := prog_9_method_12_code
def yX7_element : MethodName := ⟨RX7, "element", "(II)J"⟩
abbrev cX7_show : ByteArray := prog_9_method_13_code
def yX7_show : MethodName := ⟨RX7, "show", "(II)I"⟩
abbrev cX7_holds : ByteArray := prog_9_method_14_code
def yX7_holds : MethodName := ⟨RX7, "holds", "(I)I"⟩
abbrev cX7_above : ByteArray := prog_9_method_15_code
def yX7_above : MethodName := ⟨RX7, "above", "(I)I"⟩
abbrev cX7_isUnder : ByteArray := prog_9_method_16_code
def yX7_isUnder : MethodName := ⟨RX7, "isUnder", "(II)Z"⟩
abbrev cX7_says : ByteArray := prog_9_method_17_code
def yX7_says : MethodName := ⟨RX7, "says", "(II)I"⟩
abbrev cX7_form : ByteArray := prog_9_method_18_code
def yX7_form : MethodName := ⟨RX7, "form", "(I)I"⟩
abbrev cX7_formOf : ByteArray := prog_9_method_19_code
def yX7_formOf : MethodName := ⟨RX7, "formOf", "(I)I"⟩
abbrev cX7_pane : ByteArray := prog_9_method_20_code
def yX7_pane : MethodName := ⟨RX7, "pane", "(III)I"⟩
abbrev cX7_paneOf : ByteArray := prog_9_method_21_code
def yX7_paneOf : MethodName := ⟨RX7, "paneOf", "(II)I"⟩
abbrev cX7_hang : ByteArray := prog_9_method_22_code
def yX7_hang : MethodName := ⟨RX7, "hang", "(II)I"⟩
abbrev cX7_hangs : ByteArray := prog_9_method_23_code
def yX7_hangs : MethodName := ⟨RX7, "hangs", "(I)I"⟩
abbrev cX7_ask : ByteArray := prog_9_method_24_code
def yX7_ask : MethodName := ⟨RX7, "ask", "(II)I"⟩
abbrev cX7_room : ByteArray := prog_9_method_25_code
def yX7_room : MethodName := ⟨RX7, "room", "(II)I"⟩
abbrev cX7_sign : ByteArray := prog_9_method_26_code
def yX7_sign : MethodName := ⟨RX7, "sign", "()I"⟩
abbrev cX7_is : ByteArray := prog_9_method_27_code
def yX7_is : MethodName := ⟨RX7, "is", "(C)Z"⟩
abbrev cX7_word : ByteArray := prog_9_method_28_code
def yX7_word : MethodName := ⟨RX7, "word", "(Ljava/lang/String;)Z"⟩
abbrev cX7_number : ByteArray := prog_9_method_29_code
def yX7_number : MethodName := ⟨RX7, "number", "(II)Z"⟩
abbrev cX7_word_ : ByteArray := prog_9_method_30_code
def yX7_word_ : MethodName := ⟨RX7, "word", "(Ljava/lang/String;Z)Z"⟩
abbrev cX7_item : ByteArray := prog_9_method_31_code
def yX7_item : MethodName := ⟨RX7, "item", "()Z"⟩
abbrev cX7_press : ByteArray := prog_9_method_32_code
def yX7_press : MethodName := ⟨RX7, "press", "(I)I"⟩
abbrev cX7_fault : ByteArray := prog_9_method_33_code
def yX7_fault : MethodName := ⟨RX7, "fault", "()I"⟩
abbrev cX7_sharp : ByteArray := prog_9_method_34_code
def yX7_sharp : MethodName := ⟨RX7, "sharp", "(I)I"⟩
abbrev cX7_pattern : ByteArray := prog_9_method_35_code
def yX7_pattern : MethodName := ⟨RX7, "pattern", "(II)I"⟩
abbrev cX7_freeze : ByteArray := prog_9_method_36_code
def yX7_freeze : MethodName := ⟨RX7, "freeze", "(II)V"⟩
abbrev cX7_melts : ByteArray := prog_9_method_37_code
def yX7_melts : MethodName := ⟨RX7, "melts", "(II)I"⟩
abbrev cX7_melting : ByteArray := prog_9_method_38_code
def yX7_melting : MethodName := ⟨RX7, "melting", "(II)V"⟩
abbrev cX7_shapeNow : ByteArray := prog_9_method_39_code
def yX7_shapeNow : MethodName := ⟨RX7, "shapeNow", "()I"⟩
abbrev cX7_shapeAt : ByteArray := prog_9_method_40_code
def yX7_shapeAt : MethodName := ⟨RX7, "shapeAt", "(III)I"⟩
abbrev cX7_read : ByteArray := prog_9_method_41_code
def yX7_read : MethodName := ⟨RX7, "read", "(I)I"⟩
abbrev cX7_readAt : ByteArray := prog_9_method_42_code
def yX7_readAt : MethodName := ⟨RX7, "readAt", "(III)I"⟩
abbrev cX7_melt : ByteArray := prog_9_method_43_code
def yX7_melt : MethodName := ⟨RX7, "melt", "(II)I"⟩
abbrev cX7_isLetterOrNone : ByteArray := prog_9_method_44_code
def yX7_isLetterOrNone : MethodName := ⟨RX7, "isLetterOrNone", "(I)Z"⟩
abbrev cX7_ice : ByteArray := prog_9_method_45_code
def yX7_ice : MethodName := ⟨RX7, "ice", "(IIII)I"⟩
abbrev cX7_shape : ByteArray := prog_9_method_46_code
def yX7_shape : MethodName := ⟨RX7, "shape", "(III)I"⟩
abbrev cX7_reads : ByteArray := prog_9_method_47_code
def yX7_reads : MethodName := ⟨RX7, "reads", "(I)I"⟩
abbrev cX7_readsAs : ByteArray := prog_9_method_48_code
def yX7_readsAs : MethodName := ⟨RX7, "readsAs", "(III)I"⟩
abbrev cX7_lasts : ByteArray := prog_9_method_49_code
def yX7_lasts : MethodName := ⟨RX7, "lasts", "(II)I"⟩
abbrev cX7_page : ByteArray := prog_9_method_50_code
def yX7_page : MethodName := ⟨RX7, "page", "(I)I"⟩
abbrev cX7_prints : ByteArray := prog_9_method_51_code
def yX7_prints : MethodName := ⟨RX7, "prints", "(IIII)I"⟩
abbrev cX7_becomes : ByteArray := prog_9_method_52_code
def yX7_becomes : MethodName := ⟨RX7, "becomes", "(I)I"⟩
abbrev cX7_turns : ByteArray := prog_9_method_53_code
def yX7_turns : MethodName := ⟨RX7, "turns", "(III)I"⟩
abbrev cX7_could : ByteArray := prog_9_method_54_code
def yX7_could : MethodName := ⟨RX7, "could", "(III)I"⟩
abbrev cX7_unlike : ByteArray := prog_9_method_55_code
def yX7_unlike : MethodName := ⟨RX7, "unlike", "(II)I"⟩
abbrev cX7_closest : ByteArray := prog_9_method_56_code
def yX7_closest : MethodName := ⟨RX7, "closest", "()I"⟩
abbrev cX7_mend : ByteArray := prog_9_method_57_code
def yX7_mend : MethodName := ⟨RX7, "mend", "(I)I"⟩
abbrev cX7_stove : ByteArray := prog_9_method_58_code
def yX7_stove : MethodName := ⟨RX7, "stove", "(III)I"⟩
abbrev cX7_chill : ByteArray := prog_9_method_59_code
def yX7_chill : MethodName := ⟨RX7, "chill", "(III)I"⟩
abbrev cX7_mistaken : ByteArray := prog_9_method_60_code
def yX7_mistaken : MethodName := ⟨RX7, "mistaken", "()I"⟩
abbrev cX7_let : ByteArray := prog_9_method_61_code
def yX7_let : MethodName := ⟨RX7, "let", "()I"⟩
abbrev cX7_night : ByteArray := prog_9_method_62_code
def yX7_night : MethodName := ⟨RX7, "night", "()I"⟩
abbrev cX7_load : ByteArray := prog_9_method_63_code
def yX7_load : MethodName := ⟨RX7, "load", "(I)V"⟩
abbrev cX7_hours : ByteArray := prog_9_method_64_code
def yX7_hours : MethodName := ⟨RX7, "hours", "(I)I"⟩
abbrev cX7_truth : ByteArray := prog_9_method_65_code
def yX7_truth : MethodName := ⟨RX7, "truth", "(II)I"⟩
abbrev cX7_readOf : ByteArray := prog_9_method_66_code
def yX7_readOf : MethodName := ⟨RX7, "readOf", "(I)I"⟩
abbrev cX7_breath : ByteArray := prog_9_method_67_code
def yX7_breath : MethodName := ⟨RX7, "breath", "(II)I"⟩
abbrev cX7_scratch : ByteArray := prog_9_method_68_code
def yX7_scratch : MethodName := ⟨RX7, "scratch", "(II)I"⟩
abbrev cX7_draw : ByteArray := prog_9_method_69_code
def yX7_draw : MethodName := ⟨RX7, "draw", "(I)I"⟩
abbrev cX7_winter : ByteArray := prog_9_method_70_code
def yX7_winter : MethodName := ⟨RX7, "winter", "(I)I"⟩
abbrev cX7_seed : ByteArray := prog_9_method_71_code
def yX7_seed : MethodName := ⟨RX7, "seed", "(I)I"⟩
abbrev cX7_ran : ByteArray := prog_9_method_72_code
def yX7_ran : MethodName := ⟨RX7, "ran", "(I)V"⟩
abbrev cX7_freezes : ByteArray := prog_9_method_73_code
def yX7_freezes : MethodName := ⟨RX7, "freezes", "(II)I"⟩
abbrev cX7_melts0 : ByteArray := prog_9_method_74_code
def yX7_melts0 : MethodName := ⟨RX7, "melts0", "(II)I"⟩
abbrev cX7_melts2 : ByteArray := prog_9_method_75_code
def yX7_melts2 : MethodName := ⟨RX7, "melts2", "(II)I"⟩
abbrev cX7_melts3 : ByteArray := prog_9_method_76_code
def yX7_melts3 : MethodName := ⟨RX7, "melts3", "(II)I"⟩
abbrev cX7_meltsAct : ByteArray := prog_9_method_77_code
def yX7_meltsAct : MethodName := ⟨RX7, "meltsAct", "(II)I"⟩
abbrev cX7_shows0 : ByteArray := prog_9_method_78_code
def yX7_shows0 : MethodName := ⟨RX7, "shows0", "(II)I"⟩
abbrev cX7_shows : ByteArray := prog_9_method_79_code
def yX7_shows : MethodName := ⟨RX7, "shows", "(II)I"⟩
abbrev cX7_act : ByteArray := prog_9_method_80_code
def yX7_act : MethodName := ⟨RX7, "act", "(III)I"⟩
abbrev cX7_trace : ByteArray := prog_9_method_81_code
def yX7_trace : MethodName := ⟨RX7, "trace", "(I)I"⟩
abbrev cX7_image : ByteArray := prog_9_method_82_code
def yX7_image : MethodName := ⟨RX7, "image", "()I"⟩
abbrev cX7_restore : ByteArray := prog_9_method_83_code
def yX7_restore : MethodName := ⟨RX7, "restore", "()I"⟩
abbrev cX7_status : ByteArray := prog_9_method_84_code
def yX7_status : MethodName := ⟨RX7, "status", "(I)I"⟩
def RJ6 : String := "java/lang/Integer"
def TJ6 : u_T := fun k => match k with
  | _ => ("", "", "", false)
def tyJ6 : Nat → FieldType := fun k => match k with
  | _ => .int
abbrev wsJ60 : List Cond := u_ws RJ6 TJ6 0
theorem nmJ6 : ∀ a, a < 0 → ∀ b, b < 0 → a ≠ b → (TJ6 a).2.1 ≠ (TJ6 b).2.1 := by decide +kernel
theorem tyJ6_ok : ∀ k, k < 0 → parseFieldDescriptor (TJ6 k).2.2.1 = some (tyJ6 k) := by decide +kernel
abbrev cJ6_bitCount_0f7a4 : ByteArray := prog_10_method_49_code
def yJ6_bitCount_0f7a4 : MethodName := ⟨RJ6, "bitCount", "(I)I"⟩
def RJ9 : String := "java/lang/Math"
def TJ9 : u_T := fun k => match k with
  | _ => ("", "", "", false)
def tyJ9 : Nat → FieldType := fun k => match k with
  | _ => .int
abbrev wsJ90 : List Cond := u_ws RJ9 TJ9 0
theorem nmJ9 : ∀ a, a < 0 → ∀ b, b < 0 → a ≠ b → (TJ9 a).2.1 ≠ (TJ9 b).2.1 := by decide +kernel
theorem tyJ9_ok : ∀ k, k < 0 → parseFieldDescriptor (TJ9 k).2.2.1 = some (tyJ9 k) := by decide +kernel
abbrev cJ9_abs_0f7a4 : ByteArray := prog_11_method_59_code
def yJ9_abs_0f7a4 : MethodName := ⟨RJ9, "abs", "(I)I"⟩
abbrev cJ9_max_7cf53 : ByteArray := prog_11_method_65_code
def yJ9_max_7cf53 : MethodName := ⟨RJ9, "max", "(II)I"⟩
abbrev cJ9_min_7cf53 : ByteArray := prog_11_method_69_code
def yJ9_min_7cf53 : MethodName := ⟨RJ9, "min", "(II)I"⟩
def RJ0 : String := "java/lang/String"
def TJ0 : u_T := fun k => match k with
  | _ => ("", "", "", false)
def tyJ0 : Nat → FieldType := fun k => match k with
  | _ => .int
abbrev wsJ00 : List Cond := u_ws RJ0 TJ0 0
theorem nmJ0 : ∀ a, a < 0 → ∀ b, b < 0 → a ≠ b → (TJ0 a).2.1 ≠ (TJ0 b).2.1 := by decide +kernel
theorem tyJ0_ok : ∀ k, k < 0 → parseFieldDescriptor (TJ0 k).2.2.1 = some (tyJ0 k) := by decide +kernel
abbrev cJ0_length_8abf5 : ByteArray := prog_12_method_54_code
def yJ0_length_8abf5 : MethodName := ⟨RJ0, "length", "()I"⟩
abbrev cJ0_charAt_5068e : ByteArray := prog_12_method_56_code
def yJ0_charAt_5068e : MethodName := ⟨RJ0, "charAt", "(I)C"⟩
abbrev cJ0_coder_7d493 : ByteArray := prog_12_method_152_code
def yJ0_coder_7d493 : MethodName := ⟨RJ0, "coder", "()B"⟩
abbrev cJ0_isLatin1_aae02 : ByteArray := prog_12_method_154_code
def yJ0_isLatin1_aae02 : MethodName := ⟨RJ0, "isLatin1", "()Z"⟩
abbrev cJ0_checkIndex_df160 : ByteArray := prog_12_method_155_code
def yJ0_checkIndex_df160 : MethodName := ⟨RJ0, "checkIndex", "(II)V"⟩
def RJ1 : String := "java/lang/StringLatin1"
def TJ1 : u_T := fun k => match k with
  | _ => ("", "", "", false)
def tyJ1 : Nat → FieldType := fun k => match k with
  | _ => .int
abbrev wsJ10 : List Cond := u_ws RJ1 TJ1 0
theorem nmJ1 : ∀ a, a < 0 → ∀ b, b < 0 → a ≠ b → (TJ1 a).2.1 ≠ (TJ1 b).2.1 := by decide +kernel
theorem tyJ1_ok : ∀ k, k < 0 → parseFieldDescriptor (TJ1 k).2.2.1 = some (tyJ1 k) := by decide +kernel
abbrev cJ1_charAt_3b067 : ByteArray := prog_13_method_2_code
def yJ1_charAt_3b067 : MethodName := ⟨RJ1, "charAt", "([BI)C"⟩
def RJ2 : String := "java/lang/StringUTF16"
def TJ2 : u_T := fun k => match k with
  | _ => ("", "", "", false)
def tyJ2 : Nat → FieldType := fun k => match k with
  | _ => .int
abbrev wsJ20 : List Cond := u_ws RJ2 TJ2 0
theorem nmJ2 : ∀ a, a < 0 → ∀ b, b < 0 → a ≠ b → (TJ2 a).2.1 ≠ (TJ2 b).2.1 := by decide +kernel
theorem tyJ2_ok : ∀ k, k < 0 → parseFieldDescriptor (TJ2 k).2.2.1 = some (tyJ2 k) := by decide +kernel
abbrev cJ2_getChar_3b067 : ByteArray := prog_14_method_5_code
def yJ2_getChar_3b067 : MethodName := ⟨RJ2, "getChar", "([BI)C"⟩
abbrev cJ2_length_9d52b : ByteArray := prog_14_method_6_code
def yJ2_length_9d52b : MethodName := ⟨RJ2, "length", "([B)I"⟩
abbrev cJ2_charAt_3b067 : ByteArray := prog_14_method_83_code
def yJ2_charAt_3b067 : MethodName := ⟨RJ2, "charAt", "([BI)C"⟩
abbrev cJ2_checkIndex_2214a : ByteArray := prog_14_method_91_code
def yJ2_checkIndex_2214a : MethodName := ⟨RJ2, "checkIndex", "(I[B)V"⟩
def RJ3 : String := "jdk/internal/util/Preconditions"
def TJ3 : u_T := fun k => match k with
  | _ => ("", "", "", false)
def tyJ3 : Nat → FieldType := fun k => match k with
  | _ => .int
abbrev wsJ30 : List Cond := u_ws RJ3 TJ3 0
theorem nmJ3 : ∀ a, a < 0 → ∀ b, b < 0 → a ≠ b → (TJ3 a).2.1 ≠ (TJ3 b).2.1 := by decide +kernel
theorem tyJ3_ok : ∀ k, k < 0 → parseFieldDescriptor (TJ3 k).2.2.1 = some (tyJ3 k) := by decide +kernel
abbrev cJ3_checkIndex_8e157 : ByteArray := prog_15_method_11_code
def yJ3_checkIndex_8e157 : MethodName := ⟨RJ3, "checkIndex", "(IILjava/util/function/BiFunction;)I"⟩
def RL : String := "PrintedByFrostLaw"
abbrev cL_law : ByteArray := code
def yL_law : MethodName := ⟨RL, "law", "([I)Z"⟩
abbrev vwCl : List vw_C := [(RX0, TX0, 5), (RX1, TX1, 6), (RX2, TX2, 3), (RX3, TX3, 5), (RX4, TX4, 10), (RX5, TX5, 7), (RX6, TX6, 9), (RX7, TX7, 31)]
