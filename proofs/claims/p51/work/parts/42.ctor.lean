/-! THE CONSTRUCTORS, walked by program (ctor.py): which cells, references and ints they write, in order -/
def zwR : List (Nat × Nat × Nat) := [(2, 0, 3), (2, 1, 4), (5, 5, 6), (4, 0, 5), (7, 5, 8), (4, 1, 7), (9, 5, 10), (4, 2, 9), (11, 5, 12), (4, 3, 11), (13, 5, 14), (4, 4, 13), (15, 5, 16), (4, 5, 15), (17, 5, 18), (4, 6, 17), (19, 5, 20), (4, 7, 19), (1, 0, 2), (21, 0, 22), (21, 1, 23), (24, 5, 25), (23, 0, 24), (26, 5, 27), (23, 1, 26), (28, 5, 29), (23, 2, 28), (30, 5, 31), (23, 3, 30), (32, 5, 33), (23, 4, 32), (34, 5, 35), (23, 5, 34), (36, 5, 37), (23, 6, 36), (38, 5, 39), (23, 7, 38), (1, 1, 21), (40, 0, 41), (40, 1, 42), (43, 5, 44), (42, 0, 43), (45, 5, 46), (42, 1, 45), (47, 5, 48), (42, 2, 47), (49, 5, 50), (42, 3, 49), (51, 5, 52), (42, 4, 51), (53, 5, 54), (42, 5, 53), (55, 5, 56), (42, 6, 55), (57, 5, 58), (42, 7, 57), (1, 2, 40), (59, 0, 2), (60, 5, 61), (59, 1, 60), (59, 2, 62), (59, 3, 63), (59, 4, 64), (1, 3, 59), (1, 4, 65), (66, 0, 67), (65, 0, 66), (68, 0, 69), (65, 1, 68), (70, 0, 71), (65, 2, 70), (72, 0, 73), (65, 3, 72), (74, 0, 75), (65, 4, 74), (76, 0, 77), (65, 5, 76), (78, 0, 79), (65, 6, 78), (80, 0, 81), (65, 7, 80), (82, 0, 83), (1, 5, 82), (84, 0, 85), (1, 6, 84), (1, 7, 86)]
def zwI : List (Nat × Nat × Int32) := [(5, 0, 0), (5, 1, 0), (5, 2, 0), (5, 3, -1), (5, 4, 0), (7, 0, 0), (7, 1, 0), (7, 2, 0), (7, 3, -1), (7, 4, 0), (9, 0, 0), (9, 1, 0), (9, 2, 0), (9, 3, -1), (9, 4, 0), (11, 0, 0), (11, 1, 0), (11, 2, 0), (11, 3, -1), (11, 4, 0), (13, 0, 0), (13, 1, 0), (13, 2, 0), (13, 3, -1), (13, 4, 0), (15, 0, 0), (15, 1, 0), (15, 2, 0), (15, 3, -1), (15, 4, 0), (17, 0, 0), (17, 1, 0), (17, 2, 0), (17, 3, -1), (17, 4, 0), (19, 0, 0), (19, 1, 0), (19, 2, 0), (19, 3, -1), (19, 4, 0), (2, 2, 0), (2, 3, 0), (2, 4, 20), (2, 5, 5), (2, 6, 1), (2, 7, 24), (2, 8, 0), (2, 9, 1), (24, 0, 0), (24, 1, 0), (24, 2, 0), (24, 3, -1), (24, 4, 0), (26, 0, 0), (26, 1, 0), (26, 2, 0), (26, 3, -1), (26, 4, 0), (28, 0, 0), (28, 1, 0), (28, 2, 0), (28, 3, -1), (28, 4, 0), (30, 0, 0), (30, 1, 0), (30, 2, 0), (30, 3, -1), (30, 4, 0), (32, 0, 0), (32, 1, 0), (32, 2, 0), (32, 3, -1), (32, 4, 0), (34, 0, 0), (34, 1, 0), (34, 2, 0), (34, 3, -1), (34, 4, 0), (36, 0, 0), (36, 1, 0), (36, 2, 0), (36, 3, -1), (36, 4, 0), (38, 0, 0), (38, 1, 0), (38, 2, 0), (38, 3, -1), (38, 4, 0), (21, 2, 0), (21, 3, 0), (21, 4, 20), (21, 5, 5), (21, 6, 1), (21, 7, 24), (21, 8, 0), (21, 9, 1), (43, 0, 0), (43, 1, 0), (43, 2, 0), (43, 3, -1), (43, 4, 0), (45, 0, 0), (45, 1, 0), (45, 2, 0), (45, 3, -1), (45, 4, 0), (47, 0, 0), (47, 1, 0), (47, 2, 0), (47, 3, -1), (47, 4, 0), (49, 0, 0), (49, 1, 0), (49, 2, 0), (49, 3, -1), (49, 4, 0), (51, 0, 0), (51, 1, 0), (51, 2, 0), (51, 3, -1), (51, 4, 0), (53, 0, 0), (53, 1, 0), (53, 2, 0), (53, 3, -1), (53, 4, 0), (55, 0, 0), (55, 1, 0), (55, 2, 0), (55, 3, -1), (55, 4, 0), (57, 0, 0), (57, 1, 0), (57, 2, 0), (57, 3, -1), (57, 4, 0), (40, 2, 0), (40, 3, 0), (40, 4, 20), (40, 5, 5), (40, 6, 1), (40, 7, 24), (40, 8, 0), (40, 9, 1), (60, 0, 0), (60, 1, 0), (60, 2, 0), (60, 3, -1), (60, 4, 0), (59, 5, 0), (59, 6, 0), (66, 1, 0), (66, 2, 0), (66, 3, -1), (66, 4, 0), (68, 1, 0), (68, 2, 0), (68, 3, -1), (68, 4, 0), (70, 1, 0), (70, 2, 0), (70, 3, -1), (70, 4, 0), (72, 1, 0), (72, 2, 0), (72, 3, -1), (72, 4, 0), (74, 1, 0), (74, 2, 0), (74, 3, -1), (74, 4, 0), (76, 1, 0), (76, 2, 0), (76, 3, -1), (76, 4, 0), (78, 1, 0), (78, 2, 0), (78, 3, -1), (78, 4, 0), (80, 1, 0), (80, 2, 0), (80, 3, -1), (80, 4, 0), (82, 1, 0), (82, 2, -1), (84, 1, 0), (84, 2, 0), (84, 3, 0), (84, 4, 0), (1, 8, 0)]
def rT (t : Nat) : Nat → Nat → Nat := wrF 0 zwR t
def iT (u : Nat) : zI := wrF 0 zwI u
theorem zv_28 : Cond.initialized RX2 ∈ zT := zTi 28 (by decide +kernel) (by decide +kernel)
theorem zv_29 : Cond.initialized RX0 ∈ zT := zTi 29 (by decide +kernel) (by decide +kernel)
theorem zv_39 : Cond.instanceMethod yX6_init ∈ zT := zTi 39 (by decide +kernel) (by decide +kernel)
theorem zv_40 : Cond.code yX6_init cX6_init 2 none ∈ zT := zTi 40 (by decide +kernel) (by decide +kernel)
theorem zv_41 : Cond.methodLink RX6 1 Lib.objectInit ∈ zT := zTi 41 (by decide +kernel) (by decide +kernel)
theorem zv_42 : Cond.instanceMethod Lib.objectInit ∈ zT := zTi 42 (by decide +kernel) (by decide +kernel)
theorem zv_43 : Cond.code Lib.objectInit ⟨#[0xb1]⟩ 1 none ∈ zT := zTi 43 (by decide +kernel) (by decide +kernel)
theorem zv_44 : Cond.classLink RX6 7 RX4 ∈ zT := zTi 44 (by decide +kernel) (by decide +kernel)
theorem zv_45 : Cond.instantiable RX4 10 ∈ zT := zTi 45 (by decide +kernel) (by decide +kernel)
theorem zv_46 : Cond.methodLink RX6 9 yX4_init ∈ zT := zTi 46 (by decide +kernel) (by decide +kernel)
theorem zv_47 : Cond.instanceMethod yX4_init ∈ zT := zTi 47 (by decide +kernel) (by decide +kernel)
theorem zv_48 : Cond.code yX4_init cX4_init 2 none ∈ zT := zTi 48 (by decide +kernel) (by decide +kernel)
theorem zv_49 : Cond.methodLink RX4 3 Lib.objectInit ∈ zT := zTi 49 (by decide +kernel) (by decide +kernel)
theorem zv_50 : Cond.classLink RX4 15 RX1 ∈ zT := zTi 50 (by decide +kernel) (by decide +kernel)
theorem zv_52 : Cond.instantiable RX1 6 ∈ zT := zTi 52 (by decide +kernel) (by decide +kernel)
theorem zv_53 : Cond.methodLink RX4 21 yX1_init ∈ zT := zTi 53 (by decide +kernel) (by decide +kernel)
theorem zv_54 : Cond.instanceMethod yX1_init ∈ zT := zTi 54 (by decide +kernel) (by decide +kernel)
theorem zv_55 : Cond.code yX1_init cX1_init 1 none ∈ zT := zTi 55 (by decide +kernel) (by decide +kernel)
theorem zv_56 : Cond.methodLink RX1 3 Lib.objectInit ∈ zT := zTi 56 (by decide +kernel) (by decide +kernel)
theorem zv_85 : Cond.arrayClass .int ∈ zT := zTi 85 (by decide +kernel) (by decide +kernel)
theorem zv_135 : Cond.classLink RX6 22 RX5 ∈ zT := zTi 135 (by decide +kernel) (by decide +kernel)
theorem zv_136 : Cond.instantiable RX5 7 ∈ zT := zTi 136 (by decide +kernel) (by decide +kernel)
theorem zv_137 : Cond.methodLink RX6 24 yX5_init ∈ zT := zTi 137 (by decide +kernel) (by decide +kernel)
theorem zv_138 : Cond.instanceMethod yX5_init ∈ zT := zTi 138 (by decide +kernel) (by decide +kernel)
theorem zv_139 : Cond.code yX5_init cX5_init 2 none ∈ zT := zTi 139 (by decide +kernel) (by decide +kernel)
theorem zv_140 : Cond.methodLink RX5 3 Lib.objectInit ∈ zT := zTi 140 (by decide +kernel) (by decide +kernel)
theorem zv_141 : Cond.classLink RX5 15 RX1 ∈ zT := zTi 141 (by decide +kernel) (by decide +kernel)
theorem zv_142 : Cond.methodLink RX5 17 yX1_init ∈ zT := zTi 142 (by decide +kernel) (by decide +kernel)
theorem zv_146 : Cond.fieldLink RX5 26 "PrintedByFrost$Thought" "rightLetters" "[I" ∈ zT := zTi 146 (by decide +kernel) (by decide +kernel)
theorem zv_148 : Cond.fieldLink RX5 32 "PrintedByFrost$Thought" "chosenPanes" "I" ∈ zT := zTi 148 (by decide +kernel) (by decide +kernel)
theorem zv_149 : Cond.fieldLink RX5 36 "PrintedByFrost$Thought" "chosenRight" "I" ∈ zT := zTi 149 (by decide +kernel) (by decide +kernel)
theorem zv_165 : Cond.classLink RX6 31 RX3 ∈ zT := zTi 165 (by decide +kernel) (by decide +kernel)
theorem zv_167 : Cond.instantiable RX3 5 ∈ zT := zTi 167 (by decide +kernel) (by decide +kernel)
theorem zv_168 : Cond.methodLink RX6 37 yX3_init ∈ zT := zTi 168 (by decide +kernel) (by decide +kernel)
theorem zv_169 : Cond.instanceMethod yX3_init ∈ zT := zTi 169 (by decide +kernel) (by decide +kernel)
theorem zv_170 : Cond.code yX3_init cX3_init 1 none ∈ zT := zTi 170 (by decide +kernel) (by decide +kernel)
theorem zv_171 : Cond.methodLink RX3 3 Lib.objectInit ∈ zT := zTi 171 (by decide +kernel) (by decide +kernel)
theorem zv_191 : Cond.arrayClass .long ∈ zT := zTi 191 (by decide +kernel) (by decide +kernel)
theorem zv_192 : Cond.classLink RX6 38 RX2 ∈ zT := zTi 192 (by decide +kernel) (by decide +kernel)
theorem zv_193 : Cond.instantiable RX2 3 ∈ zT := zTi 193 (by decide +kernel) (by decide +kernel)
theorem zv_194 : Cond.methodLink RX6 40 yX2_init ∈ zT := zTi 194 (by decide +kernel) (by decide +kernel)
theorem zv_195 : Cond.instanceMethod yX2_init ∈ zT := zTi 195 (by decide +kernel) (by decide +kernel)
theorem zv_196 : Cond.code yX2_init cX2_init 1 none ∈ zT := zTi 196 (by decide +kernel) (by decide +kernel)
theorem zv_197 : Cond.methodLink RX2 3 Lib.objectInit ∈ zT := zTi 197 (by decide +kernel) (by decide +kernel)
theorem zv_198 : Cond.fieldLink RX2 9 "PrintedByFrost$Reader" "numbers" "[I" ∈ zT := zTi 198 (by decide +kernel) (by decide +kernel)
theorem zv_199 : Cond.fieldLink RX2 15 "PrintedByFrost$Reader" "at" "I" ∈ zT := zTi 199 (by decide +kernel) (by decide +kernel)
theorem zv_200 : Cond.fieldLink RX2 19 "PrintedByFrost$Reader" "faultPlace" "I" ∈ zT := zTi 200 (by decide +kernel) (by decide +kernel)
theorem zv_208 : Cond.classLink RX6 45 RX0 ∈ zT := zTi 208 (by decide +kernel) (by decide +kernel)
theorem zv_209 : Cond.instantiable RX0 5 ∈ zT := zTi 209 (by decide +kernel) (by decide +kernel)
theorem zv_210 : Cond.methodLink RX6 47 yX0_init ∈ zT := zTi 210 (by decide +kernel) (by decide +kernel)
theorem zv_211 : Cond.instanceMethod yX0_init ∈ zT := zTi 211 (by decide +kernel) (by decide +kernel)
theorem zv_212 : Cond.code yX0_init cX0_init 1 none ∈ zT := zTi 212 (by decide +kernel) (by decide +kernel)
theorem zv_213 : Cond.methodLink RX0 3 Lib.objectInit ∈ zT := zTi 213 (by decide +kernel) (by decide +kernel)
theorem zv_214 : Cond.fieldLink RX0 9 "PrintedByFrost$Acts" "bodies" "[I" ∈ zT := zTi 214 (by decide +kernel) (by decide +kernel)
theorem zv_215 : Cond.fieldLink RX0 15 "PrintedByFrost$Acts" "ran" "I" ∈ zT := zTi 215 (by decide +kernel) (by decide +kernel)
theorem zv_217 : Cond.fieldLink RX0 19 "PrintedByFrost$Acts" "kind" "I" ∈ zT := zTi 217 (by decide +kernel) (by decide +kernel)
theorem zv_218 : Cond.fieldLink RX0 22 "PrintedByFrost$Acts" "number" "I" ∈ zT := zTi 218 (by decide +kernel) (by decide +kernel)
theorem zv_219 : Cond.fieldLink RX0 25 "PrintedByFrost$Acts" "a" "I" ∈ zT := zTi 219 (by decide +kernel) (by decide +kernel)
theorem zv_233 : Cond.fieldLink RX6 19 "PrintedByFrost" "draft" "LPrintedByFrost$Street;" ∈ zT := zTi 233 (by decide +kernel) (by decide +kernel)
theorem zv_236 : Cond.fieldLink RX6 41 "PrintedByFrost" "reader" "LPrintedByFrost$Reader;" ∈ zT := zTi 236 (by decide +kernel) (by decide +kernel)
theorem zg_RX6_19 : zF RX6 19 6 2 9 RX6 TX6 tyX6 := ⟨zcl_6, rfl, zv_233, by decide⟩
theorem zg_RX5_26 : zF RX5 26 5 3 7 RX5 TX5 tyX5 := ⟨zcl_5, rfl, zv_146, by decide⟩
theorem zg_RX5_32 : zF RX5 32 5 5 7 RX5 TX5 tyX5 := ⟨zcl_5, rfl, zv_148, by decide⟩
theorem zg_RX5_36 : zF RX5 36 5 6 7 RX5 TX5 tyX5 := ⟨zcl_5, rfl, zv_149, by decide⟩
theorem zg_RX2_9 : zF RX2 9 2 0 3 RX2 TX2 tyX2 := ⟨zcl_2, rfl, zv_198, by decide⟩
theorem zg_RX2_15 : zF RX2 15 2 1 3 RX2 TX2 tyX2 := ⟨zcl_2, rfl, zv_199, by decide⟩
theorem zg_RX2_19 : zF RX2 19 2 2 3 RX2 TX2 tyX2 := ⟨zcl_2, rfl, zv_200, by decide⟩
theorem zg_RX6_41 : zF RX6 41 6 5 9 RX6 TX6 tyX6 := ⟨zcl_6, rfl, zv_236, by decide⟩
theorem zg_RX0_9 : zF RX0 9 0 0 5 RX0 TX0 tyX0 := ⟨zcl_0, rfl, zv_214, by decide⟩
theorem zg_RX0_15 : zF RX0 15 0 1 5 RX0 TX0 tyX0 := ⟨zcl_0, rfl, zv_215, by decide⟩
theorem zg_RX0_19 : zF RX0 19 0 2 5 RX0 TX0 tyX0 := ⟨zcl_0, rfl, zv_217, by decide⟩
theorem zg_RX0_22 : zF RX0 22 0 3 5 RX0 TX0 tyX0 := ⟨zcl_0, rfl, zv_218, by decide⟩
theorem zg_RX0_25 : zF RX0 25 0 4 5 RX0 TX0 tyX0 := ⟨zcl_0, rfl, zv_219, by decide⟩
theorem zdf_0 : ∀ j, j < 5 → defaultValue (tyX0 j) = (if zfr 0 j then Value.null else .int 0) := by
  intro j hj
  match j, hj with
  | 0, _ => rfl
  | 1, _ => rfl
  | 2, _ => rfl
  | 3, _ => rfl
  | 4, _ => rfl
  | j + 5, hj => exact absurd hj (by omega)
theorem zdf_1 : ∀ j, j < 6 → defaultValue (tyX1 j) = (if zfr 1 j then Value.null else .int 0) := by
  intro j hj
  match j, hj with
  | 0, _ => rfl
  | 1, _ => rfl
  | 2, _ => rfl
  | 3, _ => rfl
  | 4, _ => rfl
  | 5, _ => rfl
  | j + 6, hj => exact absurd hj (by omega)
theorem zdf_2 : ∀ j, j < 3 → defaultValue (tyX2 j) = (if zfr 2 j then Value.null else .int 0) := by
  intro j hj
  match j, hj with
  | 0, _ => rfl
  | 1, _ => rfl
  | 2, _ => rfl
  | j + 3, hj => exact absurd hj (by omega)
theorem zdf_3 : ∀ j, j < 5 → defaultValue (tyX3 j) = (if zfr 3 j then Value.null else .int 0) := by
  intro j hj
  match j, hj with
  | 0, _ => rfl
  | 1, _ => rfl
  | 2, _ => rfl
  | 3, _ => rfl
  | 4, _ => rfl
  | j + 5, hj => exact absurd hj (by omega)
theorem zdf_4 : ∀ j, j < 10 → defaultValue (tyX4 j) = (if zfr 4 j then Value.null else .int 0) := by
  intro j hj
  match j, hj with
  | 0, _ => rfl
  | 1, _ => rfl
  | 2, _ => rfl
  | 3, _ => rfl
  | 4, _ => rfl
  | 5, _ => rfl
  | 6, _ => rfl
  | 7, _ => rfl
  | 8, _ => rfl
  | 9, _ => rfl
  | j + 10, hj => exact absurd hj (by omega)
theorem zdf_5 : ∀ j, j < 7 → defaultValue (tyX5 j) = (if zfr 5 j then Value.null else .int 0) := by
  intro j hj
  match j, hj with
  | 0, _ => rfl
  | 1, _ => rfl
  | 2, _ => rfl
  | 3, _ => rfl
  | 4, _ => rfl
  | 5, _ => rfl
  | 6, _ => rfl
  | j + 7, hj => exact absurd hj (by omega)
theorem zdf_6 : ∀ j, j < 9 → defaultValue (tyX6 j) = (if zfr 6 j then Value.null else .int 0) := by
  intro j hj
  match j, hj with
  | 0, _ => rfl
  | 1, _ => rfl
  | 2, _ => rfl
  | 3, _ => rfl
  | 4, _ => rfl
  | 5, _ => rfl
  | 6, _ => rfl
  | 7, _ => rfl
  | 8, _ => rfl
  | j + 9, hj => exact absurd hj (by omega)
abbrev M_X0_init : zM := (yX0_init, cX0_init, 1, none)
theorem qm_X0 : zMI M_X0_init 0 := ⟨⟨zv_29, zv_212, by decide +kernel, by decide⟩, zv_211, rfl, rfl⟩
abbrev M_X1_init : zM := (yX1_init, cX1_init, 1, none)
theorem qm_X1 : zMI M_X1_init 0 := ⟨⟨zw_25, zv_55, by decide +kernel, by decide⟩, zv_54, rfl, rfl⟩
abbrev M_X2_init : zM := (yX2_init, cX2_init, 1, none)
theorem qm_X2 : zMI M_X2_init 0 := ⟨⟨zv_28, zv_196, by decide +kernel, by decide⟩, zv_195, rfl, rfl⟩
abbrev M_X3_init : zM := (yX3_init, cX3_init, 1, none)
theorem qm_X3 : zMI M_X3_init 0 := ⟨⟨zw_27, zv_170, by decide +kernel, by decide⟩, zv_169, rfl, rfl⟩
abbrev M_X4_init : zM := (yX4_init, cX4_init, 2, none)
theorem qm_X4 : zMI M_X4_init 0 := ⟨⟨zw_24, zv_48, by decide +kernel, by decide⟩, zv_47, rfl, rfl⟩
abbrev M_X5_init : zM := (yX5_init, cX5_init, 2, none)
theorem qm_X5 : zMI M_X5_init 1 := ⟨⟨zw_26, zv_139, by decide +kernel, by decide⟩, zv_138, rfl, rfl⟩
abbrev M_X6_init : zM := (yX6_init, cX6_init, 2, none)
theorem qm_X6 : zMI M_X6_init 0 := ⟨⟨zw_23, zv_40, by decide +kernel, by decide⟩, zv_39, rfl, rfl⟩
set_option maxRecDepth 100000 in
theorem q_5 {l : Launch} {g : zG} : CallC l g 1 1 16 M_X1_init [vR 5] 5 (rT 2) (iT 0) 6 (rT 3) (iT 5) := by
  refine ac_entry (by decide) (Nat.le_of_ble_eq_true rfl) rfl rfl (fun k hk hn0 (X : zXc k g cX1_init RX1 1 none 1 1 16) E => ?_)
  show AG k g (WC g 5 (rT 2) (iT 0)) 0 0 1 0 [(0, vR 5)] []
  subst hk
  refine ag_aload_n X.1 0 dX1_init_0 rfl ?_
  refine ac_objinit X (by decide) zv_56 zv_42 zv_43 (by decide) (Nat.le_of_ble_eq_true rfl) dX1_init_1 ?_
  refine ag_aload_n X.1 0 dX1_init_4 rfl ?_
  refine ag_iconst (v := 0) X.1 dX1_init_5 (by decide) ?_
  refine ac_putI X zf_RX1_9 rfl rfl rfl rfl rfl (Nat.le_of_ble_eq_true rfl) (Nat.le_of_ble_eq_true rfl) dX1_init_6 (I' := iT 1) (wrF_succ (t := 0) rfl) ?_
  refine ag_aload_n X.1 0 dX1_init_9 rfl ?_
  refine ag_iconst (v := 0) X.1 dX1_init_10 (by decide) ?_
  refine ac_putI X zf_RX1_15 rfl rfl rfl rfl rfl (Nat.le_of_ble_eq_true rfl) (Nat.le_of_ble_eq_true rfl) dX1_init_11 (I' := iT 2) (wrF_succ (t := 1) rfl) ?_
  refine ag_aload_n X.1 0 dX1_init_14 rfl ?_
  refine ag_iconst (v := 0) X.1 dX1_init_15 (by decide) ?_
  refine ac_putI X zf_RX1_18 rfl rfl rfl rfl rfl (Nat.le_of_ble_eq_true rfl) (Nat.le_of_ble_eq_true rfl) dX1_init_16 (I' := iT 3) (wrF_succ (t := 2) rfl) ?_
  refine ag_aload_n X.1 0 dX1_init_19 rfl ?_
  refine ag_iconst (v := (-1)) X.1 dX1_init_20 (by decide) ?_
  refine ac_putI X zf_RX1_21 rfl rfl rfl rfl rfl (Nat.le_of_ble_eq_true rfl) (Nat.le_of_ble_eq_true rfl) dX1_init_21 (I' := iT 4) (wrF_succ (t := 3) rfl) ?_
  refine ag_aload_n X.1 0 dX1_init_24 rfl ?_
  refine ag_iconst (v := 0) X.1 dX1_init_25 (by decide) ?_
  refine ac_putI X zf_RX1_24 rfl rfl rfl rfl rfl (Nat.le_of_ble_eq_true rfl) (Nat.le_of_ble_eq_true rfl) dX1_init_26 (I' := iT 5) (wrF_succ (t := 4) rfl) ?_
  refine ag_aload_n X.1 0 dX1_init_29 rfl ?_
  refine ag_bipush (v := 16) X.1 dX1_init_30 (by decide) ?_
  refine ac_newi (N := 16) (n1 := 6) (cs1 := 1) (sl1 := 16) X zv_85 rfl (Nat.le_of_ble_eq_true rfl) (wrF_fresh (by decide +kernel)) (by decide) (by decide) (Nat.le_of_ble_eq_true rfl) (Nat.le_of_ble_eq_true rfl) (Nat.le_of_ble_eq_true rfl) dX1_init_32 rfl rfl rfl ?_
  refine ac_putF X zf_RX1_27 rfl rfl rfl (by decide) (fun _ => rfl) (fun _ => rfl) rfl (Nat.le_of_ble_eq_true rfl) (Nat.le_of_ble_eq_true rfl) dX1_init_34 (rf' := rT 3) (wrF_succ (t := 2) rfl) ?_
  exact ac_ret X E (Nat.le_of_ble_eq_true rfl) dX1_init_37
set_option maxRecDepth 100000 in
theorem q_7 {l : Launch} {g : zG} : CallC l g 1 1 16 M_X1_init [vR 7] 7 (rT 4) (iT 5) 8 (rT 5) (iT 10) := by
  refine ac_entry (by decide) (Nat.le_of_ble_eq_true rfl) rfl rfl (fun k hk hn0 (X : zXc k g cX1_init RX1 1 none 1 1 16) E => ?_)
  show AG k g (WC g 7 (rT 4) (iT 5)) 0 0 1 0 [(0, vR 7)] []
  subst hk
  refine ag_aload_n X.1 0 dX1_init_0 rfl ?_
  refine ac_objinit X (by decide) zv_56 zv_42 zv_43 (by decide) (Nat.le_of_ble_eq_true rfl) dX1_init_1 ?_
  refine ag_aload_n X.1 0 dX1_init_4 rfl ?_
  refine ag_iconst (v := 0) X.1 dX1_init_5 (by decide) ?_
  refine ac_putI X zf_RX1_9 rfl rfl rfl rfl rfl (Nat.le_of_ble_eq_true rfl) (Nat.le_of_ble_eq_true rfl) dX1_init_6 (I' := iT 6) (wrF_succ (t := 5) rfl) ?_
  refine ag_aload_n X.1 0 dX1_init_9 rfl ?_
  refine ag_iconst (v := 0) X.1 dX1_init_10 (by decide) ?_
  refine ac_putI X zf_RX1_15 rfl rfl rfl rfl rfl (Nat.le_of_ble_eq_true rfl) (Nat.le_of_ble_eq_true rfl) dX1_init_11 (I' := iT 7) (wrF_succ (t := 6) rfl) ?_
  refine ag_aload_n X.1 0 dX1_init_14 rfl ?_
  refine ag_iconst (v := 0) X.1 dX1_init_15 (by decide) ?_
  refine ac_putI X zf_RX1_18 rfl rfl rfl rfl rfl (Nat.le_of_ble_eq_true rfl) (Nat.le_of_ble_eq_true rfl) dX1_init_16 (I' := iT 8) (wrF_succ (t := 7) rfl) ?_
  refine ag_aload_n X.1 0 dX1_init_19 rfl ?_
  refine ag_iconst (v := (-1)) X.1 dX1_init_20 (by decide) ?_
  refine ac_putI X zf_RX1_21 rfl rfl rfl rfl rfl (Nat.le_of_ble_eq_true rfl) (Nat.le_of_ble_eq_true rfl) dX1_init_21 (I' := iT 9) (wrF_succ (t := 8) rfl) ?_
  refine ag_aload_n X.1 0 dX1_init_24 rfl ?_
  refine ag_iconst (v := 0) X.1 dX1_init_25 (by decide) ?_
  refine ac_putI X zf_RX1_24 rfl rfl rfl rfl rfl (Nat.le_of_ble_eq_true rfl) (Nat.le_of_ble_eq_true rfl) dX1_init_26 (I' := iT 10) (wrF_succ (t := 9) rfl) ?_
  refine ag_aload_n X.1 0 dX1_init_29 rfl ?_
  refine ag_bipush (v := 16) X.1 dX1_init_30 (by decide) ?_
  refine ac_newi (N := 16) (n1 := 8) (cs1 := 1) (sl1 := 16) X zv_85 rfl (Nat.le_of_ble_eq_true rfl) (wrF_fresh (by decide +kernel)) (by decide) (by decide) (Nat.le_of_ble_eq_true rfl) (Nat.le_of_ble_eq_true rfl) (Nat.le_of_ble_eq_true rfl) dX1_init_32 rfl rfl rfl ?_
  refine ac_putF X zf_RX1_27 rfl rfl rfl (by decide) (fun _ => rfl) (fun _ => rfl) rfl (Nat.le_of_ble_eq_true rfl) (Nat.le_of_ble_eq_true rfl) dX1_init_34 (rf' := rT 5) (wrF_succ (t := 4) rfl) ?_
  exact ac_ret X E (Nat.le_of_ble_eq_true rfl) dX1_init_37
set_option maxRecDepth 100000 in
theorem q_9 {l : Launch} {g : zG} : CallC l g 1 1 16 M_X1_init [vR 9] 9 (rT 6) (iT 10) 10 (rT 7) (iT 15) := by
  refine ac_entry (by decide) (Nat.le_of_ble_eq_true rfl) rfl rfl (fun k hk hn0 (X : zXc k g cX1_init RX1 1 none 1 1 16) E => ?_)
  show AG k g (WC g 9 (rT 6) (iT 10)) 0 0 1 0 [(0, vR 9)] []
  subst hk
  refine ag_aload_n X.1 0 dX1_init_0 rfl ?_
  refine ac_objinit X (by decide) zv_56 zv_42 zv_43 (by decide) (Nat.le_of_ble_eq_true rfl) dX1_init_1 ?_
  refine ag_aload_n X.1 0 dX1_init_4 rfl ?_
  refine ag_iconst (v := 0) X.1 dX1_init_5 (by decide) ?_
  refine ac_putI X zf_RX1_9 rfl rfl rfl rfl rfl (Nat.le_of_ble_eq_true rfl) (Nat.le_of_ble_eq_true rfl) dX1_init_6 (I' := iT 11) (wrF_succ (t := 10) rfl) ?_
  refine ag_aload_n X.1 0 dX1_init_9 rfl ?_
  refine ag_iconst (v := 0) X.1 dX1_init_10 (by decide) ?_
  refine ac_putI X zf_RX1_15 rfl rfl rfl rfl rfl (Nat.le_of_ble_eq_true rfl) (Nat.le_of_ble_eq_true rfl) dX1_init_11 (I' := iT 12) (wrF_succ (t := 11) rfl) ?_
  refine ag_aload_n X.1 0 dX1_init_14 rfl ?_
  refine ag_iconst (v := 0) X.1 dX1_init_15 (by decide) ?_
  refine ac_putI X zf_RX1_18 rfl rfl rfl rfl rfl (Nat.le_of_ble_eq_true rfl) (Nat.le_of_ble_eq_true rfl) dX1_init_16 (I' := iT 13) (wrF_succ (t := 12) rfl) ?_
  refine ag_aload_n X.1 0 dX1_init_19 rfl ?_
  refine ag_iconst (v := (-1)) X.1 dX1_init_20 (by decide) ?_
  refine ac_putI X zf_RX1_21 rfl rfl rfl rfl rfl (Nat.le_of_ble_eq_true rfl) (Nat.le_of_ble_eq_true rfl) dX1_init_21 (I' := iT 14) (wrF_succ (t := 13) rfl) ?_
  refine ag_aload_n X.1 0 dX1_init_24 rfl ?_
  refine ag_iconst (v := 0) X.1 dX1_init_25 (by decide) ?_
  refine ac_putI X zf_RX1_24 rfl rfl rfl rfl rfl (Nat.le_of_ble_eq_true rfl) (Nat.le_of_ble_eq_true rfl) dX1_init_26 (I' := iT 15) (wrF_succ (t := 14) rfl) ?_
  refine ag_aload_n X.1 0 dX1_init_29 rfl ?_
  refine ag_bipush (v := 16) X.1 dX1_init_30 (by decide) ?_
  refine ac_newi (N := 16) (n1 := 10) (cs1 := 1) (sl1 := 16) X zv_85 rfl (Nat.le_of_ble_eq_true rfl) (wrF_fresh (by decide +kernel)) (by decide) (by decide) (Nat.le_of_ble_eq_true rfl) (Nat.le_of_ble_eq_true rfl) (Nat.le_of_ble_eq_true rfl) dX1_init_32 rfl rfl rfl ?_
  refine ac_putF X zf_RX1_27 rfl rfl rfl (by decide) (fun _ => rfl) (fun _ => rfl) rfl (Nat.le_of_ble_eq_true rfl) (Nat.le_of_ble_eq_true rfl) dX1_init_34 (rf' := rT 7) (wrF_succ (t := 6) rfl) ?_
  exact ac_ret X E (Nat.le_of_ble_eq_true rfl) dX1_init_37
set_option maxRecDepth 100000 in
theorem q_11 {l : Launch} {g : zG} : CallC l g 1 1 16 M_X1_init [vR 11] 11 (rT 8) (iT 15) 12 (rT 9) (iT 20) := by
  refine ac_entry (by decide) (Nat.le_of_ble_eq_true rfl) rfl rfl (fun k hk hn0 (X : zXc k g cX1_init RX1 1 none 1 1 16) E => ?_)
  show AG k g (WC g 11 (rT 8) (iT 15)) 0 0 1 0 [(0, vR 11)] []
  subst hk
  refine ag_aload_n X.1 0 dX1_init_0 rfl ?_
  refine ac_objinit X (by decide) zv_56 zv_42 zv_43 (by decide) (Nat.le_of_ble_eq_true rfl) dX1_init_1 ?_
  refine ag_aload_n X.1 0 dX1_init_4 rfl ?_
  refine ag_iconst (v := 0) X.1 dX1_init_5 (by decide) ?_
  refine ac_putI X zf_RX1_9 rfl rfl rfl rfl rfl (Nat.le_of_ble_eq_true rfl) (Nat.le_of_ble_eq_true rfl) dX1_init_6 (I' := iT 16) (wrF_succ (t := 15) rfl) ?_
  refine ag_aload_n X.1 0 dX1_init_9 rfl ?_
  refine ag_iconst (v := 0) X.1 dX1_init_10 (by decide) ?_
  refine ac_putI X zf_RX1_15 rfl rfl rfl rfl rfl (Nat.le_of_ble_eq_true rfl) (Nat.le_of_ble_eq_true rfl) dX1_init_11 (I' := iT 17) (wrF_succ (t := 16) rfl) ?_
  refine ag_aload_n X.1 0 dX1_init_14 rfl ?_
  refine ag_iconst (v := 0) X.1 dX1_init_15 (by decide) ?_
  refine ac_putI X zf_RX1_18 rfl rfl rfl rfl rfl (Nat.le_of_ble_eq_true rfl) (Nat.le_of_ble_eq_true rfl) dX1_init_16 (I' := iT 18) (wrF_succ (t := 17) rfl) ?_
  refine ag_aload_n X.1 0 dX1_init_19 rfl ?_
  refine ag_iconst (v := (-1)) X.1 dX1_init_20 (by decide) ?_
  refine ac_putI X zf_RX1_21 rfl rfl rfl rfl rfl (Nat.le_of_ble_eq_true rfl) (Nat.le_of_ble_eq_true rfl) dX1_init_21 (I' := iT 19) (wrF_succ (t := 18) rfl) ?_
  refine ag_aload_n X.1 0 dX1_init_24 rfl ?_
  refine ag_iconst (v := 0) X.1 dX1_init_25 (by decide) ?_
  refine ac_putI X zf_RX1_24 rfl rfl rfl rfl rfl (Nat.le_of_ble_eq_true rfl) (Nat.le_of_ble_eq_true rfl) dX1_init_26 (I' := iT 20) (wrF_succ (t := 19) rfl) ?_
  refine ag_aload_n X.1 0 dX1_init_29 rfl ?_
  refine ag_bipush (v := 16) X.1 dX1_init_30 (by decide) ?_
  refine ac_newi (N := 16) (n1 := 12) (cs1 := 1) (sl1 := 16) X zv_85 rfl (Nat.le_of_ble_eq_true rfl) (wrF_fresh (by decide +kernel)) (by decide) (by decide) (Nat.le_of_ble_eq_true rfl) (Nat.le_of_ble_eq_true rfl) (Nat.le_of_ble_eq_true rfl) dX1_init_32 rfl rfl rfl ?_
  refine ac_putF X zf_RX1_27 rfl rfl rfl (by decide) (fun _ => rfl) (fun _ => rfl) rfl (Nat.le_of_ble_eq_true rfl) (Nat.le_of_ble_eq_true rfl) dX1_init_34 (rf' := rT 9) (wrF_succ (t := 8) rfl) ?_
  exact ac_ret X E (Nat.le_of_ble_eq_true rfl) dX1_init_37
set_option maxRecDepth 100000 in
theorem q_13 {l : Launch} {g : zG} : CallC l g 1 1 16 M_X1_init [vR 13] 13 (rT 10) (iT 20) 14 (rT 11) (iT 25) := by
  refine ac_entry (by decide) (Nat.le_of_ble_eq_true rfl) rfl rfl (fun k hk hn0 (X : zXc k g cX1_init RX1 1 none 1 1 16) E => ?_)
  show AG k g (WC g 13 (rT 10) (iT 20)) 0 0 1 0 [(0, vR 13)] []
  subst hk
  refine ag_aload_n X.1 0 dX1_init_0 rfl ?_
  refine ac_objinit X (by decide) zv_56 zv_42 zv_43 (by decide) (Nat.le_of_ble_eq_true rfl) dX1_init_1 ?_
  refine ag_aload_n X.1 0 dX1_init_4 rfl ?_
  refine ag_iconst (v := 0) X.1 dX1_init_5 (by decide) ?_
  refine ac_putI X zf_RX1_9 rfl rfl rfl rfl rfl (Nat.le_of_ble_eq_true rfl) (Nat.le_of_ble_eq_true rfl) dX1_init_6 (I' := iT 21) (wrF_succ (t := 20) rfl) ?_
  refine ag_aload_n X.1 0 dX1_init_9 rfl ?_
  refine ag_iconst (v := 0) X.1 dX1_init_10 (by decide) ?_
  refine ac_putI X zf_RX1_15 rfl rfl rfl rfl rfl (Nat.le_of_ble_eq_true rfl) (Nat.le_of_ble_eq_true rfl) dX1_init_11 (I' := iT 22) (wrF_succ (t := 21) rfl) ?_
  refine ag_aload_n X.1 0 dX1_init_14 rfl ?_
  refine ag_iconst (v := 0) X.1 dX1_init_15 (by decide) ?_
  refine ac_putI X zf_RX1_18 rfl rfl rfl rfl rfl (Nat.le_of_ble_eq_true rfl) (Nat.le_of_ble_eq_true rfl) dX1_init_16 (I' := iT 23) (wrF_succ (t := 22) rfl) ?_
  refine ag_aload_n X.1 0 dX1_init_19 rfl ?_
  refine ag_iconst (v := (-1)) X.1 dX1_init_20 (by decide) ?_
  refine ac_putI X zf_RX1_21 rfl rfl rfl rfl rfl (Nat.le_of_ble_eq_true rfl) (Nat.le_of_ble_eq_true rfl) dX1_init_21 (I' := iT 24) (wrF_succ (t := 23) rfl) ?_
  refine ag_aload_n X.1 0 dX1_init_24 rfl ?_
  refine ag_iconst (v := 0) X.1 dX1_init_25 (by decide) ?_
  refine ac_putI X zf_RX1_24 rfl rfl rfl rfl rfl (Nat.le_of_ble_eq_true rfl) (Nat.le_of_ble_eq_true rfl) dX1_init_26 (I' := iT 25) (wrF_succ (t := 24) rfl) ?_
  refine ag_aload_n X.1 0 dX1_init_29 rfl ?_
  refine ag_bipush (v := 16) X.1 dX1_init_30 (by decide) ?_
  refine ac_newi (N := 16) (n1 := 14) (cs1 := 1) (sl1 := 16) X zv_85 rfl (Nat.le_of_ble_eq_true rfl) (wrF_fresh (by decide +kernel)) (by decide) (by decide) (Nat.le_of_ble_eq_true rfl) (Nat.le_of_ble_eq_true rfl) (Nat.le_of_ble_eq_true rfl) dX1_init_32 rfl rfl rfl ?_
  refine ac_putF X zf_RX1_27 rfl rfl rfl (by decide) (fun _ => rfl) (fun _ => rfl) rfl (Nat.le_of_ble_eq_true rfl) (Nat.le_of_ble_eq_true rfl) dX1_init_34 (rf' := rT 11) (wrF_succ (t := 10) rfl) ?_
  exact ac_ret X E (Nat.le_of_ble_eq_true rfl) dX1_init_37
set_option maxRecDepth 100000 in
theorem q_15 {l : Launch} {g : zG} : CallC l g 1 1 16 M_X1_init [vR 15] 15 (rT 12) (iT 25) 16 (rT 13) (iT 30) := by
  refine ac_entry (by decide) (Nat.le_of_ble_eq_true rfl) rfl rfl (fun k hk hn0 (X : zXc k g cX1_init RX1 1 none 1 1 16) E => ?_)
  show AG k g (WC g 15 (rT 12) (iT 25)) 0 0 1 0 [(0, vR 15)] []
  subst hk
  refine ag_aload_n X.1 0 dX1_init_0 rfl ?_
  refine ac_objinit X (by decide) zv_56 zv_42 zv_43 (by decide) (Nat.le_of_ble_eq_true rfl) dX1_init_1 ?_
  refine ag_aload_n X.1 0 dX1_init_4 rfl ?_
  refine ag_iconst (v := 0) X.1 dX1_init_5 (by decide) ?_
  refine ac_putI X zf_RX1_9 rfl rfl rfl rfl rfl (Nat.le_of_ble_eq_true rfl) (Nat.le_of_ble_eq_true rfl) dX1_init_6 (I' := iT 26) (wrF_succ (t := 25) rfl) ?_
  refine ag_aload_n X.1 0 dX1_init_9 rfl ?_
  refine ag_iconst (v := 0) X.1 dX1_init_10 (by decide) ?_
  refine ac_putI X zf_RX1_15 rfl rfl rfl rfl rfl (Nat.le_of_ble_eq_true rfl) (Nat.le_of_ble_eq_true rfl) dX1_init_11 (I' := iT 27) (wrF_succ (t := 26) rfl) ?_
  refine ag_aload_n X.1 0 dX1_init_14 rfl ?_
  refine ag_iconst (v := 0) X.1 dX1_init_15 (by decide) ?_
  refine ac_putI X zf_RX1_18 rfl rfl rfl rfl rfl (Nat.le_of_ble_eq_true rfl) (Nat.le_of_ble_eq_true rfl) dX1_init_16 (I' := iT 28) (wrF_succ (t := 27) rfl) ?_
  refine ag_aload_n X.1 0 dX1_init_19 rfl ?_
  refine ag_iconst (v := (-1)) X.1 dX1_init_20 (by decide) ?_
  refine ac_putI X zf_RX1_21 rfl rfl rfl rfl rfl (Nat.le_of_ble_eq_true rfl) (Nat.le_of_ble_eq_true rfl) dX1_init_21 (I' := iT 29) (wrF_succ (t := 28) rfl) ?_
  refine ag_aload_n X.1 0 dX1_init_24 rfl ?_
  refine ag_iconst (v := 0) X.1 dX1_init_25 (by decide) ?_
  refine ac_putI X zf_RX1_24 rfl rfl rfl rfl rfl (Nat.le_of_ble_eq_true rfl) (Nat.le_of_ble_eq_true rfl) dX1_init_26 (I' := iT 30) (wrF_succ (t := 29) rfl) ?_
  refine ag_aload_n X.1 0 dX1_init_29 rfl ?_
  refine ag_bipush (v := 16) X.1 dX1_init_30 (by decide) ?_
  refine ac_newi (N := 16) (n1 := 16) (cs1 := 1) (sl1 := 16) X zv_85 rfl (Nat.le_of_ble_eq_true rfl) (wrF_fresh (by decide +kernel)) (by decide) (by decide) (Nat.le_of_ble_eq_true rfl) (Nat.le_of_ble_eq_true rfl) (Nat.le_of_ble_eq_true rfl) dX1_init_32 rfl rfl rfl ?_
  refine ac_putF X zf_RX1_27 rfl rfl rfl (by decide) (fun _ => rfl) (fun _ => rfl) rfl (Nat.le_of_ble_eq_true rfl) (Nat.le_of_ble_eq_true rfl) dX1_init_34 (rf' := rT 13) (wrF_succ (t := 12) rfl) ?_
  exact ac_ret X E (Nat.le_of_ble_eq_true rfl) dX1_init_37
set_option maxRecDepth 100000 in
theorem q_17 {l : Launch} {g : zG} : CallC l g 1 1 16 M_X1_init [vR 17] 17 (rT 14) (iT 30) 18 (rT 15) (iT 35) := by
  refine ac_entry (by decide) (Nat.le_of_ble_eq_true rfl) rfl rfl (fun k hk hn0 (X : zXc k g cX1_init RX1 1 none 1 1 16) E => ?_)
  show AG k g (WC g 17 (rT 14) (iT 30)) 0 0 1 0 [(0, vR 17)] []
  subst hk
  refine ag_aload_n X.1 0 dX1_init_0 rfl ?_
  refine ac_objinit X (by decide) zv_56 zv_42 zv_43 (by decide) (Nat.le_of_ble_eq_true rfl) dX1_init_1 ?_
  refine ag_aload_n X.1 0 dX1_init_4 rfl ?_
  refine ag_iconst (v := 0) X.1 dX1_init_5 (by decide) ?_
  refine ac_putI X zf_RX1_9 rfl rfl rfl rfl rfl (Nat.le_of_ble_eq_true rfl) (Nat.le_of_ble_eq_true rfl) dX1_init_6 (I' := iT 31) (wrF_succ (t := 30) rfl) ?_
  refine ag_aload_n X.1 0 dX1_init_9 rfl ?_
  refine ag_iconst (v := 0) X.1 dX1_init_10 (by decide) ?_
  refine ac_putI X zf_RX1_15 rfl rfl rfl rfl rfl (Nat.le_of_ble_eq_true rfl) (Nat.le_of_ble_eq_true rfl) dX1_init_11 (I' := iT 32) (wrF_succ (t := 31) rfl) ?_
  refine ag_aload_n X.1 0 dX1_init_14 rfl ?_
  refine ag_iconst (v := 0) X.1 dX1_init_15 (by decide) ?_
  refine ac_putI X zf_RX1_18 rfl rfl rfl rfl rfl (Nat.le_of_ble_eq_true rfl) (Nat.le_of_ble_eq_true rfl) dX1_init_16 (I' := iT 33) (wrF_succ (t := 32) rfl) ?_
  refine ag_aload_n X.1 0 dX1_init_19 rfl ?_
  refine ag_iconst (v := (-1)) X.1 dX1_init_20 (by decide) ?_
  refine ac_putI X zf_RX1_21 rfl rfl rfl rfl rfl (Nat.le_of_ble_eq_true rfl) (Nat.le_of_ble_eq_true rfl) dX1_init_21 (I' := iT 34) (wrF_succ (t := 33) rfl) ?_
  refine ag_aload_n X.1 0 dX1_init_24 rfl ?_
  refine ag_iconst (v := 0) X.1 dX1_init_25 (by decide) ?_
  refine ac_putI X zf_RX1_24 rfl rfl rfl rfl rfl (Nat.le_of_ble_eq_true rfl) (Nat.le_of_ble_eq_true rfl) dX1_init_26 (I' := iT 35) (wrF_succ (t := 34) rfl) ?_
  refine ag_aload_n X.1 0 dX1_init_29 rfl ?_
  refine ag_bipush (v := 16) X.1 dX1_init_30 (by decide) ?_
  refine ac_newi (N := 16) (n1 := 18) (cs1 := 1) (sl1 := 16) X zv_85 rfl (Nat.le_of_ble_eq_true rfl) (wrF_fresh (by decide +kernel)) (by decide) (by decide) (Nat.le_of_ble_eq_true rfl) (Nat.le_of_ble_eq_true rfl) (Nat.le_of_ble_eq_true rfl) dX1_init_32 rfl rfl rfl ?_
  refine ac_putF X zf_RX1_27 rfl rfl rfl (by decide) (fun _ => rfl) (fun _ => rfl) rfl (Nat.le_of_ble_eq_true rfl) (Nat.le_of_ble_eq_true rfl) dX1_init_34 (rf' := rT 15) (wrF_succ (t := 14) rfl) ?_
  exact ac_ret X E (Nat.le_of_ble_eq_true rfl) dX1_init_37
set_option maxRecDepth 100000 in
theorem q_19 {l : Launch} {g : zG} : CallC l g 1 1 16 M_X1_init [vR 19] 19 (rT 16) (iT 35) 20 (rT 17) (iT 40) := by
  refine ac_entry (by decide) (Nat.le_of_ble_eq_true rfl) rfl rfl (fun k hk hn0 (X : zXc k g cX1_init RX1 1 none 1 1 16) E => ?_)
  show AG k g (WC g 19 (rT 16) (iT 35)) 0 0 1 0 [(0, vR 19)] []
  subst hk
  refine ag_aload_n X.1 0 dX1_init_0 rfl ?_
  refine ac_objinit X (by decide) zv_56 zv_42 zv_43 (by decide) (Nat.le_of_ble_eq_true rfl) dX1_init_1 ?_
  refine ag_aload_n X.1 0 dX1_init_4 rfl ?_
  refine ag_iconst (v := 0) X.1 dX1_init_5 (by decide) ?_
  refine ac_putI X zf_RX1_9 rfl rfl rfl rfl rfl (Nat.le_of_ble_eq_true rfl) (Nat.le_of_ble_eq_true rfl) dX1_init_6 (I' := iT 36) (wrF_succ (t := 35) rfl) ?_
  refine ag_aload_n X.1 0 dX1_init_9 rfl ?_
  refine ag_iconst (v := 0) X.1 dX1_init_10 (by decide) ?_
  refine ac_putI X zf_RX1_15 rfl rfl rfl rfl rfl (Nat.le_of_ble_eq_true rfl) (Nat.le_of_ble_eq_true rfl) dX1_init_11 (I' := iT 37) (wrF_succ (t := 36) rfl) ?_
  refine ag_aload_n X.1 0 dX1_init_14 rfl ?_
  refine ag_iconst (v := 0) X.1 dX1_init_15 (by decide) ?_
  refine ac_putI X zf_RX1_18 rfl rfl rfl rfl rfl (Nat.le_of_ble_eq_true rfl) (Nat.le_of_ble_eq_true rfl) dX1_init_16 (I' := iT 38) (wrF_succ (t := 37) rfl) ?_
  refine ag_aload_n X.1 0 dX1_init_19 rfl ?_
  refine ag_iconst (v := (-1)) X.1 dX1_init_20 (by decide) ?_
  refine ac_putI X zf_RX1_21 rfl rfl rfl rfl rfl (Nat.le_of_ble_eq_true rfl) (Nat.le_of_ble_eq_true rfl) dX1_init_21 (I' := iT 39) (wrF_succ (t := 38) rfl) ?_
  refine ag_aload_n X.1 0 dX1_init_24 rfl ?_
  refine ag_iconst (v := 0) X.1 dX1_init_25 (by decide) ?_
  refine ac_putI X zf_RX1_24 rfl rfl rfl rfl rfl (Nat.le_of_ble_eq_true rfl) (Nat.le_of_ble_eq_true rfl) dX1_init_26 (I' := iT 40) (wrF_succ (t := 39) rfl) ?_
  refine ag_aload_n X.1 0 dX1_init_29 rfl ?_
  refine ag_bipush (v := 16) X.1 dX1_init_30 (by decide) ?_
  refine ac_newi (N := 16) (n1 := 20) (cs1 := 1) (sl1 := 16) X zv_85 rfl (Nat.le_of_ble_eq_true rfl) (wrF_fresh (by decide +kernel)) (by decide) (by decide) (Nat.le_of_ble_eq_true rfl) (Nat.le_of_ble_eq_true rfl) (Nat.le_of_ble_eq_true rfl) dX1_init_32 rfl rfl rfl ?_
  refine ac_putF X zf_RX1_27 rfl rfl rfl (by decide) (fun _ => rfl) (fun _ => rfl) rfl (Nat.le_of_ble_eq_true rfl) (Nat.le_of_ble_eq_true rfl) dX1_init_34 (rf' := rT 17) (wrF_succ (t := 16) rfl) ?_
  exact ac_ret X E (Nat.le_of_ble_eq_true rfl) dX1_init_37
set_option maxRecDepth 100000 in
theorem q_2 {l : Launch} {g : zG} : CallC l g 2 18 192 M_X4_init [vR 2] 2 (rT 0) (iT 0) 20 (rT 18) (iT 48) := by
  refine ac_entry (by decide) (Nat.le_of_ble_eq_true rfl) rfl rfl (fun k hk hn0 (X : zXc k g cX4_init RX4 2 none 2 18 192) E => ?_)
  show AG k g (WC g 2 (rT 0) (iT 0)) 0 0 2 0 [(0, vR 2)] []
  subst hk
  refine ag_aload_n X.1 0 dX4_init_0 rfl ?_
  refine ac_objinit X (by decide) zv_49 zv_42 zv_43 (by decide) (Nat.le_of_ble_eq_true rfl) dX4_init_1 ?_
  refine ag_aload_n X.1 0 dX4_init_4 rfl ?_
  refine ag_bipush (v := 8) X.1 dX4_init_5 (by decide) ?_
  refine ac_newi (N := 8) (n1 := 3) (cs1 := 1) (sl1 := 8) X zv_85 rfl (Nat.le_of_ble_eq_true rfl) (wrF_fresh (by decide +kernel)) (by decide) (by decide) (Nat.le_of_ble_eq_true rfl) (Nat.le_of_ble_eq_true rfl) (Nat.le_of_ble_eq_true rfl) dX4_init_7 rfl rfl rfl ?_
  refine ac_putF X zf_RX4_9 rfl rfl rfl (by decide) (fun _ => rfl) (fun _ => rfl) rfl (Nat.le_of_ble_eq_true rfl) (Nat.le_of_ble_eq_true rfl) dX4_init_9 (rf' := rT 1) (wrF_succ (t := 0) rfl) ?_
  refine ag_aload_n X.1 0 dX4_init_12 rfl ?_
  refine ag_bipush (v := 8) X.1 dX4_init_13 (by decide) ?_
  refine ac_newq (N := 8) (n1 := 4) (cs1 := 2) (sl1 := 16) X (Or.inl rfl) rfl zv_50 (fun h => h.1) rfl (Nat.le_of_ble_eq_true rfl) (wrF_fresh (by decide +kernel)) (by decide) (by decide) (Nat.le_of_ble_eq_true rfl) (Nat.le_of_ble_eq_true rfl) (Nat.le_of_ble_eq_true rfl) dX4_init_15 rfl rfl rfl ?_
  refine ac_putF X zf_RX4_17 rfl rfl rfl (by decide) (fun _ => rfl) (fun _ => rfl) rfl (Nat.le_of_ble_eq_true rfl) (Nat.le_of_ble_eq_true rfl) dX4_init_18 (rf' := rT 2) (wrF_succ (t := 1) rfl) ?_
  refine ag_iconst (v := 0) X.1 dX4_init_21 (by decide) ?_
  refine ag_istore_n X.1 dX4_init_22 (by decide) rfl ?_
  refine ag_iload_n X.1 0 dX4_init_23 rfl ?_
  refine ag_aload_n X.1 1 dX4_init_24 rfl ?_
  refine ac_getR (r := 4) X zf_RX4_17 rfl rfl (Nat.le_of_ble_eq_true rfl) (by decide +kernel) dX4_init_25 ?_
  refine ac_alenq (N := 8) (v := 8) X (Or.inl rfl) rfl (Nat.le_of_ble_eq_true rfl) (Nat.le_of_ble_eq_true rfl) (by decide) dX4_init_28 ?_
  refine ag_icmp_ge X.1 51 dX4_init_29 rfl (fun h => absurd h (by decide)) (fun _ => ?_)
  refine ag_aload_n X.1 1 dX4_init_32 rfl ?_
  refine ac_getR (r := 4) X zf_RX4_17 rfl rfl (Nat.le_of_ble_eq_true rfl) (by decide +kernel) dX4_init_33 ?_
  refine ag_iload_n X.1 0 dX4_init_36 rfl ?_
  refine ac_new (n1 := 5) (cs1 := 3) (sl1 := 22) X zcl_1 zv_50 zv_52 zw_25 rfl (Nat.le_of_ble_eq_true rfl) zdf_1 (wrF_fresh (by decide +kernel)) (wrF_fresh (by decide +kernel)) (Nat.le_of_ble_eq_true rfl) (Nat.le_of_ble_eq_true rfl) dX4_init_37 rfl rfl rfl ?_
  refine ag_dup X.1 dX4_init_40 rfl ?_
  refine ac_call (recv := 5) (as := []) (st := [vR 5, vI 0, vR 4]) (cs1 := 4) (sl1 := 38) X qm_X1 zv_53 q_5 (by decide) (Nat.le_of_ble_eq_true rfl) rfl rfl (Nat.le_of_ble_eq_true rfl) (Nat.le_of_ble_eq_true rfl) (Nat.le_of_ble_eq_true rfl) (Nat.le_of_ble_eq_true rfl) rfl rfl dX4_init_41 ?_
  refine ac_aast (j := 0) X (Or.inl rfl) rfl zcl_1 rfl (Nat.le_of_ble_eq_true rfl) (Nat.le_of_ble_eq_true rfl) rfl (Nat.le_of_ble_eq_true rfl) (vin_c (by decide +kernel)) (by decide) dX4_init_44 (rf' := rT 4) (wrF_succ (t := 3) rfl) ?_
  refine ag_iinc (v := 1) X.1 0 dX4_init_45 rfl (by decide) (by decide) rfl ?_
  refine ag_goto X.1 23 dX4_init_48 rfl ?_
  refine ag_iload_n X.1 0 dX4_init_23 rfl ?_
  refine ag_aload_n X.1 1 dX4_init_24 rfl ?_
  refine ac_getR (r := 4) X zf_RX4_17 rfl rfl (Nat.le_of_ble_eq_true rfl) (by decide +kernel) dX4_init_25 ?_
  refine ac_alenq (N := 8) (v := 8) X (Or.inl rfl) rfl (Nat.le_of_ble_eq_true rfl) (Nat.le_of_ble_eq_true rfl) (by decide) dX4_init_28 ?_
  refine ag_icmp_ge X.1 51 dX4_init_29 rfl (fun h => absurd h (by decide)) (fun _ => ?_)
  refine ag_aload_n X.1 1 dX4_init_32 rfl ?_
  refine ac_getR (r := 4) X zf_RX4_17 rfl rfl (Nat.le_of_ble_eq_true rfl) (by decide +kernel) dX4_init_33 ?_
  refine ag_iload_n X.1 0 dX4_init_36 rfl ?_
  refine ac_new (n1 := 7) (cs1 := 5) (sl1 := 44) X zcl_1 zv_50 zv_52 zw_25 rfl (Nat.le_of_ble_eq_true rfl) zdf_1 (wrF_fresh (by decide +kernel)) (wrF_fresh (by decide +kernel)) (Nat.le_of_ble_eq_true rfl) (Nat.le_of_ble_eq_true rfl) dX4_init_37 rfl rfl rfl ?_
  refine ag_dup X.1 dX4_init_40 rfl ?_
  refine ac_call (recv := 7) (as := []) (st := [vR 7, vI 1, vR 4]) (cs1 := 6) (sl1 := 60) X qm_X1 zv_53 q_7 (by decide) (Nat.le_of_ble_eq_true rfl) rfl rfl (Nat.le_of_ble_eq_true rfl) (Nat.le_of_ble_eq_true rfl) (Nat.le_of_ble_eq_true rfl) (Nat.le_of_ble_eq_true rfl) rfl rfl dX4_init_41 ?_
  refine ac_aast (j := 1) X (Or.inl rfl) rfl zcl_1 rfl (Nat.le_of_ble_eq_true rfl) (Nat.le_of_ble_eq_true rfl) rfl (Nat.le_of_ble_eq_true rfl) (vin_c (by decide +kernel)) (by decide) dX4_init_44 (rf' := rT 6) (wrF_succ (t := 5) rfl) ?_
  refine ag_iinc (v := 2) X.1 0 dX4_init_45 rfl (by decide) (by decide) rfl ?_
  refine ag_goto X.1 23 dX4_init_48 rfl ?_
  refine ag_iload_n X.1 0 dX4_init_23 rfl ?_
  refine ag_aload_n X.1 1 dX4_init_24 rfl ?_
  refine ac_getR (r := 4) X zf_RX4_17 rfl rfl (Nat.le_of_ble_eq_true rfl) (by decide +kernel) dX4_init_25 ?_
  refine ac_alenq (N := 8) (v := 8) X (Or.inl rfl) rfl (Nat.le_of_ble_eq_true rfl) (Nat.le_of_ble_eq_true rfl) (by decide) dX4_init_28 ?_
  refine ag_icmp_ge X.1 51 dX4_init_29 rfl (fun h => absurd h (by decide)) (fun _ => ?_)
  refine ag_aload_n X.1 1 dX4_init_32 rfl ?_
  refine ac_getR (r := 4) X zf_RX4_17 rfl rfl (Nat.le_of_ble_eq_true rfl) (by decide +kernel) dX4_init_33 ?_
  refine ag_iload_n X.1 0 dX4_init_36 rfl ?_
  refine ac_new (n1 := 9) (cs1 := 7) (sl1 := 66) X zcl_1 zv_50 zv_52 zw_25 rfl (Nat.le_of_ble_eq_true rfl) zdf_1 (wrF_fresh (by decide +kernel)) (wrF_fresh (by decide +kernel)) (Nat.le_of_ble_eq_true rfl) (Nat.le_of_ble_eq_true rfl) dX4_init_37 rfl rfl rfl ?_
  refine ag_dup X.1 dX4_init_40 rfl ?_
  refine ac_call (recv := 9) (as := []) (st := [vR 9, vI 2, vR 4]) (cs1 := 8) (sl1 := 82) X qm_X1 zv_53 q_9 (by decide) (Nat.le_of_ble_eq_true rfl) rfl rfl (Nat.le_of_ble_eq_true rfl) (Nat.le_of_ble_eq_true rfl) (Nat.le_of_ble_eq_true rfl) (Nat.le_of_ble_eq_true rfl) rfl rfl dX4_init_41 ?_
  refine ac_aast (j := 2) X (Or.inl rfl) rfl zcl_1 rfl (Nat.le_of_ble_eq_true rfl) (Nat.le_of_ble_eq_true rfl) rfl (Nat.le_of_ble_eq_true rfl) (vin_c (by decide +kernel)) (by decide) dX4_init_44 (rf' := rT 8) (wrF_succ (t := 7) rfl) ?_
  refine ag_iinc (v := 3) X.1 0 dX4_init_45 rfl (by decide) (by decide) rfl ?_
  refine ag_goto X.1 23 dX4_init_48 rfl ?_
  refine ag_iload_n X.1 0 dX4_init_23 rfl ?_
  refine ag_aload_n X.1 1 dX4_init_24 rfl ?_
  refine ac_getR (r := 4) X zf_RX4_17 rfl rfl (Nat.le_of_ble_eq_true rfl) (by decide +kernel) dX4_init_25 ?_
  refine ac_alenq (N := 8) (v := 8) X (Or.inl rfl) rfl (Nat.le_of_ble_eq_true rfl) (Nat.le_of_ble_eq_true rfl) (by decide) dX4_init_28 ?_
  refine ag_icmp_ge X.1 51 dX4_init_29 rfl (fun h => absurd h (by decide)) (fun _ => ?_)
  refine ag_aload_n X.1 1 dX4_init_32 rfl ?_
  refine ac_getR (r := 4) X zf_RX4_17 rfl rfl (Nat.le_of_ble_eq_true rfl) (by decide +kernel) dX4_init_33 ?_
  refine ag_iload_n X.1 0 dX4_init_36 rfl ?_
  refine ac_new (n1 := 11) (cs1 := 9) (sl1 := 88) X zcl_1 zv_50 zv_52 zw_25 rfl (Nat.le_of_ble_eq_true rfl) zdf_1 (wrF_fresh (by decide +kernel)) (wrF_fresh (by decide +kernel)) (Nat.le_of_ble_eq_true rfl) (Nat.le_of_ble_eq_true rfl) dX4_init_37 rfl rfl rfl ?_
  refine ag_dup X.1 dX4_init_40 rfl ?_
  refine ac_call (recv := 11) (as := []) (st := [vR 11, vI 3, vR 4]) (cs1 := 10) (sl1 := 104) X qm_X1 zv_53 q_11 (by decide) (Nat.le_of_ble_eq_true rfl) rfl rfl (Nat.le_of_ble_eq_true rfl) (Nat.le_of_ble_eq_true rfl) (Nat.le_of_ble_eq_true rfl) (Nat.le_of_ble_eq_true rfl) rfl rfl dX4_init_41 ?_
  refine ac_aast (j := 3) X (Or.inl rfl) rfl zcl_1 rfl (Nat.le_of_ble_eq_true rfl) (Nat.le_of_ble_eq_true rfl) rfl (Nat.le_of_ble_eq_true rfl) (vin_c (by decide +kernel)) (by decide) dX4_init_44 (rf' := rT 10) (wrF_succ (t := 9) rfl) ?_
  refine ag_iinc (v := 4) X.1 0 dX4_init_45 rfl (by decide) (by decide) rfl ?_
  refine ag_goto X.1 23 dX4_init_48 rfl ?_
  refine ag_iload_n X.1 0 dX4_init_23 rfl ?_
  refine ag_aload_n X.1 1 dX4_init_24 rfl ?_
  refine ac_getR (r := 4) X zf_RX4_17 rfl rfl (Nat.le_of_ble_eq_true rfl) (by decide +kernel) dX4_init_25 ?_
  refine ac_alenq (N := 8) (v := 8) X (Or.inl rfl) rfl (Nat.le_of_ble_eq_true rfl) (Nat.le_of_ble_eq_true rfl) (by decide) dX4_init_28 ?_
  refine ag_icmp_ge X.1 51 dX4_init_29 rfl (fun h => absurd h (by decide)) (fun _ => ?_)
  refine ag_aload_n X.1 1 dX4_init_32 rfl ?_
  refine ac_getR (r := 4) X zf_RX4_17 rfl rfl (Nat.le_of_ble_eq_true rfl) (by decide +kernel) dX4_init_33 ?_
  refine ag_iload_n X.1 0 dX4_init_36 rfl ?_
  refine ac_new (n1 := 13) (cs1 := 11) (sl1 := 110) X zcl_1 zv_50 zv_52 zw_25 rfl (Nat.le_of_ble_eq_true rfl) zdf_1 (wrF_fresh (by decide +kernel)) (wrF_fresh (by decide +kernel)) (Nat.le_of_ble_eq_true rfl) (Nat.le_of_ble_eq_true rfl) dX4_init_37 rfl rfl rfl ?_
  refine ag_dup X.1 dX4_init_40 rfl ?_
  refine ac_call (recv := 13) (as := []) (st := [vR 13, vI 4, vR 4]) (cs1 := 12) (sl1 := 126) X qm_X1 zv_53 q_13 (by decide) (Nat.le_of_ble_eq_true rfl) rfl rfl (Nat.le_of_ble_eq_true rfl) (Nat.le_of_ble_eq_true rfl) (Nat.le_of_ble_eq_true rfl) (Nat.le_of_ble_eq_true rfl) rfl rfl dX4_init_41 ?_
  refine ac_aast (j := 4) X (Or.inl rfl) rfl zcl_1 rfl (Nat.le_of_ble_eq_true rfl) (Nat.le_of_ble_eq_true rfl) rfl (Nat.le_of_ble_eq_true rfl) (vin_c (by decide +kernel)) (by decide) dX4_init_44 (rf' := rT 12) (wrF_succ (t := 11) rfl) ?_
  refine ag_iinc (v := 5) X.1 0 dX4_init_45 rfl (by decide) (by decide) rfl ?_
  refine ag_goto X.1 23 dX4_init_48 rfl ?_
  refine ag_iload_n X.1 0 dX4_init_23 rfl ?_
  refine ag_aload_n X.1 1 dX4_init_24 rfl ?_
  refine ac_getR (r := 4) X zf_RX4_17 rfl rfl (Nat.le_of_ble_eq_true rfl) (by decide +kernel) dX4_init_25 ?_
  refine ac_alenq (N := 8) (v := 8) X (Or.inl rfl) rfl (Nat.le_of_ble_eq_true rfl) (Nat.le_of_ble_eq_true rfl) (by decide) dX4_init_28 ?_
  refine ag_icmp_ge X.1 51 dX4_init_29 rfl (fun h => absurd h (by decide)) (fun _ => ?_)
  refine ag_aload_n X.1 1 dX4_init_32 rfl ?_
  refine ac_getR (r := 4) X zf_RX4_17 rfl rfl (Nat.le_of_ble_eq_true rfl) (by decide +kernel) dX4_init_33 ?_
  refine ag_iload_n X.1 0 dX4_init_36 rfl ?_
  refine ac_new (n1 := 15) (cs1 := 13) (sl1 := 132) X zcl_1 zv_50 zv_52 zw_25 rfl (Nat.le_of_ble_eq_true rfl) zdf_1 (wrF_fresh (by decide +kernel)) (wrF_fresh (by decide +kernel)) (Nat.le_of_ble_eq_true rfl) (Nat.le_of_ble_eq_true rfl) dX4_init_37 rfl rfl rfl ?_
  refine ag_dup X.1 dX4_init_40 rfl ?_
  refine ac_call (recv := 15) (as := []) (st := [vR 15, vI 5, vR 4]) (cs1 := 14) (sl1 := 148) X qm_X1 zv_53 q_15 (by decide) (Nat.le_of_ble_eq_true rfl) rfl rfl (Nat.le_of_ble_eq_true rfl) (Nat.le_of_ble_eq_true rfl) (Nat.le_of_ble_eq_true rfl) (Nat.le_of_ble_eq_true rfl) rfl rfl dX4_init_41 ?_
  refine ac_aast (j := 5) X (Or.inl rfl) rfl zcl_1 rfl (Nat.le_of_ble_eq_true rfl) (Nat.le_of_ble_eq_true rfl) rfl (Nat.le_of_ble_eq_true rfl) (vin_c (by decide +kernel)) (by decide) dX4_init_44 (rf' := rT 14) (wrF_succ (t := 13) rfl) ?_
  refine ag_iinc (v := 6) X.1 0 dX4_init_45 rfl (by decide) (by decide) rfl ?_
  refine ag_goto X.1 23 dX4_init_48 rfl ?_
  refine ag_iload_n X.1 0 dX4_init_23 rfl ?_
  refine ag_aload_n X.1 1 dX4_init_24 rfl ?_
  refine ac_getR (r := 4) X zf_RX4_17 rfl rfl (Nat.le_of_ble_eq_true rfl) (by decide +kernel) dX4_init_25 ?_
  refine ac_alenq (N := 8) (v := 8) X (Or.inl rfl) rfl (Nat.le_of_ble_eq_true rfl) (Nat.le_of_ble_eq_true rfl) (by decide) dX4_init_28 ?_
  refine ag_icmp_ge X.1 51 dX4_init_29 rfl (fun h => absurd h (by decide)) (fun _ => ?_)
  refine ag_aload_n X.1 1 dX4_init_32 rfl ?_
  refine ac_getR (r := 4) X zf_RX4_17 rfl rfl (Nat.le_of_ble_eq_true rfl) (by decide +kernel) dX4_init_33 ?_
  refine ag_iload_n X.1 0 dX4_init_36 rfl ?_
  refine ac_new (n1 := 17) (cs1 := 15) (sl1 := 154) X zcl_1 zv_50 zv_52 zw_25 rfl (Nat.le_of_ble_eq_true rfl) zdf_1 (wrF_fresh (by decide +kernel)) (wrF_fresh (by decide +kernel)) (Nat.le_of_ble_eq_true rfl) (Nat.le_of_ble_eq_true rfl) dX4_init_37 rfl rfl rfl ?_
  refine ag_dup X.1 dX4_init_40 rfl ?_
  refine ac_call (recv := 17) (as := []) (st := [vR 17, vI 6, vR 4]) (cs1 := 16) (sl1 := 170) X qm_X1 zv_53 q_17 (by decide) (Nat.le_of_ble_eq_true rfl) rfl rfl (Nat.le_of_ble_eq_true rfl) (Nat.le_of_ble_eq_true rfl) (Nat.le_of_ble_eq_true rfl) (Nat.le_of_ble_eq_true rfl) rfl rfl dX4_init_41 ?_
  refine ac_aast (j := 6) X (Or.inl rfl) rfl zcl_1 rfl (Nat.le_of_ble_eq_true rfl) (Nat.le_of_ble_eq_true rfl) rfl (Nat.le_of_ble_eq_true rfl) (vin_c (by decide +kernel)) (by decide) dX4_init_44 (rf' := rT 16) (wrF_succ (t := 15) rfl) ?_
  refine ag_iinc (v := 7) X.1 0 dX4_init_45 rfl (by decide) (by decide) rfl ?_
  refine ag_goto X.1 23 dX4_init_48 rfl ?_
  refine ag_iload_n X.1 0 dX4_init_23 rfl ?_
  refine ag_aload_n X.1 1 dX4_init_24 rfl ?_
  refine ac_getR (r := 4) X zf_RX4_17 rfl rfl (Nat.le_of_ble_eq_true rfl) (by decide +kernel) dX4_init_25 ?_
  refine ac_alenq (N := 8) (v := 8) X (Or.inl rfl) rfl (Nat.le_of_ble_eq_true rfl) (Nat.le_of_ble_eq_true rfl) (by decide) dX4_init_28 ?_
  refine ag_icmp_ge X.1 51 dX4_init_29 rfl (fun h => absurd h (by decide)) (fun _ => ?_)
  refine ag_aload_n X.1 1 dX4_init_32 rfl ?_
  refine ac_getR (r := 4) X zf_RX4_17 rfl rfl (Nat.le_of_ble_eq_true rfl) (by decide +kernel) dX4_init_33 ?_
  refine ag_iload_n X.1 0 dX4_init_36 rfl ?_
  refine ac_new (n1 := 19) (cs1 := 17) (sl1 := 176) X zcl_1 zv_50 zv_52 zw_25 rfl (Nat.le_of_ble_eq_true rfl) zdf_1 (wrF_fresh (by decide +kernel)) (wrF_fresh (by decide +kernel)) (Nat.le_of_ble_eq_true rfl) (Nat.le_of_ble_eq_true rfl) dX4_init_37 rfl rfl rfl ?_
  refine ag_dup X.1 dX4_init_40 rfl ?_
  refine ac_call (recv := 19) (as := []) (st := [vR 19, vI 7, vR 4]) (cs1 := 18) (sl1 := 192) X qm_X1 zv_53 q_19 (by decide) (Nat.le_of_ble_eq_true rfl) rfl rfl (Nat.le_of_ble_eq_true rfl) (Nat.le_of_ble_eq_true rfl) (Nat.le_of_ble_eq_true rfl) (Nat.le_of_ble_eq_true rfl) rfl rfl dX4_init_41 ?_
  refine ac_aast (j := 7) X (Or.inl rfl) rfl zcl_1 rfl (Nat.le_of_ble_eq_true rfl) (Nat.le_of_ble_eq_true rfl) rfl (Nat.le_of_ble_eq_true rfl) (vin_c (by decide +kernel)) (by decide) dX4_init_44 (rf' := rT 18) (wrF_succ (t := 17) rfl) ?_
  refine ag_iinc (v := 8) X.1 0 dX4_init_45 rfl (by decide) (by decide) rfl ?_
  refine ag_goto X.1 23 dX4_init_48 rfl ?_
  refine ag_iload_n X.1 0 dX4_init_23 rfl ?_
  refine ag_aload_n X.1 1 dX4_init_24 rfl ?_
  refine ac_getR (r := 4) X zf_RX4_17 rfl rfl (Nat.le_of_ble_eq_true rfl) (by decide +kernel) dX4_init_25 ?_
  refine ac_alenq (N := 8) (v := 8) X (Or.inl rfl) rfl (Nat.le_of_ble_eq_true rfl) (Nat.le_of_ble_eq_true rfl) (by decide) dX4_init_28 ?_
  refine ag_icmp_ge X.1 51 dX4_init_29 rfl (fun _ => ?_) (fun h => absurd (by decide) h)
  refine ag_aload_n X.1 1 dX4_init_51 rfl ?_
  refine ag_iconst (v := 0) X.1 dX4_init_52 (by decide) ?_
  refine ac_putI X zf_RX4_22 rfl rfl rfl rfl rfl (Nat.le_of_ble_eq_true rfl) (Nat.le_of_ble_eq_true rfl) dX4_init_53 (I' := iT 41) (wrF_succ (t := 40) rfl) ?_
  refine ag_aload_n X.1 1 dX4_init_56 rfl ?_
  refine ag_iconst (v := 0) X.1 dX4_init_57 (by decide) ?_
  refine ac_putI X zf_RX4_26 rfl rfl rfl rfl rfl (Nat.le_of_ble_eq_true rfl) (Nat.le_of_ble_eq_true rfl) dX4_init_58 (I' := iT 42) (wrF_succ (t := 41) rfl) ?_
  refine ag_aload_n X.1 1 dX4_init_61 rfl ?_
  refine ag_bipush (v := 20) X.1 dX4_init_62 (by decide) ?_
  refine ac_putI X zf_RX4_29 rfl rfl rfl rfl rfl (Nat.le_of_ble_eq_true rfl) (Nat.le_of_ble_eq_true rfl) dX4_init_64 (I' := iT 43) (wrF_succ (t := 42) rfl) ?_
  refine ag_aload_n X.1 1 dX4_init_67 rfl ?_
  refine ag_iconst (v := 5) X.1 dX4_init_68 (by decide) ?_
  refine ac_putI X zf_RX4_32 rfl rfl rfl rfl rfl (Nat.le_of_ble_eq_true rfl) (Nat.le_of_ble_eq_true rfl) dX4_init_69 (I' := iT 44) (wrF_succ (t := 43) rfl) ?_
  refine ag_aload_n X.1 1 dX4_init_72 rfl ?_
  refine ag_iconst (v := 1) X.1 dX4_init_73 (by decide) ?_
  refine ac_putI X zf_RX4_35 rfl rfl rfl rfl rfl (Nat.le_of_ble_eq_true rfl) (Nat.le_of_ble_eq_true rfl) dX4_init_74 (I' := iT 45) (wrF_succ (t := 44) rfl) ?_
  refine ag_aload_n X.1 1 dX4_init_77 rfl ?_
  refine ag_bipush (v := 24) X.1 dX4_init_78 (by decide) ?_
  refine ac_putI X zf_RX4_38 rfl rfl rfl rfl rfl (Nat.le_of_ble_eq_true rfl) (Nat.le_of_ble_eq_true rfl) dX4_init_80 (I' := iT 46) (wrF_succ (t := 45) rfl) ?_
  refine ag_aload_n X.1 1 dX4_init_83 rfl ?_
  refine ag_iconst (v := 0) X.1 dX4_init_84 (by decide) ?_
  refine ac_putI X zf_RX4_41 rfl rfl rfl rfl rfl (Nat.le_of_ble_eq_true rfl) (Nat.le_of_ble_eq_true rfl) dX4_init_85 (I' := iT 47) (wrF_succ (t := 46) rfl) ?_
  refine ag_aload_n X.1 1 dX4_init_88 rfl ?_
  refine ag_iconst (v := 1) X.1 dX4_init_89 (by decide) ?_
  refine ac_putI X zf_RX4_44 rfl rfl rfl rfl rfl (Nat.le_of_ble_eq_true rfl) (Nat.le_of_ble_eq_true rfl) dX4_init_90 (I' := iT 48) (wrF_succ (t := 47) rfl) ?_
  exact ac_ret X E (Nat.le_of_ble_eq_true rfl) dX4_init_93
set_option maxRecDepth 100000 in
theorem q_24 {l : Launch} {g : zG} : CallC l g 1 1 16 M_X1_init [vR 24] 24 (rT 21) (iT 48) 25 (rT 22) (iT 53) := by
  refine ac_entry (by decide) (Nat.le_of_ble_eq_true rfl) rfl rfl (fun k hk hn0 (X : zXc k g cX1_init RX1 1 none 1 1 16) E => ?_)
  show AG k g (WC g 24 (rT 21) (iT 48)) 0 0 1 0 [(0, vR 24)] []
  subst hk
  refine ag_aload_n X.1 0 dX1_init_0 rfl ?_
  refine ac_objinit X (by decide) zv_56 zv_42 zv_43 (by decide) (Nat.le_of_ble_eq_true rfl) dX1_init_1 ?_
  refine ag_aload_n X.1 0 dX1_init_4 rfl ?_
  refine ag_iconst (v := 0) X.1 dX1_init_5 (by decide) ?_
  refine ac_putI X zf_RX1_9 rfl rfl rfl rfl rfl (Nat.le_of_ble_eq_true rfl) (Nat.le_of_ble_eq_true rfl) dX1_init_6 (I' := iT 49) (wrF_succ (t := 48) rfl) ?_
  refine ag_aload_n X.1 0 dX1_init_9 rfl ?_
  refine ag_iconst (v := 0) X.1 dX1_init_10 (by decide) ?_
  refine ac_putI X zf_RX1_15 rfl rfl rfl rfl rfl (Nat.le_of_ble_eq_true rfl) (Nat.le_of_ble_eq_true rfl) dX1_init_11 (I' := iT 50) (wrF_succ (t := 49) rfl) ?_
  refine ag_aload_n X.1 0 dX1_init_14 rfl ?_
  refine ag_iconst (v := 0) X.1 dX1_init_15 (by decide) ?_
  refine ac_putI X zf_RX1_18 rfl rfl rfl rfl rfl (Nat.le_of_ble_eq_true rfl) (Nat.le_of_ble_eq_true rfl) dX1_init_16 (I' := iT 51) (wrF_succ (t := 50) rfl) ?_
  refine ag_aload_n X.1 0 dX1_init_19 rfl ?_
  refine ag_iconst (v := (-1)) X.1 dX1_init_20 (by decide) ?_
  refine ac_putI X zf_RX1_21 rfl rfl rfl rfl rfl (Nat.le_of_ble_eq_true rfl) (Nat.le_of_ble_eq_true rfl) dX1_init_21 (I' := iT 52) (wrF_succ (t := 51) rfl) ?_
  refine ag_aload_n X.1 0 dX1_init_24 rfl ?_
  refine ag_iconst (v := 0) X.1 dX1_init_25 (by decide) ?_
  refine ac_putI X zf_RX1_24 rfl rfl rfl rfl rfl (Nat.le_of_ble_eq_true rfl) (Nat.le_of_ble_eq_true rfl) dX1_init_26 (I' := iT 53) (wrF_succ (t := 52) rfl) ?_
  refine ag_aload_n X.1 0 dX1_init_29 rfl ?_
  refine ag_bipush (v := 16) X.1 dX1_init_30 (by decide) ?_
  refine ac_newi (N := 16) (n1 := 25) (cs1 := 1) (sl1 := 16) X zv_85 rfl (Nat.le_of_ble_eq_true rfl) (wrF_fresh (by decide +kernel)) (by decide) (by decide) (Nat.le_of_ble_eq_true rfl) (Nat.le_of_ble_eq_true rfl) (Nat.le_of_ble_eq_true rfl) dX1_init_32 rfl rfl rfl ?_
  refine ac_putF X zf_RX1_27 rfl rfl rfl (by decide) (fun _ => rfl) (fun _ => rfl) rfl (Nat.le_of_ble_eq_true rfl) (Nat.le_of_ble_eq_true rfl) dX1_init_34 (rf' := rT 22) (wrF_succ (t := 21) rfl) ?_
  exact ac_ret X E (Nat.le_of_ble_eq_true rfl) dX1_init_37
set_option maxRecDepth 100000 in
theorem q_26 {l : Launch} {g : zG} : CallC l g 1 1 16 M_X1_init [vR 26] 26 (rT 23) (iT 53) 27 (rT 24) (iT 58) := by
  refine ac_entry (by decide) (Nat.le_of_ble_eq_true rfl) rfl rfl (fun k hk hn0 (X : zXc k g cX1_init RX1 1 none 1 1 16) E => ?_)
  show AG k g (WC g 26 (rT 23) (iT 53)) 0 0 1 0 [(0, vR 26)] []
  subst hk
  refine ag_aload_n X.1 0 dX1_init_0 rfl ?_
  refine ac_objinit X (by decide) zv_56 zv_42 zv_43 (by decide) (Nat.le_of_ble_eq_true rfl) dX1_init_1 ?_
  refine ag_aload_n X.1 0 dX1_init_4 rfl ?_
  refine ag_iconst (v := 0) X.1 dX1_init_5 (by decide) ?_
  refine ac_putI X zf_RX1_9 rfl rfl rfl rfl rfl (Nat.le_of_ble_eq_true rfl) (Nat.le_of_ble_eq_true rfl) dX1_init_6 (I' := iT 54) (wrF_succ (t := 53) rfl) ?_
  refine ag_aload_n X.1 0 dX1_init_9 rfl ?_
  refine ag_iconst (v := 0) X.1 dX1_init_10 (by decide) ?_
  refine ac_putI X zf_RX1_15 rfl rfl rfl rfl rfl (Nat.le_of_ble_eq_true rfl) (Nat.le_of_ble_eq_true rfl) dX1_init_11 (I' := iT 55) (wrF_succ (t := 54) rfl) ?_
  refine ag_aload_n X.1 0 dX1_init_14 rfl ?_
  refine ag_iconst (v := 0) X.1 dX1_init_15 (by decide) ?_
  refine ac_putI X zf_RX1_18 rfl rfl rfl rfl rfl (Nat.le_of_ble_eq_true rfl) (Nat.le_of_ble_eq_true rfl) dX1_init_16 (I' := iT 56) (wrF_succ (t := 55) rfl) ?_
  refine ag_aload_n X.1 0 dX1_init_19 rfl ?_
  refine ag_iconst (v := (-1)) X.1 dX1_init_20 (by decide) ?_
  refine ac_putI X zf_RX1_21 rfl rfl rfl rfl rfl (Nat.le_of_ble_eq_true rfl) (Nat.le_of_ble_eq_true rfl) dX1_init_21 (I' := iT 57) (wrF_succ (t := 56) rfl) ?_
  refine ag_aload_n X.1 0 dX1_init_24 rfl ?_
  refine ag_iconst (v := 0) X.1 dX1_init_25 (by decide) ?_
  refine ac_putI X zf_RX1_24 rfl rfl rfl rfl rfl (Nat.le_of_ble_eq_true rfl) (Nat.le_of_ble_eq_true rfl) dX1_init_26 (I' := iT 58) (wrF_succ (t := 57) rfl) ?_
  refine ag_aload_n X.1 0 dX1_init_29 rfl ?_
  refine ag_bipush (v := 16) X.1 dX1_init_30 (by decide) ?_
  refine ac_newi (N := 16) (n1 := 27) (cs1 := 1) (sl1 := 16) X zv_85 rfl (Nat.le_of_ble_eq_true rfl) (wrF_fresh (by decide +kernel)) (by decide) (by decide) (Nat.le_of_ble_eq_true rfl) (Nat.le_of_ble_eq_true rfl) (Nat.le_of_ble_eq_true rfl) dX1_init_32 rfl rfl rfl ?_
  refine ac_putF X zf_RX1_27 rfl rfl rfl (by decide) (fun _ => rfl) (fun _ => rfl) rfl (Nat.le_of_ble_eq_true rfl) (Nat.le_of_ble_eq_true rfl) dX1_init_34 (rf' := rT 24) (wrF_succ (t := 23) rfl) ?_
  exact ac_ret X E (Nat.le_of_ble_eq_true rfl) dX1_init_37
set_option maxRecDepth 100000 in
theorem q_28 {l : Launch} {g : zG} : CallC l g 1 1 16 M_X1_init [vR 28] 28 (rT 25) (iT 58) 29 (rT 26) (iT 63) := by
  refine ac_entry (by decide) (Nat.le_of_ble_eq_true rfl) rfl rfl (fun k hk hn0 (X : zXc k g cX1_init RX1 1 none 1 1 16) E => ?_)
  show AG k g (WC g 28 (rT 25) (iT 58)) 0 0 1 0 [(0, vR 28)] []
  subst hk
  refine ag_aload_n X.1 0 dX1_init_0 rfl ?_
  refine ac_objinit X (by decide) zv_56 zv_42 zv_43 (by decide) (Nat.le_of_ble_eq_true rfl) dX1_init_1 ?_
  refine ag_aload_n X.1 0 dX1_init_4 rfl ?_
  refine ag_iconst (v := 0) X.1 dX1_init_5 (by decide) ?_
  refine ac_putI X zf_RX1_9 rfl rfl rfl rfl rfl (Nat.le_of_ble_eq_true rfl) (Nat.le_of_ble_eq_true rfl) dX1_init_6 (I' := iT 59) (wrF_succ (t := 58) rfl) ?_
  refine ag_aload_n X.1 0 dX1_init_9 rfl ?_
  refine ag_iconst (v := 0) X.1 dX1_init_10 (by decide) ?_
  refine ac_putI X zf_RX1_15 rfl rfl rfl rfl rfl (Nat.le_of_ble_eq_true rfl) (Nat.le_of_ble_eq_true rfl) dX1_init_11 (I' := iT 60) (wrF_succ (t := 59) rfl) ?_
  refine ag_aload_n X.1 0 dX1_init_14 rfl ?_
  refine ag_iconst (v := 0) X.1 dX1_init_15 (by decide) ?_
  refine ac_putI X zf_RX1_18 rfl rfl rfl rfl rfl (Nat.le_of_ble_eq_true rfl) (Nat.le_of_ble_eq_true rfl) dX1_init_16 (I' := iT 61) (wrF_succ (t := 60) rfl) ?_
  refine ag_aload_n X.1 0 dX1_init_19 rfl ?_
  refine ag_iconst (v := (-1)) X.1 dX1_init_20 (by decide) ?_
  refine ac_putI X zf_RX1_21 rfl rfl rfl rfl rfl (Nat.le_of_ble_eq_true rfl) (Nat.le_of_ble_eq_true rfl) dX1_init_21 (I' := iT 62) (wrF_succ (t := 61) rfl) ?_
  refine ag_aload_n X.1 0 dX1_init_24 rfl ?_
  refine ag_iconst (v := 0) X.1 dX1_init_25 (by decide) ?_
  refine ac_putI X zf_RX1_24 rfl rfl rfl rfl rfl (Nat.le_of_ble_eq_true rfl) (Nat.le_of_ble_eq_true rfl) dX1_init_26 (I' := iT 63) (wrF_succ (t := 62) rfl) ?_
  refine ag_aload_n X.1 0 dX1_init_29 rfl ?_
  refine ag_bipush (v := 16) X.1 dX1_init_30 (by decide) ?_
  refine ac_newi (N := 16) (n1 := 29) (cs1 := 1) (sl1 := 16) X zv_85 rfl (Nat.le_of_ble_eq_true rfl) (wrF_fresh (by decide +kernel)) (by decide) (by decide) (Nat.le_of_ble_eq_true rfl) (Nat.le_of_ble_eq_true rfl) (Nat.le_of_ble_eq_true rfl) dX1_init_32 rfl rfl rfl ?_
  refine ac_putF X zf_RX1_27 rfl rfl rfl (by decide) (fun _ => rfl) (fun _ => rfl) rfl (Nat.le_of_ble_eq_true rfl) (Nat.le_of_ble_eq_true rfl) dX1_init_34 (rf' := rT 26) (wrF_succ (t := 25) rfl) ?_
  exact ac_ret X E (Nat.le_of_ble_eq_true rfl) dX1_init_37
set_option maxRecDepth 100000 in
theorem q_30 {l : Launch} {g : zG} : CallC l g 1 1 16 M_X1_init [vR 30] 30 (rT 27) (iT 63) 31 (rT 28) (iT 68) := by
  refine ac_entry (by decide) (Nat.le_of_ble_eq_true rfl) rfl rfl (fun k hk hn0 (X : zXc k g cX1_init RX1 1 none 1 1 16) E => ?_)
  show AG k g (WC g 30 (rT 27) (iT 63)) 0 0 1 0 [(0, vR 30)] []
  subst hk
  refine ag_aload_n X.1 0 dX1_init_0 rfl ?_
  refine ac_objinit X (by decide) zv_56 zv_42 zv_43 (by decide) (Nat.le_of_ble_eq_true rfl) dX1_init_1 ?_
  refine ag_aload_n X.1 0 dX1_init_4 rfl ?_
  refine ag_iconst (v := 0) X.1 dX1_init_5 (by decide) ?_
  refine ac_putI X zf_RX1_9 rfl rfl rfl rfl rfl (Nat.le_of_ble_eq_true rfl) (Nat.le_of_ble_eq_true rfl) dX1_init_6 (I' := iT 64) (wrF_succ (t := 63) rfl) ?_
  refine ag_aload_n X.1 0 dX1_init_9 rfl ?_
  refine ag_iconst (v := 0) X.1 dX1_init_10 (by decide) ?_
  refine ac_putI X zf_RX1_15 rfl rfl rfl rfl rfl (Nat.le_of_ble_eq_true rfl) (Nat.le_of_ble_eq_true rfl) dX1_init_11 (I' := iT 65) (wrF_succ (t := 64) rfl) ?_
  refine ag_aload_n X.1 0 dX1_init_14 rfl ?_
  refine ag_iconst (v := 0) X.1 dX1_init_15 (by decide) ?_
  refine ac_putI X zf_RX1_18 rfl rfl rfl rfl rfl (Nat.le_of_ble_eq_true rfl) (Nat.le_of_ble_eq_true rfl) dX1_init_16 (I' := iT 66) (wrF_succ (t := 65) rfl) ?_
  refine ag_aload_n X.1 0 dX1_init_19 rfl ?_
  refine ag_iconst (v := (-1)) X.1 dX1_init_20 (by decide) ?_
  refine ac_putI X zf_RX1_21 rfl rfl rfl rfl rfl (Nat.le_of_ble_eq_true rfl) (Nat.le_of_ble_eq_true rfl) dX1_init_21 (I' := iT 67) (wrF_succ (t := 66) rfl) ?_
  refine ag_aload_n X.1 0 dX1_init_24 rfl ?_
  refine ag_iconst (v := 0) X.1 dX1_init_25 (by decide) ?_
  refine ac_putI X zf_RX1_24 rfl rfl rfl rfl rfl (Nat.le_of_ble_eq_true rfl) (Nat.le_of_ble_eq_true rfl) dX1_init_26 (I' := iT 68) (wrF_succ (t := 67) rfl) ?_
  refine ag_aload_n X.1 0 dX1_init_29 rfl ?_
  refine ag_bipush (v := 16) X.1 dX1_init_30 (by decide) ?_
  refine ac_newi (N := 16) (n1 := 31) (cs1 := 1) (sl1 := 16) X zv_85 rfl (Nat.le_of_ble_eq_true rfl) (wrF_fresh (by decide +kernel)) (by decide) (by decide) (Nat.le_of_ble_eq_true rfl) (Nat.le_of_ble_eq_true rfl) (Nat.le_of_ble_eq_true rfl) dX1_init_32 rfl rfl rfl ?_
  refine ac_putF X zf_RX1_27 rfl rfl rfl (by decide) (fun _ => rfl) (fun _ => rfl) rfl (Nat.le_of_ble_eq_true rfl) (Nat.le_of_ble_eq_true rfl) dX1_init_34 (rf' := rT 28) (wrF_succ (t := 27) rfl) ?_
  exact ac_ret X E (Nat.le_of_ble_eq_true rfl) dX1_init_37
set_option maxRecDepth 100000 in
theorem q_32 {l : Launch} {g : zG} : CallC l g 1 1 16 M_X1_init [vR 32] 32 (rT 29) (iT 68) 33 (rT 30) (iT 73) := by
  refine ac_entry (by decide) (Nat.le_of_ble_eq_true rfl) rfl rfl (fun k hk hn0 (X : zXc k g cX1_init RX1 1 none 1 1 16) E => ?_)
  show AG k g (WC g 32 (rT 29) (iT 68)) 0 0 1 0 [(0, vR 32)] []
  subst hk
  refine ag_aload_n X.1 0 dX1_init_0 rfl ?_
  refine ac_objinit X (by decide) zv_56 zv_42 zv_43 (by decide) (Nat.le_of_ble_eq_true rfl) dX1_init_1 ?_
  refine ag_aload_n X.1 0 dX1_init_4 rfl ?_
  refine ag_iconst (v := 0) X.1 dX1_init_5 (by decide) ?_
  refine ac_putI X zf_RX1_9 rfl rfl rfl rfl rfl (Nat.le_of_ble_eq_true rfl) (Nat.le_of_ble_eq_true rfl) dX1_init_6 (I' := iT 69) (wrF_succ (t := 68) rfl) ?_
  refine ag_aload_n X.1 0 dX1_init_9 rfl ?_
  refine ag_iconst (v := 0) X.1 dX1_init_10 (by decide) ?_
  refine ac_putI X zf_RX1_15 rfl rfl rfl rfl rfl (Nat.le_of_ble_eq_true rfl) (Nat.le_of_ble_eq_true rfl) dX1_init_11 (I' := iT 70) (wrF_succ (t := 69) rfl) ?_
  refine ag_aload_n X.1 0 dX1_init_14 rfl ?_
  refine ag_iconst (v := 0) X.1 dX1_init_15 (by decide) ?_
  refine ac_putI X zf_RX1_18 rfl rfl rfl rfl rfl (Nat.le_of_ble_eq_true rfl) (Nat.le_of_ble_eq_true rfl) dX1_init_16 (I' := iT 71) (wrF_succ (t := 70) rfl) ?_
  refine ag_aload_n X.1 0 dX1_init_19 rfl ?_
  refine ag_iconst (v := (-1)) X.1 dX1_init_20 (by decide) ?_
  refine ac_putI X zf_RX1_21 rfl rfl rfl rfl rfl (Nat.le_of_ble_eq_true rfl) (Nat.le_of_ble_eq_true rfl) dX1_init_21 (I' := iT 72) (wrF_succ (t := 71) rfl) ?_
  refine ag_aload_n X.1 0 dX1_init_24 rfl ?_
  refine ag_iconst (v := 0) X.1 dX1_init_25 (by decide) ?_
  refine ac_putI X zf_RX1_24 rfl rfl rfl rfl rfl (Nat.le_of_ble_eq_true rfl) (Nat.le_of_ble_eq_true rfl) dX1_init_26 (I' := iT 73) (wrF_succ (t := 72) rfl) ?_
  refine ag_aload_n X.1 0 dX1_init_29 rfl ?_
  refine ag_bipush (v := 16) X.1 dX1_init_30 (by decide) ?_
  refine ac_newi (N := 16) (n1 := 33) (cs1 := 1) (sl1 := 16) X zv_85 rfl (Nat.le_of_ble_eq_true rfl) (wrF_fresh (by decide +kernel)) (by decide) (by decide) (Nat.le_of_ble_eq_true rfl) (Nat.le_of_ble_eq_true rfl) (Nat.le_of_ble_eq_true rfl) dX1_init_32 rfl rfl rfl ?_
  refine ac_putF X zf_RX1_27 rfl rfl rfl (by decide) (fun _ => rfl) (fun _ => rfl) rfl (Nat.le_of_ble_eq_true rfl) (Nat.le_of_ble_eq_true rfl) dX1_init_34 (rf' := rT 30) (wrF_succ (t := 29) rfl) ?_
  exact ac_ret X E (Nat.le_of_ble_eq_true rfl) dX1_init_37
set_option maxRecDepth 100000 in
theorem q_34 {l : Launch} {g : zG} : CallC l g 1 1 16 M_X1_init [vR 34] 34 (rT 31) (iT 73) 35 (rT 32) (iT 78) := by
  refine ac_entry (by decide) (Nat.le_of_ble_eq_true rfl) rfl rfl (fun k hk hn0 (X : zXc k g cX1_init RX1 1 none 1 1 16) E => ?_)
  show AG k g (WC g 34 (rT 31) (iT 73)) 0 0 1 0 [(0, vR 34)] []
  subst hk
  refine ag_aload_n X.1 0 dX1_init_0 rfl ?_
  refine ac_objinit X (by decide) zv_56 zv_42 zv_43 (by decide) (Nat.le_of_ble_eq_true rfl) dX1_init_1 ?_
  refine ag_aload_n X.1 0 dX1_init_4 rfl ?_
  refine ag_iconst (v := 0) X.1 dX1_init_5 (by decide) ?_
  refine ac_putI X zf_RX1_9 rfl rfl rfl rfl rfl (Nat.le_of_ble_eq_true rfl) (Nat.le_of_ble_eq_true rfl) dX1_init_6 (I' := iT 74) (wrF_succ (t := 73) rfl) ?_
  refine ag_aload_n X.1 0 dX1_init_9 rfl ?_
  refine ag_iconst (v := 0) X.1 dX1_init_10 (by decide) ?_
  refine ac_putI X zf_RX1_15 rfl rfl rfl rfl rfl (Nat.le_of_ble_eq_true rfl) (Nat.le_of_ble_eq_true rfl) dX1_init_11 (I' := iT 75) (wrF_succ (t := 74) rfl) ?_
  refine ag_aload_n X.1 0 dX1_init_14 rfl ?_
  refine ag_iconst (v := 0) X.1 dX1_init_15 (by decide) ?_
  refine ac_putI X zf_RX1_18 rfl rfl rfl rfl rfl (Nat.le_of_ble_eq_true rfl) (Nat.le_of_ble_eq_true rfl) dX1_init_16 (I' := iT 76) (wrF_succ (t := 75) rfl) ?_
  refine ag_aload_n X.1 0 dX1_init_19 rfl ?_
  refine ag_iconst (v := (-1)) X.1 dX1_init_20 (by decide) ?_
  refine ac_putI X zf_RX1_21 rfl rfl rfl rfl rfl (Nat.le_of_ble_eq_true rfl) (Nat.le_of_ble_eq_true rfl) dX1_init_21 (I' := iT 77) (wrF_succ (t := 76) rfl) ?_
  refine ag_aload_n X.1 0 dX1_init_24 rfl ?_
  refine ag_iconst (v := 0) X.1 dX1_init_25 (by decide) ?_
  refine ac_putI X zf_RX1_24 rfl rfl rfl rfl rfl (Nat.le_of_ble_eq_true rfl) (Nat.le_of_ble_eq_true rfl) dX1_init_26 (I' := iT 78) (wrF_succ (t := 77) rfl) ?_
  refine ag_aload_n X.1 0 dX1_init_29 rfl ?_
  refine ag_bipush (v := 16) X.1 dX1_init_30 (by decide) ?_
  refine ac_newi (N := 16) (n1 := 35) (cs1 := 1) (sl1 := 16) X zv_85 rfl (Nat.le_of_ble_eq_true rfl) (wrF_fresh (by decide +kernel)) (by decide) (by decide) (Nat.le_of_ble_eq_true rfl) (Nat.le_of_ble_eq_true rfl) (Nat.le_of_ble_eq_true rfl) dX1_init_32 rfl rfl rfl ?_
  refine ac_putF X zf_RX1_27 rfl rfl rfl (by decide) (fun _ => rfl) (fun _ => rfl) rfl (Nat.le_of_ble_eq_true rfl) (Nat.le_of_ble_eq_true rfl) dX1_init_34 (rf' := rT 32) (wrF_succ (t := 31) rfl) ?_
  exact ac_ret X E (Nat.le_of_ble_eq_true rfl) dX1_init_37
set_option maxRecDepth 100000 in
theorem q_36 {l : Launch} {g : zG} : CallC l g 1 1 16 M_X1_init [vR 36] 36 (rT 33) (iT 78) 37 (rT 34) (iT 83) := by
  refine ac_entry (by decide) (Nat.le_of_ble_eq_true rfl) rfl rfl (fun k hk hn0 (X : zXc k g cX1_init RX1 1 none 1 1 16) E => ?_)
  show AG k g (WC g 36 (rT 33) (iT 78)) 0 0 1 0 [(0, vR 36)] []
  subst hk
  refine ag_aload_n X.1 0 dX1_init_0 rfl ?_
  refine ac_objinit X (by decide) zv_56 zv_42 zv_43 (by decide) (Nat.le_of_ble_eq_true rfl) dX1_init_1 ?_
  refine ag_aload_n X.1 0 dX1_init_4 rfl ?_
  refine ag_iconst (v := 0) X.1 dX1_init_5 (by decide) ?_
  refine ac_putI X zf_RX1_9 rfl rfl rfl rfl rfl (Nat.le_of_ble_eq_true rfl) (Nat.le_of_ble_eq_true rfl) dX1_init_6 (I' := iT 79) (wrF_succ (t := 78) rfl) ?_
  refine ag_aload_n X.1 0 dX1_init_9 rfl ?_
  refine ag_iconst (v := 0) X.1 dX1_init_10 (by decide) ?_
  refine ac_putI X zf_RX1_15 rfl rfl rfl rfl rfl (Nat.le_of_ble_eq_true rfl) (Nat.le_of_ble_eq_true rfl) dX1_init_11 (I' := iT 80) (wrF_succ (t := 79) rfl) ?_
  refine ag_aload_n X.1 0 dX1_init_14 rfl ?_
  refine ag_iconst (v := 0) X.1 dX1_init_15 (by decide) ?_
  refine ac_putI X zf_RX1_18 rfl rfl rfl rfl rfl (Nat.le_of_ble_eq_true rfl) (Nat.le_of_ble_eq_true rfl) dX1_init_16 (I' := iT 81) (wrF_succ (t := 80) rfl) ?_
  refine ag_aload_n X.1 0 dX1_init_19 rfl ?_
  refine ag_iconst (v := (-1)) X.1 dX1_init_20 (by decide) ?_
  refine ac_putI X zf_RX1_21 rfl rfl rfl rfl rfl (Nat.le_of_ble_eq_true rfl) (Nat.le_of_ble_eq_true rfl) dX1_init_21 (I' := iT 82) (wrF_succ (t := 81) rfl) ?_
  refine ag_aload_n X.1 0 dX1_init_24 rfl ?_
  refine ag_iconst (v := 0) X.1 dX1_init_25 (by decide) ?_
  refine ac_putI X zf_RX1_24 rfl rfl rfl rfl rfl (Nat.le_of_ble_eq_true rfl) (Nat.le_of_ble_eq_true rfl) dX1_init_26 (I' := iT 83) (wrF_succ (t := 82) rfl) ?_
  refine ag_aload_n X.1 0 dX1_init_29 rfl ?_
  refine ag_bipush (v := 16) X.1 dX1_init_30 (by decide) ?_
  refine ac_newi (N := 16) (n1 := 37) (cs1 := 1) (sl1 := 16) X zv_85 rfl (Nat.le_of_ble_eq_true rfl) (wrF_fresh (by decide +kernel)) (by decide) (by decide) (Nat.le_of_ble_eq_true rfl) (Nat.le_of_ble_eq_true rfl) (Nat.le_of_ble_eq_true rfl) dX1_init_32 rfl rfl rfl ?_
  refine ac_putF X zf_RX1_27 rfl rfl rfl (by decide) (fun _ => rfl) (fun _ => rfl) rfl (Nat.le_of_ble_eq_true rfl) (Nat.le_of_ble_eq_true rfl) dX1_init_34 (rf' := rT 34) (wrF_succ (t := 33) rfl) ?_
  exact ac_ret X E (Nat.le_of_ble_eq_true rfl) dX1_init_37
set_option maxRecDepth 100000 in
theorem q_38 {l : Launch} {g : zG} : CallC l g 1 1 16 M_X1_init [vR 38] 38 (rT 35) (iT 83) 39 (rT 36) (iT 88) := by
  refine ac_entry (by decide) (Nat.le_of_ble_eq_true rfl) rfl rfl (fun k hk hn0 (X : zXc k g cX1_init RX1 1 none 1 1 16) E => ?_)
  show AG k g (WC g 38 (rT 35) (iT 83)) 0 0 1 0 [(0, vR 38)] []
  subst hk
  refine ag_aload_n X.1 0 dX1_init_0 rfl ?_
  refine ac_objinit X (by decide) zv_56 zv_42 zv_43 (by decide) (Nat.le_of_ble_eq_true rfl) dX1_init_1 ?_
  refine ag_aload_n X.1 0 dX1_init_4 rfl ?_
  refine ag_iconst (v := 0) X.1 dX1_init_5 (by decide) ?_
  refine ac_putI X zf_RX1_9 rfl rfl rfl rfl rfl (Nat.le_of_ble_eq_true rfl) (Nat.le_of_ble_eq_true rfl) dX1_init_6 (I' := iT 84) (wrF_succ (t := 83) rfl) ?_
  refine ag_aload_n X.1 0 dX1_init_9 rfl ?_
  refine ag_iconst (v := 0) X.1 dX1_init_10 (by decide) ?_
  refine ac_putI X zf_RX1_15 rfl rfl rfl rfl rfl (Nat.le_of_ble_eq_true rfl) (Nat.le_of_ble_eq_true rfl) dX1_init_11 (I' := iT 85) (wrF_succ (t := 84) rfl) ?_
  refine ag_aload_n X.1 0 dX1_init_14 rfl ?_
  refine ag_iconst (v := 0) X.1 dX1_init_15 (by decide) ?_
  refine ac_putI X zf_RX1_18 rfl rfl rfl rfl rfl (Nat.le_of_ble_eq_true rfl) (Nat.le_of_ble_eq_true rfl) dX1_init_16 (I' := iT 86) (wrF_succ (t := 85) rfl) ?_
  refine ag_aload_n X.1 0 dX1_init_19 rfl ?_
  refine ag_iconst (v := (-1)) X.1 dX1_init_20 (by decide) ?_
  refine ac_putI X zf_RX1_21 rfl rfl rfl rfl rfl (Nat.le_of_ble_eq_true rfl) (Nat.le_of_ble_eq_true rfl) dX1_init_21 (I' := iT 87) (wrF_succ (t := 86) rfl) ?_
  refine ag_aload_n X.1 0 dX1_init_24 rfl ?_
  refine ag_iconst (v := 0) X.1 dX1_init_25 (by decide) ?_
  refine ac_putI X zf_RX1_24 rfl rfl rfl rfl rfl (Nat.le_of_ble_eq_true rfl) (Nat.le_of_ble_eq_true rfl) dX1_init_26 (I' := iT 88) (wrF_succ (t := 87) rfl) ?_
  refine ag_aload_n X.1 0 dX1_init_29 rfl ?_
  refine ag_bipush (v := 16) X.1 dX1_init_30 (by decide) ?_
  refine ac_newi (N := 16) (n1 := 39) (cs1 := 1) (sl1 := 16) X zv_85 rfl (Nat.le_of_ble_eq_true rfl) (wrF_fresh (by decide +kernel)) (by decide) (by decide) (Nat.le_of_ble_eq_true rfl) (Nat.le_of_ble_eq_true rfl) (Nat.le_of_ble_eq_true rfl) dX1_init_32 rfl rfl rfl ?_
  refine ac_putF X zf_RX1_27 rfl rfl rfl (by decide) (fun _ => rfl) (fun _ => rfl) rfl (Nat.le_of_ble_eq_true rfl) (Nat.le_of_ble_eq_true rfl) dX1_init_34 (rf' := rT 36) (wrF_succ (t := 35) rfl) ?_
  exact ac_ret X E (Nat.le_of_ble_eq_true rfl) dX1_init_37
set_option maxRecDepth 100000 in
theorem q_21 {l : Launch} {g : zG} : CallC l g 2 18 192 M_X4_init [vR 21] 21 (rT 19) (iT 48) 39 (rT 37) (iT 96) := by
  refine ac_entry (by decide) (Nat.le_of_ble_eq_true rfl) rfl rfl (fun k hk hn0 (X : zXc k g cX4_init RX4 2 none 2 18 192) E => ?_)
  show AG k g (WC g 21 (rT 19) (iT 48)) 0 0 2 0 [(0, vR 21)] []
  subst hk
  refine ag_aload_n X.1 0 dX4_init_0 rfl ?_
  refine ac_objinit X (by decide) zv_49 zv_42 zv_43 (by decide) (Nat.le_of_ble_eq_true rfl) dX4_init_1 ?_
  refine ag_aload_n X.1 0 dX4_init_4 rfl ?_
  refine ag_bipush (v := 8) X.1 dX4_init_5 (by decide) ?_
  refine ac_newi (N := 8) (n1 := 22) (cs1 := 1) (sl1 := 8) X zv_85 rfl (Nat.le_of_ble_eq_true rfl) (wrF_fresh (by decide +kernel)) (by decide) (by decide) (Nat.le_of_ble_eq_true rfl) (Nat.le_of_ble_eq_true rfl) (Nat.le_of_ble_eq_true rfl) dX4_init_7 rfl rfl rfl ?_
  refine ac_putF X zf_RX4_9 rfl rfl rfl (by decide) (fun _ => rfl) (fun _ => rfl) rfl (Nat.le_of_ble_eq_true rfl) (Nat.le_of_ble_eq_true rfl) dX4_init_9 (rf' := rT 20) (wrF_succ (t := 19) rfl) ?_
  refine ag_aload_n X.1 0 dX4_init_12 rfl ?_
  refine ag_bipush (v := 8) X.1 dX4_init_13 (by decide) ?_
  refine ac_newq (N := 8) (n1 := 23) (cs1 := 2) (sl1 := 16) X (Or.inl rfl) rfl zv_50 (fun h => h.1) rfl (Nat.le_of_ble_eq_true rfl) (wrF_fresh (by decide +kernel)) (by decide) (by decide) (Nat.le_of_ble_eq_true rfl) (Nat.le_of_ble_eq_true rfl) (Nat.le_of_ble_eq_true rfl) dX4_init_15 rfl rfl rfl ?_
  refine ac_putF X zf_RX4_17 rfl rfl rfl (by decide) (fun _ => rfl) (fun _ => rfl) rfl (Nat.le_of_ble_eq_true rfl) (Nat.le_of_ble_eq_true rfl) dX4_init_18 (rf' := rT 21) (wrF_succ (t := 20) rfl) ?_
  refine ag_iconst (v := 0) X.1 dX4_init_21 (by decide) ?_
  refine ag_istore_n X.1 dX4_init_22 (by decide) rfl ?_
  refine ag_iload_n X.1 0 dX4_init_23 rfl ?_
  refine ag_aload_n X.1 1 dX4_init_24 rfl ?_
  refine ac_getR (r := 23) X zf_RX4_17 rfl rfl (Nat.le_of_ble_eq_true rfl) (by decide +kernel) dX4_init_25 ?_
  refine ac_alenq (N := 8) (v := 8) X (Or.inl rfl) rfl (Nat.le_of_ble_eq_true rfl) (Nat.le_of_ble_eq_true rfl) (by decide) dX4_init_28 ?_
  refine ag_icmp_ge X.1 51 dX4_init_29 rfl (fun h => absurd h (by decide)) (fun _ => ?_)
  refine ag_aload_n X.1 1 dX4_init_32 rfl ?_
  refine ac_getR (r := 23) X zf_RX4_17 rfl rfl (Nat.le_of_ble_eq_true rfl) (by decide +kernel) dX4_init_33 ?_
  refine ag_iload_n X.1 0 dX4_init_36 rfl ?_
  refine ac_new (n1 := 24) (cs1 := 3) (sl1 := 22) X zcl_1 zv_50 zv_52 zw_25 rfl (Nat.le_of_ble_eq_true rfl) zdf_1 (wrF_fresh (by decide +kernel)) (wrF_fresh (by decide +kernel)) (Nat.le_of_ble_eq_true rfl) (Nat.le_of_ble_eq_true rfl) dX4_init_37 rfl rfl rfl ?_
  refine ag_dup X.1 dX4_init_40 rfl ?_
  refine ac_call (recv := 24) (as := []) (st := [vR 24, vI 0, vR 23]) (cs1 := 4) (sl1 := 38) X qm_X1 zv_53 q_24 (by decide) (Nat.le_of_ble_eq_true rfl) rfl rfl (Nat.le_of_ble_eq_true rfl) (Nat.le_of_ble_eq_true rfl) (Nat.le_of_ble_eq_true rfl) (Nat.le_of_ble_eq_true rfl) rfl rfl dX4_init_41 ?_
  refine ac_aast (j := 0) X (Or.inl rfl) rfl zcl_1 rfl (Nat.le_of_ble_eq_true rfl) (Nat.le_of_ble_eq_true rfl) rfl (Nat.le_of_ble_eq_true rfl) (vin_c (by decide +kernel)) (by decide) dX4_init_44 (rf' := rT 23) (wrF_succ (t := 22) rfl) ?_
  refine ag_iinc (v := 1) X.1 0 dX4_init_45 rfl (by decide) (by decide) rfl ?_
  refine ag_goto X.1 23 dX4_init_48 rfl ?_
  refine ag_iload_n X.1 0 dX4_init_23 rfl ?_
  refine ag_aload_n X.1 1 dX4_init_24 rfl ?_
  refine ac_getR (r := 23) X zf_RX4_17 rfl rfl (Nat.le_of_ble_eq_true rfl) (by decide +kernel) dX4_init_25 ?_
  refine ac_alenq (N := 8) (v := 8) X (Or.inl rfl) rfl (Nat.le_of_ble_eq_true rfl) (Nat.le_of_ble_eq_true rfl) (by decide) dX4_init_28 ?_
  refine ag_icmp_ge X.1 51 dX4_init_29 rfl (fun h => absurd h (by decide)) (fun _ => ?_)
  refine ag_aload_n X.1 1 dX4_init_32 rfl ?_
  refine ac_getR (r := 23) X zf_RX4_17 rfl rfl (Nat.le_of_ble_eq_true rfl) (by decide +kernel) dX4_init_33 ?_
  refine ag_iload_n X.1 0 dX4_init_36 rfl ?_
  refine ac_new (n1 := 26) (cs1 := 5) (sl1 := 44) X zcl_1 zv_50 zv_52 zw_25 rfl (Nat.le_of_ble_eq_true rfl) zdf_1 (wrF_fresh (by decide +kernel)) (wrF_fresh (by decide +kernel)) (Nat.le_of_ble_eq_true rfl) (Nat.le_of_ble_eq_true rfl) dX4_init_37 rfl rfl rfl ?_
  refine ag_dup X.1 dX4_init_40 rfl ?_
  refine ac_call (recv := 26) (as := []) (st := [vR 26, vI 1, vR 23]) (cs1 := 6) (sl1 := 60) X qm_X1 zv_53 q_26 (by decide) (Nat.le_of_ble_eq_true rfl) rfl rfl (Nat.le_of_ble_eq_true rfl) (Nat.le_of_ble_eq_true rfl) (Nat.le_of_ble_eq_true rfl) (Nat.le_of_ble_eq_true rfl) rfl rfl dX4_init_41 ?_
  refine ac_aast (j := 1) X (Or.inl rfl) rfl zcl_1 rfl (Nat.le_of_ble_eq_true rfl) (Nat.le_of_ble_eq_true rfl) rfl (Nat.le_of_ble_eq_true rfl) (vin_c (by decide +kernel)) (by decide) dX4_init_44 (rf' := rT 25) (wrF_succ (t := 24) rfl) ?_
  refine ag_iinc (v := 2) X.1 0 dX4_init_45 rfl (by decide) (by decide) rfl ?_
  refine ag_goto X.1 23 dX4_init_48 rfl ?_
  refine ag_iload_n X.1 0 dX4_init_23 rfl ?_
  refine ag_aload_n X.1 1 dX4_init_24 rfl ?_
  refine ac_getR (r := 23) X zf_RX4_17 rfl rfl (Nat.le_of_ble_eq_true rfl) (by decide +kernel) dX4_init_25 ?_
  refine ac_alenq (N := 8) (v := 8) X (Or.inl rfl) rfl (Nat.le_of_ble_eq_true rfl) (Nat.le_of_ble_eq_true rfl) (by decide) dX4_init_28 ?_
  refine ag_icmp_ge X.1 51 dX4_init_29 rfl (fun h => absurd h (by decide)) (fun _ => ?_)
  refine ag_aload_n X.1 1 dX4_init_32 rfl ?_
  refine ac_getR (r := 23) X zf_RX4_17 rfl rfl (Nat.le_of_ble_eq_true rfl) (by decide +kernel) dX4_init_33 ?_
  refine ag_iload_n X.1 0 dX4_init_36 rfl ?_
  refine ac_new (n1 := 28) (cs1 := 7) (sl1 := 66) X zcl_1 zv_50 zv_52 zw_25 rfl (Nat.le_of_ble_eq_true rfl) zdf_1 (wrF_fresh (by decide +kernel)) (wrF_fresh (by decide +kernel)) (Nat.le_of_ble_eq_true rfl) (Nat.le_of_ble_eq_true rfl) dX4_init_37 rfl rfl rfl ?_
  refine ag_dup X.1 dX4_init_40 rfl ?_
  refine ac_call (recv := 28) (as := []) (st := [vR 28, vI 2, vR 23]) (cs1 := 8) (sl1 := 82) X qm_X1 zv_53 q_28 (by decide) (Nat.le_of_ble_eq_true rfl) rfl rfl (Nat.le_of_ble_eq_true rfl) (Nat.le_of_ble_eq_true rfl) (Nat.le_of_ble_eq_true rfl) (Nat.le_of_ble_eq_true rfl) rfl rfl dX4_init_41 ?_
  refine ac_aast (j := 2) X (Or.inl rfl) rfl zcl_1 rfl (Nat.le_of_ble_eq_true rfl) (Nat.le_of_ble_eq_true rfl) rfl (Nat.le_of_ble_eq_true rfl) (vin_c (by decide +kernel)) (by decide) dX4_init_44 (rf' := rT 27) (wrF_succ (t := 26) rfl) ?_
  refine ag_iinc (v := 3) X.1 0 dX4_init_45 rfl (by decide) (by decide) rfl ?_
  refine ag_goto X.1 23 dX4_init_48 rfl ?_
  refine ag_iload_n X.1 0 dX4_init_23 rfl ?_
  refine ag_aload_n X.1 1 dX4_init_24 rfl ?_
  refine ac_getR (r := 23) X zf_RX4_17 rfl rfl (Nat.le_of_ble_eq_true rfl) (by decide +kernel) dX4_init_25 ?_
  refine ac_alenq (N := 8) (v := 8) X (Or.inl rfl) rfl (Nat.le_of_ble_eq_true rfl) (Nat.le_of_ble_eq_true rfl) (by decide) dX4_init_28 ?_
  refine ag_icmp_ge X.1 51 dX4_init_29 rfl (fun h => absurd h (by decide)) (fun _ => ?_)
  refine ag_aload_n X.1 1 dX4_init_32 rfl ?_
  refine ac_getR (r := 23) X zf_RX4_17 rfl rfl (Nat.le_of_ble_eq_true rfl) (by decide +kernel) dX4_init_33 ?_
  refine ag_iload_n X.1 0 dX4_init_36 rfl ?_
  refine ac_new (n1 := 30) (cs1 := 9) (sl1 := 88) X zcl_1 zv_50 zv_52 zw_25 rfl (Nat.le_of_ble_eq_true rfl) zdf_1 (wrF_fresh (by decide +kernel)) (wrF_fresh (by decide +kernel)) (Nat.le_of_ble_eq_true rfl) (Nat.le_of_ble_eq_true rfl) dX4_init_37 rfl rfl rfl ?_
  refine ag_dup X.1 dX4_init_40 rfl ?_
  refine ac_call (recv := 30) (as := []) (st := [vR 30, vI 3, vR 23]) (cs1 := 10) (sl1 := 104) X qm_X1 zv_53 q_30 (by decide) (Nat.le_of_ble_eq_true rfl) rfl rfl (Nat.le_of_ble_eq_true rfl) (Nat.le_of_ble_eq_true rfl) (Nat.le_of_ble_eq_true rfl) (Nat.le_of_ble_eq_true rfl) rfl rfl dX4_init_41 ?_
  refine ac_aast (j := 3) X (Or.inl rfl) rfl zcl_1 rfl (Nat.le_of_ble_eq_true rfl) (Nat.le_of_ble_eq_true rfl) rfl (Nat.le_of_ble_eq_true rfl) (vin_c (by decide +kernel)) (by decide) dX4_init_44 (rf' := rT 29) (wrF_succ (t := 28) rfl) ?_
  refine ag_iinc (v := 4) X.1 0 dX4_init_45 rfl (by decide) (by decide) rfl ?_
  refine ag_goto X.1 23 dX4_init_48 rfl ?_
  refine ag_iload_n X.1 0 dX4_init_23 rfl ?_
  refine ag_aload_n X.1 1 dX4_init_24 rfl ?_
  refine ac_getR (r := 23) X zf_RX4_17 rfl rfl (Nat.le_of_ble_eq_true rfl) (by decide +kernel) dX4_init_25 ?_
  refine ac_alenq (N := 8) (v := 8) X (Or.inl rfl) rfl (Nat.le_of_ble_eq_true rfl) (Nat.le_of_ble_eq_true rfl) (by decide) dX4_init_28 ?_
  refine ag_icmp_ge X.1 51 dX4_init_29 rfl (fun h => absurd h (by decide)) (fun _ => ?_)
  refine ag_aload_n X.1 1 dX4_init_32 rfl ?_
  refine ac_getR (r := 23) X zf_RX4_17 rfl rfl (Nat.le_of_ble_eq_true rfl) (by decide +kernel) dX4_init_33 ?_
  refine ag_iload_n X.1 0 dX4_init_36 rfl ?_
  refine ac_new (n1 := 32) (cs1 := 11) (sl1 := 110) X zcl_1 zv_50 zv_52 zw_25 rfl (Nat.le_of_ble_eq_true rfl) zdf_1 (wrF_fresh (by decide +kernel)) (wrF_fresh (by decide +kernel)) (Nat.le_of_ble_eq_true rfl) (Nat.le_of_ble_eq_true rfl) dX4_init_37 rfl rfl rfl ?_
  refine ag_dup X.1 dX4_init_40 rfl ?_
  refine ac_call (recv := 32) (as := []) (st := [vR 32, vI 4, vR 23]) (cs1 := 12) (sl1 := 126) X qm_X1 zv_53 q_32 (by decide) (Nat.le_of_ble_eq_true rfl) rfl rfl (Nat.le_of_ble_eq_true rfl) (Nat.le_of_ble_eq_true rfl) (Nat.le_of_ble_eq_true rfl) (Nat.le_of_ble_eq_true rfl) rfl rfl dX4_init_41 ?_
  refine ac_aast (j := 4) X (Or.inl rfl) rfl zcl_1 rfl (Nat.le_of_ble_eq_true rfl) (Nat.le_of_ble_eq_true rfl) rfl (Nat.le_of_ble_eq_true rfl) (vin_c (by decide +kernel)) (by decide) dX4_init_44 (rf' := rT 31) (wrF_succ (t := 30) rfl) ?_
  refine ag_iinc (v := 5) X.1 0 dX4_init_45 rfl (by decide) (by decide) rfl ?_
  refine ag_goto X.1 23 dX4_init_48 rfl ?_
  refine ag_iload_n X.1 0 dX4_init_23 rfl ?_
  refine ag_aload_n X.1 1 dX4_init_24 rfl ?_
  refine ac_getR (r := 23) X zf_RX4_17 rfl rfl (Nat.le_of_ble_eq_true rfl) (by decide +kernel) dX4_init_25 ?_
  refine ac_alenq (N := 8) (v := 8) X (Or.inl rfl) rfl (Nat.le_of_ble_eq_true rfl) (Nat.le_of_ble_eq_true rfl) (by decide) dX4_init_28 ?_
  refine ag_icmp_ge X.1 51 dX4_init_29 rfl (fun h => absurd h (by decide)) (fun _ => ?_)
  refine ag_aload_n X.1 1 dX4_init_32 rfl ?_
  refine ac_getR (r := 23) X zf_RX4_17 rfl rfl (Nat.le_of_ble_eq_true rfl) (by decide +kernel) dX4_init_33 ?_
  refine ag_iload_n X.1 0 dX4_init_36 rfl ?_
  refine ac_new (n1 := 34) (cs1 := 13) (sl1 := 132) X zcl_1 zv_50 zv_52 zw_25 rfl (Nat.le_of_ble_eq_true rfl) zdf_1 (wrF_fresh (by decide +kernel)) (wrF_fresh (by decide +kernel)) (Nat.le_of_ble_eq_true rfl) (Nat.le_of_ble_eq_true rfl) dX4_init_37 rfl rfl rfl ?_
  refine ag_dup X.1 dX4_init_40 rfl ?_
  refine ac_call (recv := 34) (as := []) (st := [vR 34, vI 5, vR 23]) (cs1 := 14) (sl1 := 148) X qm_X1 zv_53 q_34 (by decide) (Nat.le_of_ble_eq_true rfl) rfl rfl (Nat.le_of_ble_eq_true rfl) (Nat.le_of_ble_eq_true rfl) (Nat.le_of_ble_eq_true rfl) (Nat.le_of_ble_eq_true rfl) rfl rfl dX4_init_41 ?_
  refine ac_aast (j := 5) X (Or.inl rfl) rfl zcl_1 rfl (Nat.le_of_ble_eq_true rfl) (Nat.le_of_ble_eq_true rfl) rfl (Nat.le_of_ble_eq_true rfl) (vin_c (by decide +kernel)) (by decide) dX4_init_44 (rf' := rT 33) (wrF_succ (t := 32) rfl) ?_
  refine ag_iinc (v := 6) X.1 0 dX4_init_45 rfl (by decide) (by decide) rfl ?_
  refine ag_goto X.1 23 dX4_init_48 rfl ?_
  refine ag_iload_n X.1 0 dX4_init_23 rfl ?_
  refine ag_aload_n X.1 1 dX4_init_24 rfl ?_
  refine ac_getR (r := 23) X zf_RX4_17 rfl rfl (Nat.le_of_ble_eq_true rfl) (by decide +kernel) dX4_init_25 ?_
  refine ac_alenq (N := 8) (v := 8) X (Or.inl rfl) rfl (Nat.le_of_ble_eq_true rfl) (Nat.le_of_ble_eq_true rfl) (by decide) dX4_init_28 ?_
  refine ag_icmp_ge X.1 51 dX4_init_29 rfl (fun h => absurd h (by decide)) (fun _ => ?_)
  refine ag_aload_n X.1 1 dX4_init_32 rfl ?_
  refine ac_getR (r := 23) X zf_RX4_17 rfl rfl (Nat.le_of_ble_eq_true rfl) (by decide +kernel) dX4_init_33 ?_
  refine ag_iload_n X.1 0 dX4_init_36 rfl ?_
  refine ac_new (n1 := 36) (cs1 := 15) (sl1 := 154) X zcl_1 zv_50 zv_52 zw_25 rfl (Nat.le_of_ble_eq_true rfl) zdf_1 (wrF_fresh (by decide +kernel)) (wrF_fresh (by decide +kernel)) (Nat.le_of_ble_eq_true rfl) (Nat.le_of_ble_eq_true rfl) dX4_init_37 rfl rfl rfl ?_
  refine ag_dup X.1 dX4_init_40 rfl ?_
  refine ac_call (recv := 36) (as := []) (st := [vR 36, vI 6, vR 23]) (cs1 := 16) (sl1 := 170) X qm_X1 zv_53 q_36 (by decide) (Nat.le_of_ble_eq_true rfl) rfl rfl (Nat.le_of_ble_eq_true rfl) (Nat.le_of_ble_eq_true rfl) (Nat.le_of_ble_eq_true rfl) (Nat.le_of_ble_eq_true rfl) rfl rfl dX4_init_41 ?_
  refine ac_aast (j := 6) X (Or.inl rfl) rfl zcl_1 rfl (Nat.le_of_ble_eq_true rfl) (Nat.le_of_ble_eq_true rfl) rfl (Nat.le_of_ble_eq_true rfl) (vin_c (by decide +kernel)) (by decide) dX4_init_44 (rf' := rT 35) (wrF_succ (t := 34) rfl) ?_
  refine ag_iinc (v := 7) X.1 0 dX4_init_45 rfl (by decide) (by decide) rfl ?_
  refine ag_goto X.1 23 dX4_init_48 rfl ?_
  refine ag_iload_n X.1 0 dX4_init_23 rfl ?_
  refine ag_aload_n X.1 1 dX4_init_24 rfl ?_
  refine ac_getR (r := 23) X zf_RX4_17 rfl rfl (Nat.le_of_ble_eq_true rfl) (by decide +kernel) dX4_init_25 ?_
  refine ac_alenq (N := 8) (v := 8) X (Or.inl rfl) rfl (Nat.le_of_ble_eq_true rfl) (Nat.le_of_ble_eq_true rfl) (by decide) dX4_init_28 ?_
  refine ag_icmp_ge X.1 51 dX4_init_29 rfl (fun h => absurd h (by decide)) (fun _ => ?_)
  refine ag_aload_n X.1 1 dX4_init_32 rfl ?_
  refine ac_getR (r := 23) X zf_RX4_17 rfl rfl (Nat.le_of_ble_eq_true rfl) (by decide +kernel) dX4_init_33 ?_
  refine ag_iload_n X.1 0 dX4_init_36 rfl ?_
  refine ac_new (n1 := 38) (cs1 := 17) (sl1 := 176) X zcl_1 zv_50 zv_52 zw_25 rfl (Nat.le_of_ble_eq_true rfl) zdf_1 (wrF_fresh (by decide +kernel)) (wrF_fresh (by decide +kernel)) (Nat.le_of_ble_eq_true rfl) (Nat.le_of_ble_eq_true rfl) dX4_init_37 rfl rfl rfl ?_
  refine ag_dup X.1 dX4_init_40 rfl ?_
  refine ac_call (recv := 38) (as := []) (st := [vR 38, vI 7, vR 23]) (cs1 := 18) (sl1 := 192) X qm_X1 zv_53 q_38 (by decide) (Nat.le_of_ble_eq_true rfl) rfl rfl (Nat.le_of_ble_eq_true rfl) (Nat.le_of_ble_eq_true rfl) (Nat.le_of_ble_eq_true rfl) (Nat.le_of_ble_eq_true rfl) rfl rfl dX4_init_41 ?_
  refine ac_aast (j := 7) X (Or.inl rfl) rfl zcl_1 rfl (Nat.le_of_ble_eq_true rfl) (Nat.le_of_ble_eq_true rfl) rfl (Nat.le_of_ble_eq_true rfl) (vin_c (by decide +kernel)) (by decide) dX4_init_44 (rf' := rT 37) (wrF_succ (t := 36) rfl) ?_
  refine ag_iinc (v := 8) X.1 0 dX4_init_45 rfl (by decide) (by decide) rfl ?_
  refine ag_goto X.1 23 dX4_init_48 rfl ?_
  refine ag_iload_n X.1 0 dX4_init_23 rfl ?_
  refine ag_aload_n X.1 1 dX4_init_24 rfl ?_
  refine ac_getR (r := 23) X zf_RX4_17 rfl rfl (Nat.le_of_ble_eq_true rfl) (by decide +kernel) dX4_init_25 ?_
  refine ac_alenq (N := 8) (v := 8) X (Or.inl rfl) rfl (Nat.le_of_ble_eq_true rfl) (Nat.le_of_ble_eq_true rfl) (by decide) dX4_init_28 ?_
  refine ag_icmp_ge X.1 51 dX4_init_29 rfl (fun _ => ?_) (fun h => absurd (by decide) h)
  refine ag_aload_n X.1 1 dX4_init_51 rfl ?_
  refine ag_iconst (v := 0) X.1 dX4_init_52 (by decide) ?_
  refine ac_putI X zf_RX4_22 rfl rfl rfl rfl rfl (Nat.le_of_ble_eq_true rfl) (Nat.le_of_ble_eq_true rfl) dX4_init_53 (I' := iT 89) (wrF_succ (t := 88) rfl) ?_
  refine ag_aload_n X.1 1 dX4_init_56 rfl ?_
  refine ag_iconst (v := 0) X.1 dX4_init_57 (by decide) ?_
  refine ac_putI X zf_RX4_26 rfl rfl rfl rfl rfl (Nat.le_of_ble_eq_true rfl) (Nat.le_of_ble_eq_true rfl) dX4_init_58 (I' := iT 90) (wrF_succ (t := 89) rfl) ?_
  refine ag_aload_n X.1 1 dX4_init_61 rfl ?_
  refine ag_bipush (v := 20) X.1 dX4_init_62 (by decide) ?_
  refine ac_putI X zf_RX4_29 rfl rfl rfl rfl rfl (Nat.le_of_ble_eq_true rfl) (Nat.le_of_ble_eq_true rfl) dX4_init_64 (I' := iT 91) (wrF_succ (t := 90) rfl) ?_
  refine ag_aload_n X.1 1 dX4_init_67 rfl ?_
  refine ag_iconst (v := 5) X.1 dX4_init_68 (by decide) ?_
  refine ac_putI X zf_RX4_32 rfl rfl rfl rfl rfl (Nat.le_of_ble_eq_true rfl) (Nat.le_of_ble_eq_true rfl) dX4_init_69 (I' := iT 92) (wrF_succ (t := 91) rfl) ?_
  refine ag_aload_n X.1 1 dX4_init_72 rfl ?_
  refine ag_iconst (v := 1) X.1 dX4_init_73 (by decide) ?_
  refine ac_putI X zf_RX4_35 rfl rfl rfl rfl rfl (Nat.le_of_ble_eq_true rfl) (Nat.le_of_ble_eq_true rfl) dX4_init_74 (I' := iT 93) (wrF_succ (t := 92) rfl) ?_
  refine ag_aload_n X.1 1 dX4_init_77 rfl ?_
  refine ag_bipush (v := 24) X.1 dX4_init_78 (by decide) ?_
  refine ac_putI X zf_RX4_38 rfl rfl rfl rfl rfl (Nat.le_of_ble_eq_true rfl) (Nat.le_of_ble_eq_true rfl) dX4_init_80 (I' := iT 94) (wrF_succ (t := 93) rfl) ?_
  refine ag_aload_n X.1 1 dX4_init_83 rfl ?_
  refine ag_iconst (v := 0) X.1 dX4_init_84 (by decide) ?_
  refine ac_putI X zf_RX4_41 rfl rfl rfl rfl rfl (Nat.le_of_ble_eq_true rfl) (Nat.le_of_ble_eq_true rfl) dX4_init_85 (I' := iT 95) (wrF_succ (t := 94) rfl) ?_
  refine ag_aload_n X.1 1 dX4_init_88 rfl ?_
  refine ag_iconst (v := 1) X.1 dX4_init_89 (by decide) ?_
  refine ac_putI X zf_RX4_44 rfl rfl rfl rfl rfl (Nat.le_of_ble_eq_true rfl) (Nat.le_of_ble_eq_true rfl) dX4_init_90 (I' := iT 96) (wrF_succ (t := 95) rfl) ?_
  exact ac_ret X E (Nat.le_of_ble_eq_true rfl) dX4_init_93
set_option maxRecDepth 100000 in
theorem q_43 {l : Launch} {g : zG} : CallC l g 1 1 16 M_X1_init [vR 43] 43 (rT 40) (iT 96) 44 (rT 41) (iT 101) := by
  refine ac_entry (by decide) (Nat.le_of_ble_eq_true rfl) rfl rfl (fun k hk hn0 (X : zXc k g cX1_init RX1 1 none 1 1 16) E => ?_)
  show AG k g (WC g 43 (rT 40) (iT 96)) 0 0 1 0 [(0, vR 43)] []
  subst hk
  refine ag_aload_n X.1 0 dX1_init_0 rfl ?_
  refine ac_objinit X (by decide) zv_56 zv_42 zv_43 (by decide) (Nat.le_of_ble_eq_true rfl) dX1_init_1 ?_
  refine ag_aload_n X.1 0 dX1_init_4 rfl ?_
  refine ag_iconst (v := 0) X.1 dX1_init_5 (by decide) ?_
  refine ac_putI X zf_RX1_9 rfl rfl rfl rfl rfl (Nat.le_of_ble_eq_true rfl) (Nat.le_of_ble_eq_true rfl) dX1_init_6 (I' := iT 97) (wrF_succ (t := 96) rfl) ?_
  refine ag_aload_n X.1 0 dX1_init_9 rfl ?_
  refine ag_iconst (v := 0) X.1 dX1_init_10 (by decide) ?_
  refine ac_putI X zf_RX1_15 rfl rfl rfl rfl rfl (Nat.le_of_ble_eq_true rfl) (Nat.le_of_ble_eq_true rfl) dX1_init_11 (I' := iT 98) (wrF_succ (t := 97) rfl) ?_
  refine ag_aload_n X.1 0 dX1_init_14 rfl ?_
  refine ag_iconst (v := 0) X.1 dX1_init_15 (by decide) ?_
  refine ac_putI X zf_RX1_18 rfl rfl rfl rfl rfl (Nat.le_of_ble_eq_true rfl) (Nat.le_of_ble_eq_true rfl) dX1_init_16 (I' := iT 99) (wrF_succ (t := 98) rfl) ?_
  refine ag_aload_n X.1 0 dX1_init_19 rfl ?_
  refine ag_iconst (v := (-1)) X.1 dX1_init_20 (by decide) ?_
  refine ac_putI X zf_RX1_21 rfl rfl rfl rfl rfl (Nat.le_of_ble_eq_true rfl) (Nat.le_of_ble_eq_true rfl) dX1_init_21 (I' := iT 100) (wrF_succ (t := 99) rfl) ?_
  refine ag_aload_n X.1 0 dX1_init_24 rfl ?_
  refine ag_iconst (v := 0) X.1 dX1_init_25 (by decide) ?_
  refine ac_putI X zf_RX1_24 rfl rfl rfl rfl rfl (Nat.le_of_ble_eq_true rfl) (Nat.le_of_ble_eq_true rfl) dX1_init_26 (I' := iT 101) (wrF_succ (t := 100) rfl) ?_
  refine ag_aload_n X.1 0 dX1_init_29 rfl ?_
  refine ag_bipush (v := 16) X.1 dX1_init_30 (by decide) ?_
  refine ac_newi (N := 16) (n1 := 44) (cs1 := 1) (sl1 := 16) X zv_85 rfl (Nat.le_of_ble_eq_true rfl) (wrF_fresh (by decide +kernel)) (by decide) (by decide) (Nat.le_of_ble_eq_true rfl) (Nat.le_of_ble_eq_true rfl) (Nat.le_of_ble_eq_true rfl) dX1_init_32 rfl rfl rfl ?_
  refine ac_putF X zf_RX1_27 rfl rfl rfl (by decide) (fun _ => rfl) (fun _ => rfl) rfl (Nat.le_of_ble_eq_true rfl) (Nat.le_of_ble_eq_true rfl) dX1_init_34 (rf' := rT 41) (wrF_succ (t := 40) rfl) ?_
  exact ac_ret X E (Nat.le_of_ble_eq_true rfl) dX1_init_37
set_option maxRecDepth 100000 in
theorem q_45 {l : Launch} {g : zG} : CallC l g 1 1 16 M_X1_init [vR 45] 45 (rT 42) (iT 101) 46 (rT 43) (iT 106) := by
  refine ac_entry (by decide) (Nat.le_of_ble_eq_true rfl) rfl rfl (fun k hk hn0 (X : zXc k g cX1_init RX1 1 none 1 1 16) E => ?_)
  show AG k g (WC g 45 (rT 42) (iT 101)) 0 0 1 0 [(0, vR 45)] []
  subst hk
  refine ag_aload_n X.1 0 dX1_init_0 rfl ?_
  refine ac_objinit X (by decide) zv_56 zv_42 zv_43 (by decide) (Nat.le_of_ble_eq_true rfl) dX1_init_1 ?_
  refine ag_aload_n X.1 0 dX1_init_4 rfl ?_
  refine ag_iconst (v := 0) X.1 dX1_init_5 (by decide) ?_
  refine ac_putI X zf_RX1_9 rfl rfl rfl rfl rfl (Nat.le_of_ble_eq_true rfl) (Nat.le_of_ble_eq_true rfl) dX1_init_6 (I' := iT 102) (wrF_succ (t := 101) rfl) ?_
  refine ag_aload_n X.1 0 dX1_init_9 rfl ?_
  refine ag_iconst (v := 0) X.1 dX1_init_10 (by decide) ?_
  refine ac_putI X zf_RX1_15 rfl rfl rfl rfl rfl (Nat.le_of_ble_eq_true rfl) (Nat.le_of_ble_eq_true rfl) dX1_init_11 (I' := iT 103) (wrF_succ (t := 102) rfl) ?_
  refine ag_aload_n X.1 0 dX1_init_14 rfl ?_
  refine ag_iconst (v := 0) X.1 dX1_init_15 (by decide) ?_
  refine ac_putI X zf_RX1_18 rfl rfl rfl rfl rfl (Nat.le_of_ble_eq_true rfl) (Nat.le_of_ble_eq_true rfl) dX1_init_16 (I' := iT 104) (wrF_succ (t := 103) rfl) ?_
  refine ag_aload_n X.1 0 dX1_init_19 rfl ?_
  refine ag_iconst (v := (-1)) X.1 dX1_init_20 (by decide) ?_
  refine ac_putI X zf_RX1_21 rfl rfl rfl rfl rfl (Nat.le_of_ble_eq_true rfl) (Nat.le_of_ble_eq_true rfl) dX1_init_21 (I' := iT 105) (wrF_succ (t := 104) rfl) ?_
  refine ag_aload_n X.1 0 dX1_init_24 rfl ?_
  refine ag_iconst (v := 0) X.1 dX1_init_25 (by decide) ?_
  refine ac_putI X zf_RX1_24 rfl rfl rfl rfl rfl (Nat.le_of_ble_eq_true rfl) (Nat.le_of_ble_eq_true rfl) dX1_init_26 (I' := iT 106) (wrF_succ (t := 105) rfl) ?_
  refine ag_aload_n X.1 0 dX1_init_29 rfl ?_
  refine ag_bipush (v := 16) X.1 dX1_init_30 (by decide) ?_
  refine ac_newi (N := 16) (n1 := 46) (cs1 := 1) (sl1 := 16) X zv_85 rfl (Nat.le_of_ble_eq_true rfl) (wrF_fresh (by decide +kernel)) (by decide) (by decide) (Nat.le_of_ble_eq_true rfl) (Nat.le_of_ble_eq_true rfl) (Nat.le_of_ble_eq_true rfl) dX1_init_32 rfl rfl rfl ?_
  refine ac_putF X zf_RX1_27 rfl rfl rfl (by decide) (fun _ => rfl) (fun _ => rfl) rfl (Nat.le_of_ble_eq_true rfl) (Nat.le_of_ble_eq_true rfl) dX1_init_34 (rf' := rT 43) (wrF_succ (t := 42) rfl) ?_
  exact ac_ret X E (Nat.le_of_ble_eq_true rfl) dX1_init_37
set_option maxRecDepth 100000 in
theorem q_47 {l : Launch} {g : zG} : CallC l g 1 1 16 M_X1_init [vR 47] 47 (rT 44) (iT 106) 48 (rT 45) (iT 111) := by
  refine ac_entry (by decide) (Nat.le_of_ble_eq_true rfl) rfl rfl (fun k hk hn0 (X : zXc k g cX1_init RX1 1 none 1 1 16) E => ?_)
  show AG k g (WC g 47 (rT 44) (iT 106)) 0 0 1 0 [(0, vR 47)] []
  subst hk
  refine ag_aload_n X.1 0 dX1_init_0 rfl ?_
  refine ac_objinit X (by decide) zv_56 zv_42 zv_43 (by decide) (Nat.le_of_ble_eq_true rfl) dX1_init_1 ?_
  refine ag_aload_n X.1 0 dX1_init_4 rfl ?_
  refine ag_iconst (v := 0) X.1 dX1_init_5 (by decide) ?_
  refine ac_putI X zf_RX1_9 rfl rfl rfl rfl rfl (Nat.le_of_ble_eq_true rfl) (Nat.le_of_ble_eq_true rfl) dX1_init_6 (I' := iT 107) (wrF_succ (t := 106) rfl) ?_
  refine ag_aload_n X.1 0 dX1_init_9 rfl ?_
  refine ag_iconst (v := 0) X.1 dX1_init_10 (by decide) ?_
  refine ac_putI X zf_RX1_15 rfl rfl rfl rfl rfl (Nat.le_of_ble_eq_true rfl) (Nat.le_of_ble_eq_true rfl) dX1_init_11 (I' := iT 108) (wrF_succ (t := 107) rfl) ?_
  refine ag_aload_n X.1 0 dX1_init_14 rfl ?_
  refine ag_iconst (v := 0) X.1 dX1_init_15 (by decide) ?_
  refine ac_putI X zf_RX1_18 rfl rfl rfl rfl rfl (Nat.le_of_ble_eq_true rfl) (Nat.le_of_ble_eq_true rfl) dX1_init_16 (I' := iT 109) (wrF_succ (t := 108) rfl) ?_
  refine ag_aload_n X.1 0 dX1_init_19 rfl ?_
  refine ag_iconst (v := (-1)) X.1 dX1_init_20 (by decide) ?_
  refine ac_putI X zf_RX1_21 rfl rfl rfl rfl rfl (Nat.le_of_ble_eq_true rfl) (Nat.le_of_ble_eq_true rfl) dX1_init_21 (I' := iT 110) (wrF_succ (t := 109) rfl) ?_
  refine ag_aload_n X.1 0 dX1_init_24 rfl ?_
  refine ag_iconst (v := 0) X.1 dX1_init_25 (by decide) ?_
  refine ac_putI X zf_RX1_24 rfl rfl rfl rfl rfl (Nat.le_of_ble_eq_true rfl) (Nat.le_of_ble_eq_true rfl) dX1_init_26 (I' := iT 111) (wrF_succ (t := 110) rfl) ?_
  refine ag_aload_n X.1 0 dX1_init_29 rfl ?_
  refine ag_bipush (v := 16) X.1 dX1_init_30 (by decide) ?_
  refine ac_newi (N := 16) (n1 := 48) (cs1 := 1) (sl1 := 16) X zv_85 rfl (Nat.le_of_ble_eq_true rfl) (wrF_fresh (by decide +kernel)) (by decide) (by decide) (Nat.le_of_ble_eq_true rfl) (Nat.le_of_ble_eq_true rfl) (Nat.le_of_ble_eq_true rfl) dX1_init_32 rfl rfl rfl ?_
  refine ac_putF X zf_RX1_27 rfl rfl rfl (by decide) (fun _ => rfl) (fun _ => rfl) rfl (Nat.le_of_ble_eq_true rfl) (Nat.le_of_ble_eq_true rfl) dX1_init_34 (rf' := rT 45) (wrF_succ (t := 44) rfl) ?_
  exact ac_ret X E (Nat.le_of_ble_eq_true rfl) dX1_init_37
set_option maxRecDepth 100000 in
theorem q_49 {l : Launch} {g : zG} : CallC l g 1 1 16 M_X1_init [vR 49] 49 (rT 46) (iT 111) 50 (rT 47) (iT 116) := by
  refine ac_entry (by decide) (Nat.le_of_ble_eq_true rfl) rfl rfl (fun k hk hn0 (X : zXc k g cX1_init RX1 1 none 1 1 16) E => ?_)
  show AG k g (WC g 49 (rT 46) (iT 111)) 0 0 1 0 [(0, vR 49)] []
  subst hk
  refine ag_aload_n X.1 0 dX1_init_0 rfl ?_
  refine ac_objinit X (by decide) zv_56 zv_42 zv_43 (by decide) (Nat.le_of_ble_eq_true rfl) dX1_init_1 ?_
  refine ag_aload_n X.1 0 dX1_init_4 rfl ?_
  refine ag_iconst (v := 0) X.1 dX1_init_5 (by decide) ?_
  refine ac_putI X zf_RX1_9 rfl rfl rfl rfl rfl (Nat.le_of_ble_eq_true rfl) (Nat.le_of_ble_eq_true rfl) dX1_init_6 (I' := iT 112) (wrF_succ (t := 111) rfl) ?_
  refine ag_aload_n X.1 0 dX1_init_9 rfl ?_
  refine ag_iconst (v := 0) X.1 dX1_init_10 (by decide) ?_
  refine ac_putI X zf_RX1_15 rfl rfl rfl rfl rfl (Nat.le_of_ble_eq_true rfl) (Nat.le_of_ble_eq_true rfl) dX1_init_11 (I' := iT 113) (wrF_succ (t := 112) rfl) ?_
  refine ag_aload_n X.1 0 dX1_init_14 rfl ?_
  refine ag_iconst (v := 0) X.1 dX1_init_15 (by decide) ?_
  refine ac_putI X zf_RX1_18 rfl rfl rfl rfl rfl (Nat.le_of_ble_eq_true rfl) (Nat.le_of_ble_eq_true rfl) dX1_init_16 (I' := iT 114) (wrF_succ (t := 113) rfl) ?_
  refine ag_aload_n X.1 0 dX1_init_19 rfl ?_
  refine ag_iconst (v := (-1)) X.1 dX1_init_20 (by decide) ?_
  refine ac_putI X zf_RX1_21 rfl rfl rfl rfl rfl (Nat.le_of_ble_eq_true rfl) (Nat.le_of_ble_eq_true rfl) dX1_init_21 (I' := iT 115) (wrF_succ (t := 114) rfl) ?_
  refine ag_aload_n X.1 0 dX1_init_24 rfl ?_
  refine ag_iconst (v := 0) X.1 dX1_init_25 (by decide) ?_
  refine ac_putI X zf_RX1_24 rfl rfl rfl rfl rfl (Nat.le_of_ble_eq_true rfl) (Nat.le_of_ble_eq_true rfl) dX1_init_26 (I' := iT 116) (wrF_succ (t := 115) rfl) ?_
  refine ag_aload_n X.1 0 dX1_init_29 rfl ?_
  refine ag_bipush (v := 16) X.1 dX1_init_30 (by decide) ?_
  refine ac_newi (N := 16) (n1 := 50) (cs1 := 1) (sl1 := 16) X zv_85 rfl (Nat.le_of_ble_eq_true rfl) (wrF_fresh (by decide +kernel)) (by decide) (by decide) (Nat.le_of_ble_eq_true rfl) (Nat.le_of_ble_eq_true rfl) (Nat.le_of_ble_eq_true rfl) dX1_init_32 rfl rfl rfl ?_
  refine ac_putF X zf_RX1_27 rfl rfl rfl (by decide) (fun _ => rfl) (fun _ => rfl) rfl (Nat.le_of_ble_eq_true rfl) (Nat.le_of_ble_eq_true rfl) dX1_init_34 (rf' := rT 47) (wrF_succ (t := 46) rfl) ?_
  exact ac_ret X E (Nat.le_of_ble_eq_true rfl) dX1_init_37
set_option maxRecDepth 100000 in
theorem q_51 {l : Launch} {g : zG} : CallC l g 1 1 16 M_X1_init [vR 51] 51 (rT 48) (iT 116) 52 (rT 49) (iT 121) := by
  refine ac_entry (by decide) (Nat.le_of_ble_eq_true rfl) rfl rfl (fun k hk hn0 (X : zXc k g cX1_init RX1 1 none 1 1 16) E => ?_)
  show AG k g (WC g 51 (rT 48) (iT 116)) 0 0 1 0 [(0, vR 51)] []
  subst hk
  refine ag_aload_n X.1 0 dX1_init_0 rfl ?_
  refine ac_objinit X (by decide) zv_56 zv_42 zv_43 (by decide) (Nat.le_of_ble_eq_true rfl) dX1_init_1 ?_
  refine ag_aload_n X.1 0 dX1_init_4 rfl ?_
  refine ag_iconst (v := 0) X.1 dX1_init_5 (by decide) ?_
  refine ac_putI X zf_RX1_9 rfl rfl rfl rfl rfl (Nat.le_of_ble_eq_true rfl) (Nat.le_of_ble_eq_true rfl) dX1_init_6 (I' := iT 117) (wrF_succ (t := 116) rfl) ?_
  refine ag_aload_n X.1 0 dX1_init_9 rfl ?_
  refine ag_iconst (v := 0) X.1 dX1_init_10 (by decide) ?_
  refine ac_putI X zf_RX1_15 rfl rfl rfl rfl rfl (Nat.le_of_ble_eq_true rfl) (Nat.le_of_ble_eq_true rfl) dX1_init_11 (I' := iT 118) (wrF_succ (t := 117) rfl) ?_
  refine ag_aload_n X.1 0 dX1_init_14 rfl ?_
  refine ag_iconst (v := 0) X.1 dX1_init_15 (by decide) ?_
  refine ac_putI X zf_RX1_18 rfl rfl rfl rfl rfl (Nat.le_of_ble_eq_true rfl) (Nat.le_of_ble_eq_true rfl) dX1_init_16 (I' := iT 119) (wrF_succ (t := 118) rfl) ?_
  refine ag_aload_n X.1 0 dX1_init_19 rfl ?_
  refine ag_iconst (v := (-1)) X.1 dX1_init_20 (by decide) ?_
  refine ac_putI X zf_RX1_21 rfl rfl rfl rfl rfl (Nat.le_of_ble_eq_true rfl) (Nat.le_of_ble_eq_true rfl) dX1_init_21 (I' := iT 120) (wrF_succ (t := 119) rfl) ?_
  refine ag_aload_n X.1 0 dX1_init_24 rfl ?_
  refine ag_iconst (v := 0) X.1 dX1_init_25 (by decide) ?_
  refine ac_putI X zf_RX1_24 rfl rfl rfl rfl rfl (Nat.le_of_ble_eq_true rfl) (Nat.le_of_ble_eq_true rfl) dX1_init_26 (I' := iT 121) (wrF_succ (t := 120) rfl) ?_
  refine ag_aload_n X.1 0 dX1_init_29 rfl ?_
  refine ag_bipush (v := 16) X.1 dX1_init_30 (by decide) ?_
  refine ac_newi (N := 16) (n1 := 52) (cs1 := 1) (sl1 := 16) X zv_85 rfl (Nat.le_of_ble_eq_true rfl) (wrF_fresh (by decide +kernel)) (by decide) (by decide) (Nat.le_of_ble_eq_true rfl) (Nat.le_of_ble_eq_true rfl) (Nat.le_of_ble_eq_true rfl) dX1_init_32 rfl rfl rfl ?_
  refine ac_putF X zf_RX1_27 rfl rfl rfl (by decide) (fun _ => rfl) (fun _ => rfl) rfl (Nat.le_of_ble_eq_true rfl) (Nat.le_of_ble_eq_true rfl) dX1_init_34 (rf' := rT 49) (wrF_succ (t := 48) rfl) ?_
  exact ac_ret X E (Nat.le_of_ble_eq_true rfl) dX1_init_37
set_option maxRecDepth 100000 in
theorem q_53 {l : Launch} {g : zG} : CallC l g 1 1 16 M_X1_init [vR 53] 53 (rT 50) (iT 121) 54 (rT 51) (iT 126) := by
  refine ac_entry (by decide) (Nat.le_of_ble_eq_true rfl) rfl rfl (fun k hk hn0 (X : zXc k g cX1_init RX1 1 none 1 1 16) E => ?_)
  show AG k g (WC g 53 (rT 50) (iT 121)) 0 0 1 0 [(0, vR 53)] []
  subst hk
  refine ag_aload_n X.1 0 dX1_init_0 rfl ?_
  refine ac_objinit X (by decide) zv_56 zv_42 zv_43 (by decide) (Nat.le_of_ble_eq_true rfl) dX1_init_1 ?_
  refine ag_aload_n X.1 0 dX1_init_4 rfl ?_
  refine ag_iconst (v := 0) X.1 dX1_init_5 (by decide) ?_
  refine ac_putI X zf_RX1_9 rfl rfl rfl rfl rfl (Nat.le_of_ble_eq_true rfl) (Nat.le_of_ble_eq_true rfl) dX1_init_6 (I' := iT 122) (wrF_succ (t := 121) rfl) ?_
  refine ag_aload_n X.1 0 dX1_init_9 rfl ?_
  refine ag_iconst (v := 0) X.1 dX1_init_10 (by decide) ?_
  refine ac_putI X zf_RX1_15 rfl rfl rfl rfl rfl (Nat.le_of_ble_eq_true rfl) (Nat.le_of_ble_eq_true rfl) dX1_init_11 (I' := iT 123) (wrF_succ (t := 122) rfl) ?_
  refine ag_aload_n X.1 0 dX1_init_14 rfl ?_
  refine ag_iconst (v := 0) X.1 dX1_init_15 (by decide) ?_
  refine ac_putI X zf_RX1_18 rfl rfl rfl rfl rfl (Nat.le_of_ble_eq_true rfl) (Nat.le_of_ble_eq_true rfl) dX1_init_16 (I' := iT 124) (wrF_succ (t := 123) rfl) ?_
  refine ag_aload_n X.1 0 dX1_init_19 rfl ?_
  refine ag_iconst (v := (-1)) X.1 dX1_init_20 (by decide) ?_
  refine ac_putI X zf_RX1_21 rfl rfl rfl rfl rfl (Nat.le_of_ble_eq_true rfl) (Nat.le_of_ble_eq_true rfl) dX1_init_21 (I' := iT 125) (wrF_succ (t := 124) rfl) ?_
  refine ag_aload_n X.1 0 dX1_init_24 rfl ?_
  refine ag_iconst (v := 0) X.1 dX1_init_25 (by decide) ?_
  refine ac_putI X zf_RX1_24 rfl rfl rfl rfl rfl (Nat.le_of_ble_eq_true rfl) (Nat.le_of_ble_eq_true rfl) dX1_init_26 (I' := iT 126) (wrF_succ (t := 125) rfl) ?_
  refine ag_aload_n X.1 0 dX1_init_29 rfl ?_
  refine ag_bipush (v := 16) X.1 dX1_init_30 (by decide) ?_
  refine ac_newi (N := 16) (n1 := 54) (cs1 := 1) (sl1 := 16) X zv_85 rfl (Nat.le_of_ble_eq_true rfl) (wrF_fresh (by decide +kernel)) (by decide) (by decide) (Nat.le_of_ble_eq_true rfl) (Nat.le_of_ble_eq_true rfl) (Nat.le_of_ble_eq_true rfl) dX1_init_32 rfl rfl rfl ?_
  refine ac_putF X zf_RX1_27 rfl rfl rfl (by decide) (fun _ => rfl) (fun _ => rfl) rfl (Nat.le_of_ble_eq_true rfl) (Nat.le_of_ble_eq_true rfl) dX1_init_34 (rf' := rT 51) (wrF_succ (t := 50) rfl) ?_
  exact ac_ret X E (Nat.le_of_ble_eq_true rfl) dX1_init_37
set_option maxRecDepth 100000 in
theorem q_55 {l : Launch} {g : zG} : CallC l g 1 1 16 M_X1_init [vR 55] 55 (rT 52) (iT 126) 56 (rT 53) (iT 131) := by
  refine ac_entry (by decide) (Nat.le_of_ble_eq_true rfl) rfl rfl (fun k hk hn0 (X : zXc k g cX1_init RX1 1 none 1 1 16) E => ?_)
  show AG k g (WC g 55 (rT 52) (iT 126)) 0 0 1 0 [(0, vR 55)] []
  subst hk
  refine ag_aload_n X.1 0 dX1_init_0 rfl ?_
  refine ac_objinit X (by decide) zv_56 zv_42 zv_43 (by decide) (Nat.le_of_ble_eq_true rfl) dX1_init_1 ?_
  refine ag_aload_n X.1 0 dX1_init_4 rfl ?_
  refine ag_iconst (v := 0) X.1 dX1_init_5 (by decide) ?_
  refine ac_putI X zf_RX1_9 rfl rfl rfl rfl rfl (Nat.le_of_ble_eq_true rfl) (Nat.le_of_ble_eq_true rfl) dX1_init_6 (I' := iT 127) (wrF_succ (t := 126) rfl) ?_
  refine ag_aload_n X.1 0 dX1_init_9 rfl ?_
  refine ag_iconst (v := 0) X.1 dX1_init_10 (by decide) ?_
  refine ac_putI X zf_RX1_15 rfl rfl rfl rfl rfl (Nat.le_of_ble_eq_true rfl) (Nat.le_of_ble_eq_true rfl) dX1_init_11 (I' := iT 128) (wrF_succ (t := 127) rfl) ?_
  refine ag_aload_n X.1 0 dX1_init_14 rfl ?_
  refine ag_iconst (v := 0) X.1 dX1_init_15 (by decide) ?_
  refine ac_putI X zf_RX1_18 rfl rfl rfl rfl rfl (Nat.le_of_ble_eq_true rfl) (Nat.le_of_ble_eq_true rfl) dX1_init_16 (I' := iT 129) (wrF_succ (t := 128) rfl) ?_
  refine ag_aload_n X.1 0 dX1_init_19 rfl ?_
  refine ag_iconst (v := (-1)) X.1 dX1_init_20 (by decide) ?_
  refine ac_putI X zf_RX1_21 rfl rfl rfl rfl rfl (Nat.le_of_ble_eq_true rfl) (Nat.le_of_ble_eq_true rfl) dX1_init_21 (I' := iT 130) (wrF_succ (t := 129) rfl) ?_
  refine ag_aload_n X.1 0 dX1_init_24 rfl ?_
  refine ag_iconst (v := 0) X.1 dX1_init_25 (by decide) ?_
  refine ac_putI X zf_RX1_24 rfl rfl rfl rfl rfl (Nat.le_of_ble_eq_true rfl) (Nat.le_of_ble_eq_true rfl) dX1_init_26 (I' := iT 131) (wrF_succ (t := 130) rfl) ?_
  refine ag_aload_n X.1 0 dX1_init_29 rfl ?_
  refine ag_bipush (v := 16) X.1 dX1_init_30 (by decide) ?_
  refine ac_newi (N := 16) (n1 := 56) (cs1 := 1) (sl1 := 16) X zv_85 rfl (Nat.le_of_ble_eq_true rfl) (wrF_fresh (by decide +kernel)) (by decide) (by decide) (Nat.le_of_ble_eq_true rfl) (Nat.le_of_ble_eq_true rfl) (Nat.le_of_ble_eq_true rfl) dX1_init_32 rfl rfl rfl ?_
  refine ac_putF X zf_RX1_27 rfl rfl rfl (by decide) (fun _ => rfl) (fun _ => rfl) rfl (Nat.le_of_ble_eq_true rfl) (Nat.le_of_ble_eq_true rfl) dX1_init_34 (rf' := rT 53) (wrF_succ (t := 52) rfl) ?_
  exact ac_ret X E (Nat.le_of_ble_eq_true rfl) dX1_init_37
set_option maxRecDepth 100000 in
theorem q_57 {l : Launch} {g : zG} : CallC l g 1 1 16 M_X1_init [vR 57] 57 (rT 54) (iT 131) 58 (rT 55) (iT 136) := by
  refine ac_entry (by decide) (Nat.le_of_ble_eq_true rfl) rfl rfl (fun k hk hn0 (X : zXc k g cX1_init RX1 1 none 1 1 16) E => ?_)
  show AG k g (WC g 57 (rT 54) (iT 131)) 0 0 1 0 [(0, vR 57)] []
  subst hk
  refine ag_aload_n X.1 0 dX1_init_0 rfl ?_
  refine ac_objinit X (by decide) zv_56 zv_42 zv_43 (by decide) (Nat.le_of_ble_eq_true rfl) dX1_init_1 ?_
  refine ag_aload_n X.1 0 dX1_init_4 rfl ?_
  refine ag_iconst (v := 0) X.1 dX1_init_5 (by decide) ?_
  refine ac_putI X zf_RX1_9 rfl rfl rfl rfl rfl (Nat.le_of_ble_eq_true rfl) (Nat.le_of_ble_eq_true rfl) dX1_init_6 (I' := iT 132) (wrF_succ (t := 131) rfl) ?_
  refine ag_aload_n X.1 0 dX1_init_9 rfl ?_
  refine ag_iconst (v := 0) X.1 dX1_init_10 (by decide) ?_
  refine ac_putI X zf_RX1_15 rfl rfl rfl rfl rfl (Nat.le_of_ble_eq_true rfl) (Nat.le_of_ble_eq_true rfl) dX1_init_11 (I' := iT 133) (wrF_succ (t := 132) rfl) ?_
  refine ag_aload_n X.1 0 dX1_init_14 rfl ?_
  refine ag_iconst (v := 0) X.1 dX1_init_15 (by decide) ?_
  refine ac_putI X zf_RX1_18 rfl rfl rfl rfl rfl (Nat.le_of_ble_eq_true rfl) (Nat.le_of_ble_eq_true rfl) dX1_init_16 (I' := iT 134) (wrF_succ (t := 133) rfl) ?_
  refine ag_aload_n X.1 0 dX1_init_19 rfl ?_
  refine ag_iconst (v := (-1)) X.1 dX1_init_20 (by decide) ?_
  refine ac_putI X zf_RX1_21 rfl rfl rfl rfl rfl (Nat.le_of_ble_eq_true rfl) (Nat.le_of_ble_eq_true rfl) dX1_init_21 (I' := iT 135) (wrF_succ (t := 134) rfl) ?_
  refine ag_aload_n X.1 0 dX1_init_24 rfl ?_
  refine ag_iconst (v := 0) X.1 dX1_init_25 (by decide) ?_
  refine ac_putI X zf_RX1_24 rfl rfl rfl rfl rfl (Nat.le_of_ble_eq_true rfl) (Nat.le_of_ble_eq_true rfl) dX1_init_26 (I' := iT 136) (wrF_succ (t := 135) rfl) ?_
  refine ag_aload_n X.1 0 dX1_init_29 rfl ?_
  refine ag_bipush (v := 16) X.1 dX1_init_30 (by decide) ?_
  refine ac_newi (N := 16) (n1 := 58) (cs1 := 1) (sl1 := 16) X zv_85 rfl (Nat.le_of_ble_eq_true rfl) (wrF_fresh (by decide +kernel)) (by decide) (by decide) (Nat.le_of_ble_eq_true rfl) (Nat.le_of_ble_eq_true rfl) (Nat.le_of_ble_eq_true rfl) dX1_init_32 rfl rfl rfl ?_
  refine ac_putF X zf_RX1_27 rfl rfl rfl (by decide) (fun _ => rfl) (fun _ => rfl) rfl (Nat.le_of_ble_eq_true rfl) (Nat.le_of_ble_eq_true rfl) dX1_init_34 (rf' := rT 55) (wrF_succ (t := 54) rfl) ?_
  exact ac_ret X E (Nat.le_of_ble_eq_true rfl) dX1_init_37
set_option maxRecDepth 100000 in
theorem q_40 {l : Launch} {g : zG} : CallC l g 2 18 192 M_X4_init [vR 40] 40 (rT 38) (iT 96) 58 (rT 56) (iT 144) := by
  refine ac_entry (by decide) (Nat.le_of_ble_eq_true rfl) rfl rfl (fun k hk hn0 (X : zXc k g cX4_init RX4 2 none 2 18 192) E => ?_)
  show AG k g (WC g 40 (rT 38) (iT 96)) 0 0 2 0 [(0, vR 40)] []
  subst hk
  refine ag_aload_n X.1 0 dX4_init_0 rfl ?_
  refine ac_objinit X (by decide) zv_49 zv_42 zv_43 (by decide) (Nat.le_of_ble_eq_true rfl) dX4_init_1 ?_
  refine ag_aload_n X.1 0 dX4_init_4 rfl ?_
  refine ag_bipush (v := 8) X.1 dX4_init_5 (by decide) ?_
  refine ac_newi (N := 8) (n1 := 41) (cs1 := 1) (sl1 := 8) X zv_85 rfl (Nat.le_of_ble_eq_true rfl) (wrF_fresh (by decide +kernel)) (by decide) (by decide) (Nat.le_of_ble_eq_true rfl) (Nat.le_of_ble_eq_true rfl) (Nat.le_of_ble_eq_true rfl) dX4_init_7 rfl rfl rfl ?_
  refine ac_putF X zf_RX4_9 rfl rfl rfl (by decide) (fun _ => rfl) (fun _ => rfl) rfl (Nat.le_of_ble_eq_true rfl) (Nat.le_of_ble_eq_true rfl) dX4_init_9 (rf' := rT 39) (wrF_succ (t := 38) rfl) ?_
  refine ag_aload_n X.1 0 dX4_init_12 rfl ?_
  refine ag_bipush (v := 8) X.1 dX4_init_13 (by decide) ?_
  refine ac_newq (N := 8) (n1 := 42) (cs1 := 2) (sl1 := 16) X (Or.inl rfl) rfl zv_50 (fun h => h.1) rfl (Nat.le_of_ble_eq_true rfl) (wrF_fresh (by decide +kernel)) (by decide) (by decide) (Nat.le_of_ble_eq_true rfl) (Nat.le_of_ble_eq_true rfl) (Nat.le_of_ble_eq_true rfl) dX4_init_15 rfl rfl rfl ?_
  refine ac_putF X zf_RX4_17 rfl rfl rfl (by decide) (fun _ => rfl) (fun _ => rfl) rfl (Nat.le_of_ble_eq_true rfl) (Nat.le_of_ble_eq_true rfl) dX4_init_18 (rf' := rT 40) (wrF_succ (t := 39) rfl) ?_
  refine ag_iconst (v := 0) X.1 dX4_init_21 (by decide) ?_
  refine ag_istore_n X.1 dX4_init_22 (by decide) rfl ?_
  refine ag_iload_n X.1 0 dX4_init_23 rfl ?_
  refine ag_aload_n X.1 1 dX4_init_24 rfl ?_
  refine ac_getR (r := 42) X zf_RX4_17 rfl rfl (Nat.le_of_ble_eq_true rfl) (by decide +kernel) dX4_init_25 ?_
  refine ac_alenq (N := 8) (v := 8) X (Or.inl rfl) rfl (Nat.le_of_ble_eq_true rfl) (Nat.le_of_ble_eq_true rfl) (by decide) dX4_init_28 ?_
  refine ag_icmp_ge X.1 51 dX4_init_29 rfl (fun h => absurd h (by decide)) (fun _ => ?_)
  refine ag_aload_n X.1 1 dX4_init_32 rfl ?_
  refine ac_getR (r := 42) X zf_RX4_17 rfl rfl (Nat.le_of_ble_eq_true rfl) (by decide +kernel) dX4_init_33 ?_
  refine ag_iload_n X.1 0 dX4_init_36 rfl ?_
  refine ac_new (n1 := 43) (cs1 := 3) (sl1 := 22) X zcl_1 zv_50 zv_52 zw_25 rfl (Nat.le_of_ble_eq_true rfl) zdf_1 (wrF_fresh (by decide +kernel)) (wrF_fresh (by decide +kernel)) (Nat.le_of_ble_eq_true rfl) (Nat.le_of_ble_eq_true rfl) dX4_init_37 rfl rfl rfl ?_
  refine ag_dup X.1 dX4_init_40 rfl ?_
  refine ac_call (recv := 43) (as := []) (st := [vR 43, vI 0, vR 42]) (cs1 := 4) (sl1 := 38) X qm_X1 zv_53 q_43 (by decide) (Nat.le_of_ble_eq_true rfl) rfl rfl (Nat.le_of_ble_eq_true rfl) (Nat.le_of_ble_eq_true rfl) (Nat.le_of_ble_eq_true rfl) (Nat.le_of_ble_eq_true rfl) rfl rfl dX4_init_41 ?_
  refine ac_aast (j := 0) X (Or.inl rfl) rfl zcl_1 rfl (Nat.le_of_ble_eq_true rfl) (Nat.le_of_ble_eq_true rfl) rfl (Nat.le_of_ble_eq_true rfl) (vin_c (by decide +kernel)) (by decide) dX4_init_44 (rf' := rT 42) (wrF_succ (t := 41) rfl) ?_
  refine ag_iinc (v := 1) X.1 0 dX4_init_45 rfl (by decide) (by decide) rfl ?_
  refine ag_goto X.1 23 dX4_init_48 rfl ?_
  refine ag_iload_n X.1 0 dX4_init_23 rfl ?_
  refine ag_aload_n X.1 1 dX4_init_24 rfl ?_
  refine ac_getR (r := 42) X zf_RX4_17 rfl rfl (Nat.le_of_ble_eq_true rfl) (by decide +kernel) dX4_init_25 ?_
  refine ac_alenq (N := 8) (v := 8) X (Or.inl rfl) rfl (Nat.le_of_ble_eq_true rfl) (Nat.le_of_ble_eq_true rfl) (by decide) dX4_init_28 ?_
  refine ag_icmp_ge X.1 51 dX4_init_29 rfl (fun h => absurd h (by decide)) (fun _ => ?_)
  refine ag_aload_n X.1 1 dX4_init_32 rfl ?_
  refine ac_getR (r := 42) X zf_RX4_17 rfl rfl (Nat.le_of_ble_eq_true rfl) (by decide +kernel) dX4_init_33 ?_
  refine ag_iload_n X.1 0 dX4_init_36 rfl ?_
  refine ac_new (n1 := 45) (cs1 := 5) (sl1 := 44) X zcl_1 zv_50 zv_52 zw_25 rfl (Nat.le_of_ble_eq_true rfl) zdf_1 (wrF_fresh (by decide +kernel)) (wrF_fresh (by decide +kernel)) (Nat.le_of_ble_eq_true rfl) (Nat.le_of_ble_eq_true rfl) dX4_init_37 rfl rfl rfl ?_
  refine ag_dup X.1 dX4_init_40 rfl ?_
  refine ac_call (recv := 45) (as := []) (st := [vR 45, vI 1, vR 42]) (cs1 := 6) (sl1 := 60) X qm_X1 zv_53 q_45 (by decide) (Nat.le_of_ble_eq_true rfl) rfl rfl (Nat.le_of_ble_eq_true rfl) (Nat.le_of_ble_eq_true rfl) (Nat.le_of_ble_eq_true rfl) (Nat.le_of_ble_eq_true rfl) rfl rfl dX4_init_41 ?_
  refine ac_aast (j := 1) X (Or.inl rfl) rfl zcl_1 rfl (Nat.le_of_ble_eq_true rfl) (Nat.le_of_ble_eq_true rfl) rfl (Nat.le_of_ble_eq_true rfl) (vin_c (by decide +kernel)) (by decide) dX4_init_44 (rf' := rT 44) (wrF_succ (t := 43) rfl) ?_
  refine ag_iinc (v := 2) X.1 0 dX4_init_45 rfl (by decide) (by decide) rfl ?_
  refine ag_goto X.1 23 dX4_init_48 rfl ?_
  refine ag_iload_n X.1 0 dX4_init_23 rfl ?_
  refine ag_aload_n X.1 1 dX4_init_24 rfl ?_
  refine ac_getR (r := 42) X zf_RX4_17 rfl rfl (Nat.le_of_ble_eq_true rfl) (by decide +kernel) dX4_init_25 ?_
  refine ac_alenq (N := 8) (v := 8) X (Or.inl rfl) rfl (Nat.le_of_ble_eq_true rfl) (Nat.le_of_ble_eq_true rfl) (by decide) dX4_init_28 ?_
  refine ag_icmp_ge X.1 51 dX4_init_29 rfl (fun h => absurd h (by decide)) (fun _ => ?_)
  refine ag_aload_n X.1 1 dX4_init_32 rfl ?_
  refine ac_getR (r := 42) X zf_RX4_17 rfl rfl (Nat.le_of_ble_eq_true rfl) (by decide +kernel) dX4_init_33 ?_
  refine ag_iload_n X.1 0 dX4_init_36 rfl ?_
  refine ac_new (n1 := 47) (cs1 := 7) (sl1 := 66) X zcl_1 zv_50 zv_52 zw_25 rfl (Nat.le_of_ble_eq_true rfl) zdf_1 (wrF_fresh (by decide +kernel)) (wrF_fresh (by decide +kernel)) (Nat.le_of_ble_eq_true rfl) (Nat.le_of_ble_eq_true rfl) dX4_init_37 rfl rfl rfl ?_
  refine ag_dup X.1 dX4_init_40 rfl ?_
  refine ac_call (recv := 47) (as := []) (st := [vR 47, vI 2, vR 42]) (cs1 := 8) (sl1 := 82) X qm_X1 zv_53 q_47 (by decide) (Nat.le_of_ble_eq_true rfl) rfl rfl (Nat.le_of_ble_eq_true rfl) (Nat.le_of_ble_eq_true rfl) (Nat.le_of_ble_eq_true rfl) (Nat.le_of_ble_eq_true rfl) rfl rfl dX4_init_41 ?_
  refine ac_aast (j := 2) X (Or.inl rfl) rfl zcl_1 rfl (Nat.le_of_ble_eq_true rfl) (Nat.le_of_ble_eq_true rfl) rfl (Nat.le_of_ble_eq_true rfl) (vin_c (by decide +kernel)) (by decide) dX4_init_44 (rf' := rT 46) (wrF_succ (t := 45) rfl) ?_
  refine ag_iinc (v := 3) X.1 0 dX4_init_45 rfl (by decide) (by decide) rfl ?_
  refine ag_goto X.1 23 dX4_init_48 rfl ?_
  refine ag_iload_n X.1 0 dX4_init_23 rfl ?_
  refine ag_aload_n X.1 1 dX4_init_24 rfl ?_
  refine ac_getR (r := 42) X zf_RX4_17 rfl rfl (Nat.le_of_ble_eq_true rfl) (by decide +kernel) dX4_init_25 ?_
  refine ac_alenq (N := 8) (v := 8) X (Or.inl rfl) rfl (Nat.le_of_ble_eq_true rfl) (Nat.le_of_ble_eq_true rfl) (by decide) dX4_init_28 ?_
  refine ag_icmp_ge X.1 51 dX4_init_29 rfl (fun h => absurd h (by decide)) (fun _ => ?_)
  refine ag_aload_n X.1 1 dX4_init_32 rfl ?_
  refine ac_getR (r := 42) X zf_RX4_17 rfl rfl (Nat.le_of_ble_eq_true rfl) (by decide +kernel) dX4_init_33 ?_
  refine ag_iload_n X.1 0 dX4_init_36 rfl ?_
  refine ac_new (n1 := 49) (cs1 := 9) (sl1 := 88) X zcl_1 zv_50 zv_52 zw_25 rfl (Nat.le_of_ble_eq_true rfl) zdf_1 (wrF_fresh (by decide +kernel)) (wrF_fresh (by decide +kernel)) (Nat.le_of_ble_eq_true rfl) (Nat.le_of_ble_eq_true rfl) dX4_init_37 rfl rfl rfl ?_
  refine ag_dup X.1 dX4_init_40 rfl ?_
  refine ac_call (recv := 49) (as := []) (st := [vR 49, vI 3, vR 42]) (cs1 := 10) (sl1 := 104) X qm_X1 zv_53 q_49 (by decide) (Nat.le_of_ble_eq_true rfl) rfl rfl (Nat.le_of_ble_eq_true rfl) (Nat.le_of_ble_eq_true rfl) (Nat.le_of_ble_eq_true rfl) (Nat.le_of_ble_eq_true rfl) rfl rfl dX4_init_41 ?_
  refine ac_aast (j := 3) X (Or.inl rfl) rfl zcl_1 rfl (Nat.le_of_ble_eq_true rfl) (Nat.le_of_ble_eq_true rfl) rfl (Nat.le_of_ble_eq_true rfl) (vin_c (by decide +kernel)) (by decide) dX4_init_44 (rf' := rT 48) (wrF_succ (t := 47) rfl) ?_
  refine ag_iinc (v := 4) X.1 0 dX4_init_45 rfl (by decide) (by decide) rfl ?_
  refine ag_goto X.1 23 dX4_init_48 rfl ?_
  refine ag_iload_n X.1 0 dX4_init_23 rfl ?_
  refine ag_aload_n X.1 1 dX4_init_24 rfl ?_
  refine ac_getR (r := 42) X zf_RX4_17 rfl rfl (Nat.le_of_ble_eq_true rfl) (by decide +kernel) dX4_init_25 ?_
  refine ac_alenq (N := 8) (v := 8) X (Or.inl rfl) rfl (Nat.le_of_ble_eq_true rfl) (Nat.le_of_ble_eq_true rfl) (by decide) dX4_init_28 ?_
  refine ag_icmp_ge X.1 51 dX4_init_29 rfl (fun h => absurd h (by decide)) (fun _ => ?_)
  refine ag_aload_n X.1 1 dX4_init_32 rfl ?_
  refine ac_getR (r := 42) X zf_RX4_17 rfl rfl (Nat.le_of_ble_eq_true rfl) (by decide +kernel) dX4_init_33 ?_
  refine ag_iload_n X.1 0 dX4_init_36 rfl ?_
  refine ac_new (n1 := 51) (cs1 := 11) (sl1 := 110) X zcl_1 zv_50 zv_52 zw_25 rfl (Nat.le_of_ble_eq_true rfl) zdf_1 (wrF_fresh (by decide +kernel)) (wrF_fresh (by decide +kernel)) (Nat.le_of_ble_eq_true rfl) (Nat.le_of_ble_eq_true rfl) dX4_init_37 rfl rfl rfl ?_
  refine ag_dup X.1 dX4_init_40 rfl ?_
  refine ac_call (recv := 51) (as := []) (st := [vR 51, vI 4, vR 42]) (cs1 := 12) (sl1 := 126) X qm_X1 zv_53 q_51 (by decide) (Nat.le_of_ble_eq_true rfl) rfl rfl (Nat.le_of_ble_eq_true rfl) (Nat.le_of_ble_eq_true rfl) (Nat.le_of_ble_eq_true rfl) (Nat.le_of_ble_eq_true rfl) rfl rfl dX4_init_41 ?_
  refine ac_aast (j := 4) X (Or.inl rfl) rfl zcl_1 rfl (Nat.le_of_ble_eq_true rfl) (Nat.le_of_ble_eq_true rfl) rfl (Nat.le_of_ble_eq_true rfl) (vin_c (by decide +kernel)) (by decide) dX4_init_44 (rf' := rT 50) (wrF_succ (t := 49) rfl) ?_
  refine ag_iinc (v := 5) X.1 0 dX4_init_45 rfl (by decide) (by decide) rfl ?_
  refine ag_goto X.1 23 dX4_init_48 rfl ?_
  refine ag_iload_n X.1 0 dX4_init_23 rfl ?_
  refine ag_aload_n X.1 1 dX4_init_24 rfl ?_
  refine ac_getR (r := 42) X zf_RX4_17 rfl rfl (Nat.le_of_ble_eq_true rfl) (by decide +kernel) dX4_init_25 ?_
  refine ac_alenq (N := 8) (v := 8) X (Or.inl rfl) rfl (Nat.le_of_ble_eq_true rfl) (Nat.le_of_ble_eq_true rfl) (by decide) dX4_init_28 ?_
  refine ag_icmp_ge X.1 51 dX4_init_29 rfl (fun h => absurd h (by decide)) (fun _ => ?_)
  refine ag_aload_n X.1 1 dX4_init_32 rfl ?_
  refine ac_getR (r := 42) X zf_RX4_17 rfl rfl (Nat.le_of_ble_eq_true rfl) (by decide +kernel) dX4_init_33 ?_
  refine ag_iload_n X.1 0 dX4_init_36 rfl ?_
  refine ac_new (n1 := 53) (cs1 := 13) (sl1 := 132) X zcl_1 zv_50 zv_52 zw_25 rfl (Nat.le_of_ble_eq_true rfl) zdf_1 (wrF_fresh (by decide +kernel)) (wrF_fresh (by decide +kernel)) (Nat.le_of_ble_eq_true rfl) (Nat.le_of_ble_eq_true rfl) dX4_init_37 rfl rfl rfl ?_
  refine ag_dup X.1 dX4_init_40 rfl ?_
  refine ac_call (recv := 53) (as := []) (st := [vR 53, vI 5, vR 42]) (cs1 := 14) (sl1 := 148) X qm_X1 zv_53 q_53 (by decide) (Nat.le_of_ble_eq_true rfl) rfl rfl (Nat.le_of_ble_eq_true rfl) (Nat.le_of_ble_eq_true rfl) (Nat.le_of_ble_eq_true rfl) (Nat.le_of_ble_eq_true rfl) rfl rfl dX4_init_41 ?_
  refine ac_aast (j := 5) X (Or.inl rfl) rfl zcl_1 rfl (Nat.le_of_ble_eq_true rfl) (Nat.le_of_ble_eq_true rfl) rfl (Nat.le_of_ble_eq_true rfl) (vin_c (by decide +kernel)) (by decide) dX4_init_44 (rf' := rT 52) (wrF_succ (t := 51) rfl) ?_
  refine ag_iinc (v := 6) X.1 0 dX4_init_45 rfl (by decide) (by decide) rfl ?_
  refine ag_goto X.1 23 dX4_init_48 rfl ?_
  refine ag_iload_n X.1 0 dX4_init_23 rfl ?_
  refine ag_aload_n X.1 1 dX4_init_24 rfl ?_
  refine ac_getR (r := 42) X zf_RX4_17 rfl rfl (Nat.le_of_ble_eq_true rfl) (by decide +kernel) dX4_init_25 ?_
  refine ac_alenq (N := 8) (v := 8) X (Or.inl rfl) rfl (Nat.le_of_ble_eq_true rfl) (Nat.le_of_ble_eq_true rfl) (by decide) dX4_init_28 ?_
  refine ag_icmp_ge X.1 51 dX4_init_29 rfl (fun h => absurd h (by decide)) (fun _ => ?_)
  refine ag_aload_n X.1 1 dX4_init_32 rfl ?_
  refine ac_getR (r := 42) X zf_RX4_17 rfl rfl (Nat.le_of_ble_eq_true rfl) (by decide +kernel) dX4_init_33 ?_
  refine ag_iload_n X.1 0 dX4_init_36 rfl ?_
  refine ac_new (n1 := 55) (cs1 := 15) (sl1 := 154) X zcl_1 zv_50 zv_52 zw_25 rfl (Nat.le_of_ble_eq_true rfl) zdf_1 (wrF_fresh (by decide +kernel)) (wrF_fresh (by decide +kernel)) (Nat.le_of_ble_eq_true rfl) (Nat.le_of_ble_eq_true rfl) dX4_init_37 rfl rfl rfl ?_
  refine ag_dup X.1 dX4_init_40 rfl ?_
  refine ac_call (recv := 55) (as := []) (st := [vR 55, vI 6, vR 42]) (cs1 := 16) (sl1 := 170) X qm_X1 zv_53 q_55 (by decide) (Nat.le_of_ble_eq_true rfl) rfl rfl (Nat.le_of_ble_eq_true rfl) (Nat.le_of_ble_eq_true rfl) (Nat.le_of_ble_eq_true rfl) (Nat.le_of_ble_eq_true rfl) rfl rfl dX4_init_41 ?_
  refine ac_aast (j := 6) X (Or.inl rfl) rfl zcl_1 rfl (Nat.le_of_ble_eq_true rfl) (Nat.le_of_ble_eq_true rfl) rfl (Nat.le_of_ble_eq_true rfl) (vin_c (by decide +kernel)) (by decide) dX4_init_44 (rf' := rT 54) (wrF_succ (t := 53) rfl) ?_
  refine ag_iinc (v := 7) X.1 0 dX4_init_45 rfl (by decide) (by decide) rfl ?_
  refine ag_goto X.1 23 dX4_init_48 rfl ?_
  refine ag_iload_n X.1 0 dX4_init_23 rfl ?_
  refine ag_aload_n X.1 1 dX4_init_24 rfl ?_
  refine ac_getR (r := 42) X zf_RX4_17 rfl rfl (Nat.le_of_ble_eq_true rfl) (by decide +kernel) dX4_init_25 ?_
  refine ac_alenq (N := 8) (v := 8) X (Or.inl rfl) rfl (Nat.le_of_ble_eq_true rfl) (Nat.le_of_ble_eq_true rfl) (by decide) dX4_init_28 ?_
  refine ag_icmp_ge X.1 51 dX4_init_29 rfl (fun h => absurd h (by decide)) (fun _ => ?_)
  refine ag_aload_n X.1 1 dX4_init_32 rfl ?_
  refine ac_getR (r := 42) X zf_RX4_17 rfl rfl (Nat.le_of_ble_eq_true rfl) (by decide +kernel) dX4_init_33 ?_
  refine ag_iload_n X.1 0 dX4_init_36 rfl ?_
  refine ac_new (n1 := 57) (cs1 := 17) (sl1 := 176) X zcl_1 zv_50 zv_52 zw_25 rfl (Nat.le_of_ble_eq_true rfl) zdf_1 (wrF_fresh (by decide +kernel)) (wrF_fresh (by decide +kernel)) (Nat.le_of_ble_eq_true rfl) (Nat.le_of_ble_eq_true rfl) dX4_init_37 rfl rfl rfl ?_
  refine ag_dup X.1 dX4_init_40 rfl ?_
  refine ac_call (recv := 57) (as := []) (st := [vR 57, vI 7, vR 42]) (cs1 := 18) (sl1 := 192) X qm_X1 zv_53 q_57 (by decide) (Nat.le_of_ble_eq_true rfl) rfl rfl (Nat.le_of_ble_eq_true rfl) (Nat.le_of_ble_eq_true rfl) (Nat.le_of_ble_eq_true rfl) (Nat.le_of_ble_eq_true rfl) rfl rfl dX4_init_41 ?_
  refine ac_aast (j := 7) X (Or.inl rfl) rfl zcl_1 rfl (Nat.le_of_ble_eq_true rfl) (Nat.le_of_ble_eq_true rfl) rfl (Nat.le_of_ble_eq_true rfl) (vin_c (by decide +kernel)) (by decide) dX4_init_44 (rf' := rT 56) (wrF_succ (t := 55) rfl) ?_
  refine ag_iinc (v := 8) X.1 0 dX4_init_45 rfl (by decide) (by decide) rfl ?_
  refine ag_goto X.1 23 dX4_init_48 rfl ?_
  refine ag_iload_n X.1 0 dX4_init_23 rfl ?_
  refine ag_aload_n X.1 1 dX4_init_24 rfl ?_
  refine ac_getR (r := 42) X zf_RX4_17 rfl rfl (Nat.le_of_ble_eq_true rfl) (by decide +kernel) dX4_init_25 ?_
  refine ac_alenq (N := 8) (v := 8) X (Or.inl rfl) rfl (Nat.le_of_ble_eq_true rfl) (Nat.le_of_ble_eq_true rfl) (by decide) dX4_init_28 ?_
  refine ag_icmp_ge X.1 51 dX4_init_29 rfl (fun _ => ?_) (fun h => absurd (by decide) h)
  refine ag_aload_n X.1 1 dX4_init_51 rfl ?_
  refine ag_iconst (v := 0) X.1 dX4_init_52 (by decide) ?_
  refine ac_putI X zf_RX4_22 rfl rfl rfl rfl rfl (Nat.le_of_ble_eq_true rfl) (Nat.le_of_ble_eq_true rfl) dX4_init_53 (I' := iT 137) (wrF_succ (t := 136) rfl) ?_
  refine ag_aload_n X.1 1 dX4_init_56 rfl ?_
  refine ag_iconst (v := 0) X.1 dX4_init_57 (by decide) ?_
  refine ac_putI X zf_RX4_26 rfl rfl rfl rfl rfl (Nat.le_of_ble_eq_true rfl) (Nat.le_of_ble_eq_true rfl) dX4_init_58 (I' := iT 138) (wrF_succ (t := 137) rfl) ?_
  refine ag_aload_n X.1 1 dX4_init_61 rfl ?_
  refine ag_bipush (v := 20) X.1 dX4_init_62 (by decide) ?_
  refine ac_putI X zf_RX4_29 rfl rfl rfl rfl rfl (Nat.le_of_ble_eq_true rfl) (Nat.le_of_ble_eq_true rfl) dX4_init_64 (I' := iT 139) (wrF_succ (t := 138) rfl) ?_
  refine ag_aload_n X.1 1 dX4_init_67 rfl ?_
  refine ag_iconst (v := 5) X.1 dX4_init_68 (by decide) ?_
  refine ac_putI X zf_RX4_32 rfl rfl rfl rfl rfl (Nat.le_of_ble_eq_true rfl) (Nat.le_of_ble_eq_true rfl) dX4_init_69 (I' := iT 140) (wrF_succ (t := 139) rfl) ?_
  refine ag_aload_n X.1 1 dX4_init_72 rfl ?_
  refine ag_iconst (v := 1) X.1 dX4_init_73 (by decide) ?_
  refine ac_putI X zf_RX4_35 rfl rfl rfl rfl rfl (Nat.le_of_ble_eq_true rfl) (Nat.le_of_ble_eq_true rfl) dX4_init_74 (I' := iT 141) (wrF_succ (t := 140) rfl) ?_
  refine ag_aload_n X.1 1 dX4_init_77 rfl ?_
  refine ag_bipush (v := 24) X.1 dX4_init_78 (by decide) ?_
  refine ac_putI X zf_RX4_38 rfl rfl rfl rfl rfl (Nat.le_of_ble_eq_true rfl) (Nat.le_of_ble_eq_true rfl) dX4_init_80 (I' := iT 142) (wrF_succ (t := 141) rfl) ?_
  refine ag_aload_n X.1 1 dX4_init_83 rfl ?_
  refine ag_iconst (v := 0) X.1 dX4_init_84 (by decide) ?_
  refine ac_putI X zf_RX4_41 rfl rfl rfl rfl rfl (Nat.le_of_ble_eq_true rfl) (Nat.le_of_ble_eq_true rfl) dX4_init_85 (I' := iT 143) (wrF_succ (t := 142) rfl) ?_
  refine ag_aload_n X.1 1 dX4_init_88 rfl ?_
  refine ag_iconst (v := 1) X.1 dX4_init_89 (by decide) ?_
  refine ac_putI X zf_RX4_44 rfl rfl rfl rfl rfl (Nat.le_of_ble_eq_true rfl) (Nat.le_of_ble_eq_true rfl) dX4_init_90 (I' := iT 144) (wrF_succ (t := 143) rfl) ?_
  exact ac_ret X E (Nat.le_of_ble_eq_true rfl) dX4_init_93
set_option maxRecDepth 100000 in
theorem q_60 {l : Launch} {g : zG} : CallC l g 1 1 16 M_X1_init [vR 60] 60 (rT 58) (iT 144) 61 (rT 59) (iT 149) := by
  refine ac_entry (by decide) (Nat.le_of_ble_eq_true rfl) rfl rfl (fun k hk hn0 (X : zXc k g cX1_init RX1 1 none 1 1 16) E => ?_)
  show AG k g (WC g 60 (rT 58) (iT 144)) 0 0 1 0 [(0, vR 60)] []
  subst hk
  refine ag_aload_n X.1 0 dX1_init_0 rfl ?_
  refine ac_objinit X (by decide) zv_56 zv_42 zv_43 (by decide) (Nat.le_of_ble_eq_true rfl) dX1_init_1 ?_
  refine ag_aload_n X.1 0 dX1_init_4 rfl ?_
  refine ag_iconst (v := 0) X.1 dX1_init_5 (by decide) ?_
  refine ac_putI X zf_RX1_9 rfl rfl rfl rfl rfl (Nat.le_of_ble_eq_true rfl) (Nat.le_of_ble_eq_true rfl) dX1_init_6 (I' := iT 145) (wrF_succ (t := 144) rfl) ?_
  refine ag_aload_n X.1 0 dX1_init_9 rfl ?_
  refine ag_iconst (v := 0) X.1 dX1_init_10 (by decide) ?_
  refine ac_putI X zf_RX1_15 rfl rfl rfl rfl rfl (Nat.le_of_ble_eq_true rfl) (Nat.le_of_ble_eq_true rfl) dX1_init_11 (I' := iT 146) (wrF_succ (t := 145) rfl) ?_
  refine ag_aload_n X.1 0 dX1_init_14 rfl ?_
  refine ag_iconst (v := 0) X.1 dX1_init_15 (by decide) ?_
  refine ac_putI X zf_RX1_18 rfl rfl rfl rfl rfl (Nat.le_of_ble_eq_true rfl) (Nat.le_of_ble_eq_true rfl) dX1_init_16 (I' := iT 147) (wrF_succ (t := 146) rfl) ?_
  refine ag_aload_n X.1 0 dX1_init_19 rfl ?_
  refine ag_iconst (v := (-1)) X.1 dX1_init_20 (by decide) ?_
  refine ac_putI X zf_RX1_21 rfl rfl rfl rfl rfl (Nat.le_of_ble_eq_true rfl) (Nat.le_of_ble_eq_true rfl) dX1_init_21 (I' := iT 148) (wrF_succ (t := 147) rfl) ?_
  refine ag_aload_n X.1 0 dX1_init_24 rfl ?_
  refine ag_iconst (v := 0) X.1 dX1_init_25 (by decide) ?_
  refine ac_putI X zf_RX1_24 rfl rfl rfl rfl rfl (Nat.le_of_ble_eq_true rfl) (Nat.le_of_ble_eq_true rfl) dX1_init_26 (I' := iT 149) (wrF_succ (t := 148) rfl) ?_
  refine ag_aload_n X.1 0 dX1_init_29 rfl ?_
  refine ag_bipush (v := 16) X.1 dX1_init_30 (by decide) ?_
  refine ac_newi (N := 16) (n1 := 61) (cs1 := 1) (sl1 := 16) X zv_85 rfl (Nat.le_of_ble_eq_true rfl) (wrF_fresh (by decide +kernel)) (by decide) (by decide) (Nat.le_of_ble_eq_true rfl) (Nat.le_of_ble_eq_true rfl) (Nat.le_of_ble_eq_true rfl) dX1_init_32 rfl rfl rfl ?_
  refine ac_putF X zf_RX1_27 rfl rfl rfl (by decide) (fun _ => rfl) (fun _ => rfl) rfl (Nat.le_of_ble_eq_true rfl) (Nat.le_of_ble_eq_true rfl) dX1_init_34 (rf' := rT 59) (wrF_succ (t := 58) rfl) ?_
  exact ac_ret X E (Nat.le_of_ble_eq_true rfl) dX1_init_37
set_option maxRecDepth 100000 in
theorem q_59 {l : Launch} {g : zG} : CallC l g 2 5 63 M_X5_init [vR 59, vR 2] 59 (rT 57) (iT 144) 64 (rT 63) (iT 151) := by
  refine ac_entry (by decide) (Nat.le_of_ble_eq_true rfl) rfl rfl (fun k hk hn0 (X : zXc k g cX5_init RX5 2 none 2 5 63) E => ?_)
  show AG k g (WC g 59 (rT 57) (iT 144)) 0 0 2 0 [(0, vR 59), (1, vR 2)] []
  subst hk
  refine ag_aload_n X.1 0 dX5_init_0 rfl ?_
  refine ac_objinit X (by decide) zv_140 zv_42 zv_43 (by decide) (Nat.le_of_ble_eq_true rfl) dX5_init_1 ?_
  refine ag_aload_n X.1 0 dX5_init_4 rfl ?_
  refine ag_aload_n X.1 1 dX5_init_5 rfl ?_
  refine ac_putF X zf_RX5_9 rfl rfl rfl (by decide) (fun _ => rfl) (fun _ => rfl) rfl (Nat.le_of_ble_eq_true rfl) (Nat.le_of_ble_eq_true rfl) dX5_init_6 (rf' := rT 58) (wrF_succ (t := 57) rfl) ?_
  refine ag_aload_n X.1 0 dX5_init_9 rfl ?_
  refine ac_new (n1 := 60) (cs1 := 1) (sl1 := 6) X zcl_1 zv_141 zv_52 zw_25 rfl (Nat.le_of_ble_eq_true rfl) zdf_1 (wrF_fresh (by decide +kernel)) (wrF_fresh (by decide +kernel)) (Nat.le_of_ble_eq_true rfl) (Nat.le_of_ble_eq_true rfl) dX5_init_10 rfl rfl rfl ?_
  refine ag_dup X.1 dX5_init_13 rfl ?_
  refine ac_call (recv := 60) (as := []) (st := [vR 60, vR 59]) (cs1 := 2) (sl1 := 22) X qm_X1 zv_142 q_60 (by decide) (Nat.le_of_ble_eq_true rfl) rfl rfl (Nat.le_of_ble_eq_true rfl) (Nat.le_of_ble_eq_true rfl) (Nat.le_of_ble_eq_true rfl) (Nat.le_of_ble_eq_true rfl) rfl rfl dX5_init_14 ?_
  refine ac_putF X zf_RX5_18 rfl rfl rfl (by decide) (fun _ => rfl) (fun _ => rfl) rfl (Nat.le_of_ble_eq_true rfl) (Nat.le_of_ble_eq_true rfl) dX5_init_17 (rf' := rT 60) (wrF_succ (t := 59) rfl) ?_
  refine ag_aload_n X.1 0 dX5_init_20 rfl ?_
  refine ag_bipush (v := 25) X.1 dX5_init_21 (by decide) ?_
  refine ac_newi (N := 25) (n1 := 62) (cs1 := 3) (sl1 := 47) X zv_85 rfl (Nat.le_of_ble_eq_true rfl) (wrF_fresh (by decide +kernel)) (by decide) (by decide) (Nat.le_of_ble_eq_true rfl) (Nat.le_of_ble_eq_true rfl) (Nat.le_of_ble_eq_true rfl) dX5_init_23 rfl rfl rfl ?_
  refine ac_putF X zf_RX5_22 rfl rfl rfl (by decide) (fun _ => rfl) (fun _ => rfl) rfl (Nat.le_of_ble_eq_true rfl) (Nat.le_of_ble_eq_true rfl) dX5_init_25 (rf' := rT 61) (wrF_succ (t := 60) rfl) ?_
  refine ag_aload_n X.1 0 dX5_init_28 rfl ?_
  refine ag_bipush (v := 8) X.1 dX5_init_29 (by decide) ?_
  refine ac_newi (N := 8) (n1 := 63) (cs1 := 4) (sl1 := 55) X zv_85 rfl (Nat.le_of_ble_eq_true rfl) (wrF_fresh (by decide +kernel)) (by decide) (by decide) (Nat.le_of_ble_eq_true rfl) (Nat.le_of_ble_eq_true rfl) (Nat.le_of_ble_eq_true rfl) dX5_init_31 rfl rfl rfl ?_
  refine ac_putF X zg_RX5_26 rfl rfl rfl (by decide) (fun _ => rfl) (fun _ => rfl) rfl (Nat.le_of_ble_eq_true rfl) (Nat.le_of_ble_eq_true rfl) dX5_init_33 (rf' := rT 62) (wrF_succ (t := 61) rfl) ?_
  refine ag_aload_n X.1 0 dX5_init_36 rfl ?_
  refine ag_bipush (v := 8) X.1 dX5_init_37 (by decide) ?_
  refine ac_newi (N := 8) (n1 := 64) (cs1 := 5) (sl1 := 63) X zv_85 rfl (Nat.le_of_ble_eq_true rfl) (wrF_fresh (by decide +kernel)) (by decide) (by decide) (Nat.le_of_ble_eq_true rfl) (Nat.le_of_ble_eq_true rfl) (Nat.le_of_ble_eq_true rfl) dX5_init_39 rfl rfl rfl ?_
  refine ac_putF X zf_RX5_29 rfl rfl rfl (by decide) (fun _ => rfl) (fun _ => rfl) rfl (Nat.le_of_ble_eq_true rfl) (Nat.le_of_ble_eq_true rfl) dX5_init_41 (rf' := rT 63) (wrF_succ (t := 62) rfl) ?_
  refine ag_aload_n X.1 0 dX5_init_44 rfl ?_
  refine ag_iconst (v := 0) X.1 dX5_init_45 (by decide) ?_
  refine ac_putI X zg_RX5_32 rfl rfl rfl rfl rfl (Nat.le_of_ble_eq_true rfl) (Nat.le_of_ble_eq_true rfl) dX5_init_46 (I' := iT 150) (wrF_succ (t := 149) rfl) ?_
  refine ag_aload_n X.1 0 dX5_init_49 rfl ?_
  refine ag_iconst (v := 0) X.1 dX5_init_50 (by decide) ?_
  refine ac_putI X zg_RX5_36 rfl rfl rfl rfl rfl (Nat.le_of_ble_eq_true rfl) (Nat.le_of_ble_eq_true rfl) dX5_init_51 (I' := iT 151) (wrF_succ (t := 150) rfl) ?_
  exact ac_ret X E (Nat.le_of_ble_eq_true rfl) dX5_init_54
set_option maxRecDepth 100000 in
theorem q_66 {l : Launch} {g : zG} : CallC l g 1 1 160 M_X3_init [vR 66] 66 (rT 65) (iT 151) 67 (rT 66) (iT 155) := by
  refine ac_entry (by decide) (Nat.le_of_ble_eq_true rfl) rfl rfl (fun k hk hn0 (X : zXc k g cX3_init RX3 1 none 1 1 160) E => ?_)
  show AG k g (WC g 66 (rT 65) (iT 151)) 0 0 1 0 [(0, vR 66)] []
  subst hk
  refine ag_aload_n X.1 0 dX3_init_0 rfl ?_
  refine ac_objinit X (by decide) zv_171 zv_42 zv_43 (by decide) (Nat.le_of_ble_eq_true rfl) dX3_init_1 ?_
  refine ag_aload_n X.1 0 dX3_init_4 rfl ?_
  refine ag_sipush (v := 160) X.1 dX3_init_5 (by decide) ?_
  refine ac_newl (N := 160) (n1 := 67) (cs1 := 1) (sl1 := 160) X zv_191 rfl (Nat.le_of_ble_eq_true rfl) (by decide) (by decide) (Nat.le_of_ble_eq_true rfl) (Nat.le_of_ble_eq_true rfl) (Nat.le_of_ble_eq_true rfl) dX3_init_8 rfl rfl rfl ?_
  refine ac_putF X zf_RX3_11 rfl rfl rfl (by decide) (fun _ => rfl) (fun _ => rfl) rfl (Nat.le_of_ble_eq_true rfl) (Nat.le_of_ble_eq_true rfl) dX3_init_10 (rf' := rT 66) (wrF_succ (t := 65) rfl) ?_
  refine ag_aload_n X.1 0 dX3_init_13 rfl ?_
  refine ag_iconst (v := 0) X.1 dX3_init_14 (by decide) ?_
  refine ac_putI X zf_RX3_15 rfl rfl rfl rfl rfl (Nat.le_of_ble_eq_true rfl) (Nat.le_of_ble_eq_true rfl) dX3_init_15 (I' := iT 152) (wrF_succ (t := 151) rfl) ?_
  refine ag_aload_n X.1 0 dX3_init_18 rfl ?_
  refine ag_iconst (v := 0) X.1 dX3_init_19 (by decide) ?_
  refine ac_putI X zf_RX3_19 rfl rfl rfl rfl rfl (Nat.le_of_ble_eq_true rfl) (Nat.le_of_ble_eq_true rfl) dX3_init_20 (I' := iT 153) (wrF_succ (t := 152) rfl) ?_
  refine ag_aload_n X.1 0 dX3_init_23 rfl ?_
  refine ag_iconst (v := (-1)) X.1 dX3_init_24 (by decide) ?_
  refine ac_putI X zf_RX3_22 rfl rfl rfl rfl rfl (Nat.le_of_ble_eq_true rfl) (Nat.le_of_ble_eq_true rfl) dX3_init_25 (I' := iT 154) (wrF_succ (t := 153) rfl) ?_
  refine ag_aload_n X.1 0 dX3_init_28 rfl ?_
  refine ag_iconst (v := 0) X.1 dX3_init_29 (by decide) ?_
  refine ac_putI X zf_RX3_25 rfl rfl rfl rfl rfl (Nat.le_of_ble_eq_true rfl) (Nat.le_of_ble_eq_true rfl) dX3_init_30 (I' := iT 155) (wrF_succ (t := 154) rfl) ?_
  exact ac_ret X E (Nat.le_of_ble_eq_true rfl) dX3_init_33
set_option maxRecDepth 100000 in
theorem q_68 {l : Launch} {g : zG} : CallC l g 1 1 160 M_X3_init [vR 68] 68 (rT 67) (iT 155) 69 (rT 68) (iT 159) := by
  refine ac_entry (by decide) (Nat.le_of_ble_eq_true rfl) rfl rfl (fun k hk hn0 (X : zXc k g cX3_init RX3 1 none 1 1 160) E => ?_)
  show AG k g (WC g 68 (rT 67) (iT 155)) 0 0 1 0 [(0, vR 68)] []
  subst hk
  refine ag_aload_n X.1 0 dX3_init_0 rfl ?_
  refine ac_objinit X (by decide) zv_171 zv_42 zv_43 (by decide) (Nat.le_of_ble_eq_true rfl) dX3_init_1 ?_
  refine ag_aload_n X.1 0 dX3_init_4 rfl ?_
  refine ag_sipush (v := 160) X.1 dX3_init_5 (by decide) ?_
  refine ac_newl (N := 160) (n1 := 69) (cs1 := 1) (sl1 := 160) X zv_191 rfl (Nat.le_of_ble_eq_true rfl) (by decide) (by decide) (Nat.le_of_ble_eq_true rfl) (Nat.le_of_ble_eq_true rfl) (Nat.le_of_ble_eq_true rfl) dX3_init_8 rfl rfl rfl ?_
  refine ac_putF X zf_RX3_11 rfl rfl rfl (by decide) (fun _ => rfl) (fun _ => rfl) rfl (Nat.le_of_ble_eq_true rfl) (Nat.le_of_ble_eq_true rfl) dX3_init_10 (rf' := rT 68) (wrF_succ (t := 67) rfl) ?_
  refine ag_aload_n X.1 0 dX3_init_13 rfl ?_
  refine ag_iconst (v := 0) X.1 dX3_init_14 (by decide) ?_
  refine ac_putI X zf_RX3_15 rfl rfl rfl rfl rfl (Nat.le_of_ble_eq_true rfl) (Nat.le_of_ble_eq_true rfl) dX3_init_15 (I' := iT 156) (wrF_succ (t := 155) rfl) ?_
  refine ag_aload_n X.1 0 dX3_init_18 rfl ?_
  refine ag_iconst (v := 0) X.1 dX3_init_19 (by decide) ?_
  refine ac_putI X zf_RX3_19 rfl rfl rfl rfl rfl (Nat.le_of_ble_eq_true rfl) (Nat.le_of_ble_eq_true rfl) dX3_init_20 (I' := iT 157) (wrF_succ (t := 156) rfl) ?_
  refine ag_aload_n X.1 0 dX3_init_23 rfl ?_
  refine ag_iconst (v := (-1)) X.1 dX3_init_24 (by decide) ?_
  refine ac_putI X zf_RX3_22 rfl rfl rfl rfl rfl (Nat.le_of_ble_eq_true rfl) (Nat.le_of_ble_eq_true rfl) dX3_init_25 (I' := iT 158) (wrF_succ (t := 157) rfl) ?_
  refine ag_aload_n X.1 0 dX3_init_28 rfl ?_
  refine ag_iconst (v := 0) X.1 dX3_init_29 (by decide) ?_
  refine ac_putI X zf_RX3_25 rfl rfl rfl rfl rfl (Nat.le_of_ble_eq_true rfl) (Nat.le_of_ble_eq_true rfl) dX3_init_30 (I' := iT 159) (wrF_succ (t := 158) rfl) ?_
  exact ac_ret X E (Nat.le_of_ble_eq_true rfl) dX3_init_33
set_option maxRecDepth 100000 in
theorem q_70 {l : Launch} {g : zG} : CallC l g 1 1 160 M_X3_init [vR 70] 70 (rT 69) (iT 159) 71 (rT 70) (iT 163) := by
  refine ac_entry (by decide) (Nat.le_of_ble_eq_true rfl) rfl rfl (fun k hk hn0 (X : zXc k g cX3_init RX3 1 none 1 1 160) E => ?_)
  show AG k g (WC g 70 (rT 69) (iT 159)) 0 0 1 0 [(0, vR 70)] []
  subst hk
  refine ag_aload_n X.1 0 dX3_init_0 rfl ?_
  refine ac_objinit X (by decide) zv_171 zv_42 zv_43 (by decide) (Nat.le_of_ble_eq_true rfl) dX3_init_1 ?_
  refine ag_aload_n X.1 0 dX3_init_4 rfl ?_
  refine ag_sipush (v := 160) X.1 dX3_init_5 (by decide) ?_
  refine ac_newl (N := 160) (n1 := 71) (cs1 := 1) (sl1 := 160) X zv_191 rfl (Nat.le_of_ble_eq_true rfl) (by decide) (by decide) (Nat.le_of_ble_eq_true rfl) (Nat.le_of_ble_eq_true rfl) (Nat.le_of_ble_eq_true rfl) dX3_init_8 rfl rfl rfl ?_
  refine ac_putF X zf_RX3_11 rfl rfl rfl (by decide) (fun _ => rfl) (fun _ => rfl) rfl (Nat.le_of_ble_eq_true rfl) (Nat.le_of_ble_eq_true rfl) dX3_init_10 (rf' := rT 70) (wrF_succ (t := 69) rfl) ?_
  refine ag_aload_n X.1 0 dX3_init_13 rfl ?_
  refine ag_iconst (v := 0) X.1 dX3_init_14 (by decide) ?_
  refine ac_putI X zf_RX3_15 rfl rfl rfl rfl rfl (Nat.le_of_ble_eq_true rfl) (Nat.le_of_ble_eq_true rfl) dX3_init_15 (I' := iT 160) (wrF_succ (t := 159) rfl) ?_
  refine ag_aload_n X.1 0 dX3_init_18 rfl ?_
  refine ag_iconst (v := 0) X.1 dX3_init_19 (by decide) ?_
  refine ac_putI X zf_RX3_19 rfl rfl rfl rfl rfl (Nat.le_of_ble_eq_true rfl) (Nat.le_of_ble_eq_true rfl) dX3_init_20 (I' := iT 161) (wrF_succ (t := 160) rfl) ?_
  refine ag_aload_n X.1 0 dX3_init_23 rfl ?_
  refine ag_iconst (v := (-1)) X.1 dX3_init_24 (by decide) ?_
  refine ac_putI X zf_RX3_22 rfl rfl rfl rfl rfl (Nat.le_of_ble_eq_true rfl) (Nat.le_of_ble_eq_true rfl) dX3_init_25 (I' := iT 162) (wrF_succ (t := 161) rfl) ?_
  refine ag_aload_n X.1 0 dX3_init_28 rfl ?_
  refine ag_iconst (v := 0) X.1 dX3_init_29 (by decide) ?_
  refine ac_putI X zf_RX3_25 rfl rfl rfl rfl rfl (Nat.le_of_ble_eq_true rfl) (Nat.le_of_ble_eq_true rfl) dX3_init_30 (I' := iT 163) (wrF_succ (t := 162) rfl) ?_
  exact ac_ret X E (Nat.le_of_ble_eq_true rfl) dX3_init_33
set_option maxRecDepth 100000 in
theorem q_72 {l : Launch} {g : zG} : CallC l g 1 1 160 M_X3_init [vR 72] 72 (rT 71) (iT 163) 73 (rT 72) (iT 167) := by
  refine ac_entry (by decide) (Nat.le_of_ble_eq_true rfl) rfl rfl (fun k hk hn0 (X : zXc k g cX3_init RX3 1 none 1 1 160) E => ?_)
  show AG k g (WC g 72 (rT 71) (iT 163)) 0 0 1 0 [(0, vR 72)] []
  subst hk
  refine ag_aload_n X.1 0 dX3_init_0 rfl ?_
  refine ac_objinit X (by decide) zv_171 zv_42 zv_43 (by decide) (Nat.le_of_ble_eq_true rfl) dX3_init_1 ?_
  refine ag_aload_n X.1 0 dX3_init_4 rfl ?_
  refine ag_sipush (v := 160) X.1 dX3_init_5 (by decide) ?_
  refine ac_newl (N := 160) (n1 := 73) (cs1 := 1) (sl1 := 160) X zv_191 rfl (Nat.le_of_ble_eq_true rfl) (by decide) (by decide) (Nat.le_of_ble_eq_true rfl) (Nat.le_of_ble_eq_true rfl) (Nat.le_of_ble_eq_true rfl) dX3_init_8 rfl rfl rfl ?_
  refine ac_putF X zf_RX3_11 rfl rfl rfl (by decide) (fun _ => rfl) (fun _ => rfl) rfl (Nat.le_of_ble_eq_true rfl) (Nat.le_of_ble_eq_true rfl) dX3_init_10 (rf' := rT 72) (wrF_succ (t := 71) rfl) ?_
  refine ag_aload_n X.1 0 dX3_init_13 rfl ?_
  refine ag_iconst (v := 0) X.1 dX3_init_14 (by decide) ?_
  refine ac_putI X zf_RX3_15 rfl rfl rfl rfl rfl (Nat.le_of_ble_eq_true rfl) (Nat.le_of_ble_eq_true rfl) dX3_init_15 (I' := iT 164) (wrF_succ (t := 163) rfl) ?_
  refine ag_aload_n X.1 0 dX3_init_18 rfl ?_
  refine ag_iconst (v := 0) X.1 dX3_init_19 (by decide) ?_
  refine ac_putI X zf_RX3_19 rfl rfl rfl rfl rfl (Nat.le_of_ble_eq_true rfl) (Nat.le_of_ble_eq_true rfl) dX3_init_20 (I' := iT 165) (wrF_succ (t := 164) rfl) ?_
  refine ag_aload_n X.1 0 dX3_init_23 rfl ?_
  refine ag_iconst (v := (-1)) X.1 dX3_init_24 (by decide) ?_
  refine ac_putI X zf_RX3_22 rfl rfl rfl rfl rfl (Nat.le_of_ble_eq_true rfl) (Nat.le_of_ble_eq_true rfl) dX3_init_25 (I' := iT 166) (wrF_succ (t := 165) rfl) ?_
  refine ag_aload_n X.1 0 dX3_init_28 rfl ?_
  refine ag_iconst (v := 0) X.1 dX3_init_29 (by decide) ?_
  refine ac_putI X zf_RX3_25 rfl rfl rfl rfl rfl (Nat.le_of_ble_eq_true rfl) (Nat.le_of_ble_eq_true rfl) dX3_init_30 (I' := iT 167) (wrF_succ (t := 166) rfl) ?_
  exact ac_ret X E (Nat.le_of_ble_eq_true rfl) dX3_init_33
set_option maxRecDepth 100000 in
theorem q_74 {l : Launch} {g : zG} : CallC l g 1 1 160 M_X3_init [vR 74] 74 (rT 73) (iT 167) 75 (rT 74) (iT 171) := by
  refine ac_entry (by decide) (Nat.le_of_ble_eq_true rfl) rfl rfl (fun k hk hn0 (X : zXc k g cX3_init RX3 1 none 1 1 160) E => ?_)
  show AG k g (WC g 74 (rT 73) (iT 167)) 0 0 1 0 [(0, vR 74)] []
  subst hk
  refine ag_aload_n X.1 0 dX3_init_0 rfl ?_
  refine ac_objinit X (by decide) zv_171 zv_42 zv_43 (by decide) (Nat.le_of_ble_eq_true rfl) dX3_init_1 ?_
  refine ag_aload_n X.1 0 dX3_init_4 rfl ?_
  refine ag_sipush (v := 160) X.1 dX3_init_5 (by decide) ?_
  refine ac_newl (N := 160) (n1 := 75) (cs1 := 1) (sl1 := 160) X zv_191 rfl (Nat.le_of_ble_eq_true rfl) (by decide) (by decide) (Nat.le_of_ble_eq_true rfl) (Nat.le_of_ble_eq_true rfl) (Nat.le_of_ble_eq_true rfl) dX3_init_8 rfl rfl rfl ?_
  refine ac_putF X zf_RX3_11 rfl rfl rfl (by decide) (fun _ => rfl) (fun _ => rfl) rfl (Nat.le_of_ble_eq_true rfl) (Nat.le_of_ble_eq_true rfl) dX3_init_10 (rf' := rT 74) (wrF_succ (t := 73) rfl) ?_
  refine ag_aload_n X.1 0 dX3_init_13 rfl ?_
  refine ag_iconst (v := 0) X.1 dX3_init_14 (by decide) ?_
  refine ac_putI X zf_RX3_15 rfl rfl rfl rfl rfl (Nat.le_of_ble_eq_true rfl) (Nat.le_of_ble_eq_true rfl) dX3_init_15 (I' := iT 168) (wrF_succ (t := 167) rfl) ?_
  refine ag_aload_n X.1 0 dX3_init_18 rfl ?_
  refine ag_iconst (v := 0) X.1 dX3_init_19 (by decide) ?_
  refine ac_putI X zf_RX3_19 rfl rfl rfl rfl rfl (Nat.le_of_ble_eq_true rfl) (Nat.le_of_ble_eq_true rfl) dX3_init_20 (I' := iT 169) (wrF_succ (t := 168) rfl) ?_
  refine ag_aload_n X.1 0 dX3_init_23 rfl ?_
  refine ag_iconst (v := (-1)) X.1 dX3_init_24 (by decide) ?_
  refine ac_putI X zf_RX3_22 rfl rfl rfl rfl rfl (Nat.le_of_ble_eq_true rfl) (Nat.le_of_ble_eq_true rfl) dX3_init_25 (I' := iT 170) (wrF_succ (t := 169) rfl) ?_
  refine ag_aload_n X.1 0 dX3_init_28 rfl ?_
  refine ag_iconst (v := 0) X.1 dX3_init_29 (by decide) ?_
  refine ac_putI X zf_RX3_25 rfl rfl rfl rfl rfl (Nat.le_of_ble_eq_true rfl) (Nat.le_of_ble_eq_true rfl) dX3_init_30 (I' := iT 171) (wrF_succ (t := 170) rfl) ?_
  exact ac_ret X E (Nat.le_of_ble_eq_true rfl) dX3_init_33
set_option maxRecDepth 100000 in
theorem q_76 {l : Launch} {g : zG} : CallC l g 1 1 160 M_X3_init [vR 76] 76 (rT 75) (iT 171) 77 (rT 76) (iT 175) := by
  refine ac_entry (by decide) (Nat.le_of_ble_eq_true rfl) rfl rfl (fun k hk hn0 (X : zXc k g cX3_init RX3 1 none 1 1 160) E => ?_)
  show AG k g (WC g 76 (rT 75) (iT 171)) 0 0 1 0 [(0, vR 76)] []
  subst hk
  refine ag_aload_n X.1 0 dX3_init_0 rfl ?_
  refine ac_objinit X (by decide) zv_171 zv_42 zv_43 (by decide) (Nat.le_of_ble_eq_true rfl) dX3_init_1 ?_
  refine ag_aload_n X.1 0 dX3_init_4 rfl ?_
  refine ag_sipush (v := 160) X.1 dX3_init_5 (by decide) ?_
  refine ac_newl (N := 160) (n1 := 77) (cs1 := 1) (sl1 := 160) X zv_191 rfl (Nat.le_of_ble_eq_true rfl) (by decide) (by decide) (Nat.le_of_ble_eq_true rfl) (Nat.le_of_ble_eq_true rfl) (Nat.le_of_ble_eq_true rfl) dX3_init_8 rfl rfl rfl ?_
  refine ac_putF X zf_RX3_11 rfl rfl rfl (by decide) (fun _ => rfl) (fun _ => rfl) rfl (Nat.le_of_ble_eq_true rfl) (Nat.le_of_ble_eq_true rfl) dX3_init_10 (rf' := rT 76) (wrF_succ (t := 75) rfl) ?_
  refine ag_aload_n X.1 0 dX3_init_13 rfl ?_
  refine ag_iconst (v := 0) X.1 dX3_init_14 (by decide) ?_
  refine ac_putI X zf_RX3_15 rfl rfl rfl rfl rfl (Nat.le_of_ble_eq_true rfl) (Nat.le_of_ble_eq_true rfl) dX3_init_15 (I' := iT 172) (wrF_succ (t := 171) rfl) ?_
  refine ag_aload_n X.1 0 dX3_init_18 rfl ?_
  refine ag_iconst (v := 0) X.1 dX3_init_19 (by decide) ?_
  refine ac_putI X zf_RX3_19 rfl rfl rfl rfl rfl (Nat.le_of_ble_eq_true rfl) (Nat.le_of_ble_eq_true rfl) dX3_init_20 (I' := iT 173) (wrF_succ (t := 172) rfl) ?_
  refine ag_aload_n X.1 0 dX3_init_23 rfl ?_
  refine ag_iconst (v := (-1)) X.1 dX3_init_24 (by decide) ?_
  refine ac_putI X zf_RX3_22 rfl rfl rfl rfl rfl (Nat.le_of_ble_eq_true rfl) (Nat.le_of_ble_eq_true rfl) dX3_init_25 (I' := iT 174) (wrF_succ (t := 173) rfl) ?_
  refine ag_aload_n X.1 0 dX3_init_28 rfl ?_
  refine ag_iconst (v := 0) X.1 dX3_init_29 (by decide) ?_
  refine ac_putI X zf_RX3_25 rfl rfl rfl rfl rfl (Nat.le_of_ble_eq_true rfl) (Nat.le_of_ble_eq_true rfl) dX3_init_30 (I' := iT 175) (wrF_succ (t := 174) rfl) ?_
  exact ac_ret X E (Nat.le_of_ble_eq_true rfl) dX3_init_33
set_option maxRecDepth 100000 in
theorem q_78 {l : Launch} {g : zG} : CallC l g 1 1 160 M_X3_init [vR 78] 78 (rT 77) (iT 175) 79 (rT 78) (iT 179) := by
  refine ac_entry (by decide) (Nat.le_of_ble_eq_true rfl) rfl rfl (fun k hk hn0 (X : zXc k g cX3_init RX3 1 none 1 1 160) E => ?_)
  show AG k g (WC g 78 (rT 77) (iT 175)) 0 0 1 0 [(0, vR 78)] []
  subst hk
  refine ag_aload_n X.1 0 dX3_init_0 rfl ?_
  refine ac_objinit X (by decide) zv_171 zv_42 zv_43 (by decide) (Nat.le_of_ble_eq_true rfl) dX3_init_1 ?_
  refine ag_aload_n X.1 0 dX3_init_4 rfl ?_
  refine ag_sipush (v := 160) X.1 dX3_init_5 (by decide) ?_
  refine ac_newl (N := 160) (n1 := 79) (cs1 := 1) (sl1 := 160) X zv_191 rfl (Nat.le_of_ble_eq_true rfl) (by decide) (by decide) (Nat.le_of_ble_eq_true rfl) (Nat.le_of_ble_eq_true rfl) (Nat.le_of_ble_eq_true rfl) dX3_init_8 rfl rfl rfl ?_
  refine ac_putF X zf_RX3_11 rfl rfl rfl (by decide) (fun _ => rfl) (fun _ => rfl) rfl (Nat.le_of_ble_eq_true rfl) (Nat.le_of_ble_eq_true rfl) dX3_init_10 (rf' := rT 78) (wrF_succ (t := 77) rfl) ?_
  refine ag_aload_n X.1 0 dX3_init_13 rfl ?_
  refine ag_iconst (v := 0) X.1 dX3_init_14 (by decide) ?_
  refine ac_putI X zf_RX3_15 rfl rfl rfl rfl rfl (Nat.le_of_ble_eq_true rfl) (Nat.le_of_ble_eq_true rfl) dX3_init_15 (I' := iT 176) (wrF_succ (t := 175) rfl) ?_
  refine ag_aload_n X.1 0 dX3_init_18 rfl ?_
  refine ag_iconst (v := 0) X.1 dX3_init_19 (by decide) ?_
  refine ac_putI X zf_RX3_19 rfl rfl rfl rfl rfl (Nat.le_of_ble_eq_true rfl) (Nat.le_of_ble_eq_true rfl) dX3_init_20 (I' := iT 177) (wrF_succ (t := 176) rfl) ?_
  refine ag_aload_n X.1 0 dX3_init_23 rfl ?_
  refine ag_iconst (v := (-1)) X.1 dX3_init_24 (by decide) ?_
  refine ac_putI X zf_RX3_22 rfl rfl rfl rfl rfl (Nat.le_of_ble_eq_true rfl) (Nat.le_of_ble_eq_true rfl) dX3_init_25 (I' := iT 178) (wrF_succ (t := 177) rfl) ?_
  refine ag_aload_n X.1 0 dX3_init_28 rfl ?_
  refine ag_iconst (v := 0) X.1 dX3_init_29 (by decide) ?_
  refine ac_putI X zf_RX3_25 rfl rfl rfl rfl rfl (Nat.le_of_ble_eq_true rfl) (Nat.le_of_ble_eq_true rfl) dX3_init_30 (I' := iT 179) (wrF_succ (t := 178) rfl) ?_
  exact ac_ret X E (Nat.le_of_ble_eq_true rfl) dX3_init_33
set_option maxRecDepth 100000 in
theorem q_80 {l : Launch} {g : zG} : CallC l g 1 1 160 M_X3_init [vR 80] 80 (rT 79) (iT 179) 81 (rT 80) (iT 183) := by
  refine ac_entry (by decide) (Nat.le_of_ble_eq_true rfl) rfl rfl (fun k hk hn0 (X : zXc k g cX3_init RX3 1 none 1 1 160) E => ?_)
  show AG k g (WC g 80 (rT 79) (iT 179)) 0 0 1 0 [(0, vR 80)] []
  subst hk
  refine ag_aload_n X.1 0 dX3_init_0 rfl ?_
  refine ac_objinit X (by decide) zv_171 zv_42 zv_43 (by decide) (Nat.le_of_ble_eq_true rfl) dX3_init_1 ?_
  refine ag_aload_n X.1 0 dX3_init_4 rfl ?_
  refine ag_sipush (v := 160) X.1 dX3_init_5 (by decide) ?_
  refine ac_newl (N := 160) (n1 := 81) (cs1 := 1) (sl1 := 160) X zv_191 rfl (Nat.le_of_ble_eq_true rfl) (by decide) (by decide) (Nat.le_of_ble_eq_true rfl) (Nat.le_of_ble_eq_true rfl) (Nat.le_of_ble_eq_true rfl) dX3_init_8 rfl rfl rfl ?_
  refine ac_putF X zf_RX3_11 rfl rfl rfl (by decide) (fun _ => rfl) (fun _ => rfl) rfl (Nat.le_of_ble_eq_true rfl) (Nat.le_of_ble_eq_true rfl) dX3_init_10 (rf' := rT 80) (wrF_succ (t := 79) rfl) ?_
  refine ag_aload_n X.1 0 dX3_init_13 rfl ?_
  refine ag_iconst (v := 0) X.1 dX3_init_14 (by decide) ?_
  refine ac_putI X zf_RX3_15 rfl rfl rfl rfl rfl (Nat.le_of_ble_eq_true rfl) (Nat.le_of_ble_eq_true rfl) dX3_init_15 (I' := iT 180) (wrF_succ (t := 179) rfl) ?_
  refine ag_aload_n X.1 0 dX3_init_18 rfl ?_
  refine ag_iconst (v := 0) X.1 dX3_init_19 (by decide) ?_
  refine ac_putI X zf_RX3_19 rfl rfl rfl rfl rfl (Nat.le_of_ble_eq_true rfl) (Nat.le_of_ble_eq_true rfl) dX3_init_20 (I' := iT 181) (wrF_succ (t := 180) rfl) ?_
  refine ag_aload_n X.1 0 dX3_init_23 rfl ?_
  refine ag_iconst (v := (-1)) X.1 dX3_init_24 (by decide) ?_
  refine ac_putI X zf_RX3_22 rfl rfl rfl rfl rfl (Nat.le_of_ble_eq_true rfl) (Nat.le_of_ble_eq_true rfl) dX3_init_25 (I' := iT 182) (wrF_succ (t := 181) rfl) ?_
  refine ag_aload_n X.1 0 dX3_init_28 rfl ?_
  refine ag_iconst (v := 0) X.1 dX3_init_29 (by decide) ?_
  refine ac_putI X zf_RX3_25 rfl rfl rfl rfl rfl (Nat.le_of_ble_eq_true rfl) (Nat.le_of_ble_eq_true rfl) dX3_init_30 (I' := iT 183) (wrF_succ (t := 182) rfl) ?_
  exact ac_ret X E (Nat.le_of_ble_eq_true rfl) dX3_init_33
set_option maxRecDepth 100000 in
theorem q_82 {l : Launch} {g : zG} : CallC l g 1 1 3 M_X2_init [vR 82] 82 (rT 81) (iT 183) 83 (rT 82) (iT 185) := by
  refine ac_entry (by decide) (Nat.le_of_ble_eq_true rfl) rfl rfl (fun k hk hn0 (X : zXc k g cX2_init RX2 1 none 1 1 3) E => ?_)
  show AG k g (WC g 82 (rT 81) (iT 183)) 0 0 1 0 [(0, vR 82)] []
  subst hk
  refine ag_aload_n X.1 0 dX2_init_0 rfl ?_
  refine ac_objinit X (by decide) zv_197 zv_42 zv_43 (by decide) (Nat.le_of_ble_eq_true rfl) dX2_init_1 ?_
  refine ag_aload_n X.1 0 dX2_init_4 rfl ?_
  refine ag_iconst (v := 3) X.1 dX2_init_5 (by decide) ?_
  refine ac_newi (N := 3) (n1 := 83) (cs1 := 1) (sl1 := 3) X zv_85 rfl (Nat.le_of_ble_eq_true rfl) (wrF_fresh (by decide +kernel)) (by decide) (by decide) (Nat.le_of_ble_eq_true rfl) (Nat.le_of_ble_eq_true rfl) (Nat.le_of_ble_eq_true rfl) dX2_init_6 rfl rfl rfl ?_
  refine ac_putF X zg_RX2_9 rfl rfl rfl (by decide) (fun _ => rfl) (fun _ => rfl) rfl (Nat.le_of_ble_eq_true rfl) (Nat.le_of_ble_eq_true rfl) dX2_init_8 (rf' := rT 82) (wrF_succ (t := 81) rfl) ?_
  refine ag_aload_n X.1 0 dX2_init_11 rfl ?_
  refine ag_iconst (v := 0) X.1 dX2_init_12 (by decide) ?_
  refine ac_putI X zg_RX2_15 rfl rfl rfl rfl rfl (Nat.le_of_ble_eq_true rfl) (Nat.le_of_ble_eq_true rfl) dX2_init_13 (I' := iT 184) (wrF_succ (t := 183) rfl) ?_
  refine ag_aload_n X.1 0 dX2_init_16 rfl ?_
  refine ag_iconst (v := (-1)) X.1 dX2_init_17 (by decide) ?_
  refine ac_putI X zg_RX2_19 rfl rfl rfl rfl rfl (Nat.le_of_ble_eq_true rfl) (Nat.le_of_ble_eq_true rfl) dX2_init_18 (I' := iT 185) (wrF_succ (t := 184) rfl) ?_
  exact ac_ret X E (Nat.le_of_ble_eq_true rfl) dX2_init_21
set_option maxRecDepth 100000 in
theorem q_84 {l : Launch} {g : zG} : CallC l g 1 1 20 M_X0_init [vR 84] 84 (rT 83) (iT 185) 85 (rT 84) (iT 189) := by
  refine ac_entry (by decide) (Nat.le_of_ble_eq_true rfl) rfl rfl (fun k hk hn0 (X : zXc k g cX0_init RX0 1 none 1 1 20) E => ?_)
  show AG k g (WC g 84 (rT 83) (iT 185)) 0 0 1 0 [(0, vR 84)] []
  subst hk
  refine ag_aload_n X.1 0 dX0_init_0 rfl ?_
  refine ac_objinit X (by decide) zv_213 zv_42 zv_43 (by decide) (Nat.le_of_ble_eq_true rfl) dX0_init_1 ?_
  refine ag_aload_n X.1 0 dX0_init_4 rfl ?_
  refine ag_bipush (v := 20) X.1 dX0_init_5 (by decide) ?_
  refine ac_newi (N := 20) (n1 := 85) (cs1 := 1) (sl1 := 20) X zv_85 rfl (Nat.le_of_ble_eq_true rfl) (wrF_fresh (by decide +kernel)) (by decide) (by decide) (Nat.le_of_ble_eq_true rfl) (Nat.le_of_ble_eq_true rfl) (Nat.le_of_ble_eq_true rfl) dX0_init_7 rfl rfl rfl ?_
  refine ac_putF X zg_RX0_9 rfl rfl rfl (by decide) (fun _ => rfl) (fun _ => rfl) rfl (Nat.le_of_ble_eq_true rfl) (Nat.le_of_ble_eq_true rfl) dX0_init_9 (rf' := rT 84) (wrF_succ (t := 83) rfl) ?_
  refine ag_aload_n X.1 0 dX0_init_12 rfl ?_
  refine ag_iconst (v := 0) X.1 dX0_init_13 (by decide) ?_
  refine ac_putI X zg_RX0_15 rfl rfl rfl rfl rfl (Nat.le_of_ble_eq_true rfl) (Nat.le_of_ble_eq_true rfl) dX0_init_14 (I' := iT 186) (wrF_succ (t := 185) rfl) ?_
  refine ag_aload_n X.1 0 dX0_init_17 rfl ?_
  refine ag_iconst (v := 0) X.1 dX0_init_18 (by decide) ?_
  refine ac_putI X zg_RX0_19 rfl rfl rfl rfl rfl (Nat.le_of_ble_eq_true rfl) (Nat.le_of_ble_eq_true rfl) dX0_init_19 (I' := iT 187) (wrF_succ (t := 186) rfl) ?_
  refine ag_aload_n X.1 0 dX0_init_22 rfl ?_
  refine ag_iconst (v := 0) X.1 dX0_init_23 (by decide) ?_
  refine ac_putI X zg_RX0_22 rfl rfl rfl rfl rfl (Nat.le_of_ble_eq_true rfl) (Nat.le_of_ble_eq_true rfl) dX0_init_24 (I' := iT 188) (wrF_succ (t := 187) rfl) ?_
  refine ag_aload_n X.1 0 dX0_init_27 rfl ?_
  refine ag_iconst (v := 0) X.1 dX0_init_28 (by decide) ?_
  refine ac_putI X zg_RX0_25 rfl rfl rfl rfl rfl (Nat.le_of_ble_eq_true rfl) (Nat.le_of_ble_eq_true rfl) dX0_init_29 (I' := iT 189) (wrF_succ (t := 188) rfl) ?_
  exact ac_ret X E (Nat.le_of_ble_eq_true rfl) dX0_init_32
set_option maxRecDepth 100000 in
theorem q_1 {l : Launch} {g : zG} : CallC l g 3 85 2043 M_X6_init [vR 1] 1 (rT 0) (iT 0) 86 (rT 86) (iT 190) := by
  refine ac_entry (by decide) (Nat.le_of_ble_eq_true rfl) rfl rfl (fun k hk hn0 (X : zXc k g cX6_init RX6 2 none 3 85 2043) E => ?_)
  show AG k g (WC g 1 (rT 0) (iT 0)) 0 0 2 0 [(0, vR 1)] []
  subst hk
  refine ag_aload_n X.1 0 dX6_init_0 rfl ?_
  refine ac_objinit X (by decide) zv_41 zv_42 zv_43 (by decide) (Nat.le_of_ble_eq_true rfl) dX6_init_1 ?_
  refine ag_aload_n X.1 0 dX6_init_4 rfl ?_
  refine ac_new (n1 := 2) (cs1 := 1) (sl1 := 10) X zcl_4 zv_44 zv_45 zw_24 rfl (Nat.le_of_ble_eq_true rfl) zdf_4 (wrF_fresh (by decide +kernel)) (wrF_fresh (by decide +kernel)) (Nat.le_of_ble_eq_true rfl) (Nat.le_of_ble_eq_true rfl) dX6_init_5 rfl rfl rfl ?_
  refine ag_dup X.1 dX6_init_8 rfl ?_
  refine ac_call (recv := 2) (as := []) (st := [vR 2, vR 1]) (cs1 := 19) (sl1 := 202) X qm_X4 zv_46 q_2 (by decide) (Nat.le_of_ble_eq_true rfl) rfl rfl (Nat.le_of_ble_eq_true rfl) (Nat.le_of_ble_eq_true rfl) (Nat.le_of_ble_eq_true rfl) (Nat.le_of_ble_eq_true rfl) rfl rfl dX6_init_9 ?_
  refine ac_putF X zf_RX6_10 rfl rfl rfl (by decide) (fun _ => rfl) (fun _ => rfl) rfl (Nat.le_of_ble_eq_true rfl) (Nat.le_of_ble_eq_true rfl) dX6_init_12 (rf' := rT 19) (wrF_succ (t := 18) rfl) ?_
  refine ag_aload_n X.1 0 dX6_init_15 rfl ?_
  refine ac_new (n1 := 21) (cs1 := 20) (sl1 := 212) X zcl_4 zv_44 zv_45 zw_24 rfl (Nat.le_of_ble_eq_true rfl) zdf_4 (wrF_fresh (by decide +kernel)) (wrF_fresh (by decide +kernel)) (Nat.le_of_ble_eq_true rfl) (Nat.le_of_ble_eq_true rfl) dX6_init_16 rfl rfl rfl ?_
  refine ag_dup X.1 dX6_init_19 rfl ?_
  refine ac_call (recv := 21) (as := []) (st := [vR 21, vR 1]) (cs1 := 38) (sl1 := 404) X qm_X4 zv_46 q_21 (by decide) (Nat.le_of_ble_eq_true rfl) rfl rfl (Nat.le_of_ble_eq_true rfl) (Nat.le_of_ble_eq_true rfl) (Nat.le_of_ble_eq_true rfl) (Nat.le_of_ble_eq_true rfl) rfl rfl dX6_init_20 ?_
  refine ac_putF X zf_RX6_16 rfl rfl rfl (by decide) (fun _ => rfl) (fun _ => rfl) rfl (Nat.le_of_ble_eq_true rfl) (Nat.le_of_ble_eq_true rfl) dX6_init_23 (rf' := rT 38) (wrF_succ (t := 37) rfl) ?_
  refine ag_aload_n X.1 0 dX6_init_26 rfl ?_
  refine ac_new (n1 := 40) (cs1 := 39) (sl1 := 414) X zcl_4 zv_44 zv_45 zw_24 rfl (Nat.le_of_ble_eq_true rfl) zdf_4 (wrF_fresh (by decide +kernel)) (wrF_fresh (by decide +kernel)) (Nat.le_of_ble_eq_true rfl) (Nat.le_of_ble_eq_true rfl) dX6_init_27 rfl rfl rfl ?_
  refine ag_dup X.1 dX6_init_30 rfl ?_
  refine ac_call (recv := 40) (as := []) (st := [vR 40, vR 1]) (cs1 := 57) (sl1 := 606) X qm_X4 zv_46 q_40 (by decide) (Nat.le_of_ble_eq_true rfl) rfl rfl (Nat.le_of_ble_eq_true rfl) (Nat.le_of_ble_eq_true rfl) (Nat.le_of_ble_eq_true rfl) (Nat.le_of_ble_eq_true rfl) rfl rfl dX6_init_31 ?_
  refine ac_putF X zg_RX6_19 rfl rfl rfl (by decide) (fun _ => rfl) (fun _ => rfl) rfl (Nat.le_of_ble_eq_true rfl) (Nat.le_of_ble_eq_true rfl) dX6_init_34 (rf' := rT 57) (wrF_succ (t := 56) rfl) ?_
  refine ag_aload_n X.1 0 dX6_init_37 rfl ?_
  refine ac_new (n1 := 59) (cs1 := 58) (sl1 := 613) X zcl_5 zv_135 zv_136 zw_26 rfl (Nat.le_of_ble_eq_true rfl) zdf_5 (wrF_fresh (by decide +kernel)) (wrF_fresh (by decide +kernel)) (Nat.le_of_ble_eq_true rfl) (Nat.le_of_ble_eq_true rfl) dX6_init_38 rfl rfl rfl ?_
  refine ag_dup X.1 dX6_init_41 rfl ?_
  refine ag_aload_n X.1 0 dX6_init_42 rfl ?_
  refine ac_getR (r := 2) X zf_RX6_10 rfl rfl (Nat.le_of_ble_eq_true rfl) (by decide +kernel) dX6_init_43 ?_
  refine ac_call (recv := 59) (as := [vR 2]) (st := [vR 59, vR 1]) (cs1 := 63) (sl1 := 676) X qm_X5 zv_137 q_59 (by decide) (Nat.le_of_ble_eq_true rfl) rfl rfl (Nat.le_of_ble_eq_true rfl) (Nat.le_of_ble_eq_true rfl) (Nat.le_of_ble_eq_true rfl) (Nat.le_of_ble_eq_true rfl) rfl rfl dX6_init_46 ?_
  refine ac_putF X zf_RX6_27 rfl rfl rfl (by decide) (fun _ => rfl) (fun _ => rfl) rfl (Nat.le_of_ble_eq_true rfl) (Nat.le_of_ble_eq_true rfl) dX6_init_49 (rf' := rT 64) (wrF_succ (t := 63) rfl) ?_
  refine ag_aload_n X.1 0 dX6_init_52 rfl ?_
  refine ag_bipush (v := 8) X.1 dX6_init_53 (by decide) ?_
  refine ac_newq (N := 8) (n1 := 65) (cs1 := 64) (sl1 := 684) X (Or.inr rfl) rfl zv_165 (fun h => h.2) rfl (Nat.le_of_ble_eq_true rfl) (wrF_fresh (by decide +kernel)) (by decide) (by decide) (Nat.le_of_ble_eq_true rfl) (Nat.le_of_ble_eq_true rfl) (Nat.le_of_ble_eq_true rfl) dX6_init_55 rfl rfl rfl ?_
  refine ac_putF X zf_RX6_33 rfl rfl rfl (by decide) (fun _ => rfl) (fun _ => rfl) rfl (Nat.le_of_ble_eq_true rfl) (Nat.le_of_ble_eq_true rfl) dX6_init_58 (rf' := rT 65) (wrF_succ (t := 64) rfl) ?_
  refine ag_iconst (v := 0) X.1 dX6_init_61 (by decide) ?_
  refine ag_istore_n X.1 dX6_init_62 (by decide) rfl ?_
  refine ag_iload_n X.1 0 dX6_init_63 rfl ?_
  refine ag_aload_n X.1 1 dX6_init_64 rfl ?_
  refine ac_getR (r := 65) X zf_RX6_33 rfl rfl (Nat.le_of_ble_eq_true rfl) (by decide +kernel) dX6_init_65 ?_
  refine ac_alenq (N := 8) (v := 8) X (Or.inr rfl) rfl (Nat.le_of_ble_eq_true rfl) (Nat.le_of_ble_eq_true rfl) (by decide) dX6_init_68 ?_
  refine ag_icmp_ge X.1 91 dX6_init_69 rfl (fun h => absurd h (by decide)) (fun _ => ?_)
  refine ag_aload_n X.1 1 dX6_init_72 rfl ?_
  refine ac_getR (r := 65) X zf_RX6_33 rfl rfl (Nat.le_of_ble_eq_true rfl) (by decide +kernel) dX6_init_73 ?_
  refine ag_iload_n X.1 0 dX6_init_76 rfl ?_
  refine ac_new (n1 := 66) (cs1 := 65) (sl1 := 689) X zcl_3 zv_165 zv_167 zw_27 rfl (Nat.le_of_ble_eq_true rfl) zdf_3 (wrF_fresh (by decide +kernel)) (wrF_fresh (by decide +kernel)) (Nat.le_of_ble_eq_true rfl) (Nat.le_of_ble_eq_true rfl) dX6_init_77 rfl rfl rfl ?_
  refine ag_dup X.1 dX6_init_80 rfl ?_
  refine ac_call (recv := 66) (as := []) (st := [vR 66, vI 0, vR 65]) (cs1 := 66) (sl1 := 849) X qm_X3 zv_168 q_66 (by decide) (Nat.le_of_ble_eq_true rfl) rfl rfl (Nat.le_of_ble_eq_true rfl) (Nat.le_of_ble_eq_true rfl) (Nat.le_of_ble_eq_true rfl) (Nat.le_of_ble_eq_true rfl) rfl rfl dX6_init_81 ?_
  refine ac_aast (j := 0) X (Or.inr rfl) rfl zcl_3 rfl (Nat.le_of_ble_eq_true rfl) (Nat.le_of_ble_eq_true rfl) rfl (Nat.le_of_ble_eq_true rfl) (vin_c (by decide +kernel)) (by decide) dX6_init_84 (rf' := rT 67) (wrF_succ (t := 66) rfl) ?_
  refine ag_iinc (v := 1) X.1 0 dX6_init_85 rfl (by decide) (by decide) rfl ?_
  refine ag_goto X.1 63 dX6_init_88 rfl ?_
  refine ag_iload_n X.1 0 dX6_init_63 rfl ?_
  refine ag_aload_n X.1 1 dX6_init_64 rfl ?_
  refine ac_getR (r := 65) X zf_RX6_33 rfl rfl (Nat.le_of_ble_eq_true rfl) (by decide +kernel) dX6_init_65 ?_
  refine ac_alenq (N := 8) (v := 8) X (Or.inr rfl) rfl (Nat.le_of_ble_eq_true rfl) (Nat.le_of_ble_eq_true rfl) (by decide) dX6_init_68 ?_
  refine ag_icmp_ge X.1 91 dX6_init_69 rfl (fun h => absurd h (by decide)) (fun _ => ?_)
  refine ag_aload_n X.1 1 dX6_init_72 rfl ?_
  refine ac_getR (r := 65) X zf_RX6_33 rfl rfl (Nat.le_of_ble_eq_true rfl) (by decide +kernel) dX6_init_73 ?_
  refine ag_iload_n X.1 0 dX6_init_76 rfl ?_
  refine ac_new (n1 := 68) (cs1 := 67) (sl1 := 854) X zcl_3 zv_165 zv_167 zw_27 rfl (Nat.le_of_ble_eq_true rfl) zdf_3 (wrF_fresh (by decide +kernel)) (wrF_fresh (by decide +kernel)) (Nat.le_of_ble_eq_true rfl) (Nat.le_of_ble_eq_true rfl) dX6_init_77 rfl rfl rfl ?_
  refine ag_dup X.1 dX6_init_80 rfl ?_
  refine ac_call (recv := 68) (as := []) (st := [vR 68, vI 1, vR 65]) (cs1 := 68) (sl1 := 1014) X qm_X3 zv_168 q_68 (by decide) (Nat.le_of_ble_eq_true rfl) rfl rfl (Nat.le_of_ble_eq_true rfl) (Nat.le_of_ble_eq_true rfl) (Nat.le_of_ble_eq_true rfl) (Nat.le_of_ble_eq_true rfl) rfl rfl dX6_init_81 ?_
  refine ac_aast (j := 1) X (Or.inr rfl) rfl zcl_3 rfl (Nat.le_of_ble_eq_true rfl) (Nat.le_of_ble_eq_true rfl) rfl (Nat.le_of_ble_eq_true rfl) (vin_c (by decide +kernel)) (by decide) dX6_init_84 (rf' := rT 69) (wrF_succ (t := 68) rfl) ?_
  refine ag_iinc (v := 2) X.1 0 dX6_init_85 rfl (by decide) (by decide) rfl ?_
  refine ag_goto X.1 63 dX6_init_88 rfl ?_
  refine ag_iload_n X.1 0 dX6_init_63 rfl ?_
  refine ag_aload_n X.1 1 dX6_init_64 rfl ?_
  refine ac_getR (r := 65) X zf_RX6_33 rfl rfl (Nat.le_of_ble_eq_true rfl) (by decide +kernel) dX6_init_65 ?_
  refine ac_alenq (N := 8) (v := 8) X (Or.inr rfl) rfl (Nat.le_of_ble_eq_true rfl) (Nat.le_of_ble_eq_true rfl) (by decide) dX6_init_68 ?_
  refine ag_icmp_ge X.1 91 dX6_init_69 rfl (fun h => absurd h (by decide)) (fun _ => ?_)
  refine ag_aload_n X.1 1 dX6_init_72 rfl ?_
  refine ac_getR (r := 65) X zf_RX6_33 rfl rfl (Nat.le_of_ble_eq_true rfl) (by decide +kernel) dX6_init_73 ?_
  refine ag_iload_n X.1 0 dX6_init_76 rfl ?_
  refine ac_new (n1 := 70) (cs1 := 69) (sl1 := 1019) X zcl_3 zv_165 zv_167 zw_27 rfl (Nat.le_of_ble_eq_true rfl) zdf_3 (wrF_fresh (by decide +kernel)) (wrF_fresh (by decide +kernel)) (Nat.le_of_ble_eq_true rfl) (Nat.le_of_ble_eq_true rfl) dX6_init_77 rfl rfl rfl ?_
  refine ag_dup X.1 dX6_init_80 rfl ?_
  refine ac_call (recv := 70) (as := []) (st := [vR 70, vI 2, vR 65]) (cs1 := 70) (sl1 := 1179) X qm_X3 zv_168 q_70 (by decide) (Nat.le_of_ble_eq_true rfl) rfl rfl (Nat.le_of_ble_eq_true rfl) (Nat.le_of_ble_eq_true rfl) (Nat.le_of_ble_eq_true rfl) (Nat.le_of_ble_eq_true rfl) rfl rfl dX6_init_81 ?_
  refine ac_aast (j := 2) X (Or.inr rfl) rfl zcl_3 rfl (Nat.le_of_ble_eq_true rfl) (Nat.le_of_ble_eq_true rfl) rfl (Nat.le_of_ble_eq_true rfl) (vin_c (by decide +kernel)) (by decide) dX6_init_84 (rf' := rT 71) (wrF_succ (t := 70) rfl) ?_
  refine ag_iinc (v := 3) X.1 0 dX6_init_85 rfl (by decide) (by decide) rfl ?_
  refine ag_goto X.1 63 dX6_init_88 rfl ?_
  refine ag_iload_n X.1 0 dX6_init_63 rfl ?_
  refine ag_aload_n X.1 1 dX6_init_64 rfl ?_
  refine ac_getR (r := 65) X zf_RX6_33 rfl rfl (Nat.le_of_ble_eq_true rfl) (by decide +kernel) dX6_init_65 ?_
  refine ac_alenq (N := 8) (v := 8) X (Or.inr rfl) rfl (Nat.le_of_ble_eq_true rfl) (Nat.le_of_ble_eq_true rfl) (by decide) dX6_init_68 ?_
  refine ag_icmp_ge X.1 91 dX6_init_69 rfl (fun h => absurd h (by decide)) (fun _ => ?_)
  refine ag_aload_n X.1 1 dX6_init_72 rfl ?_
  refine ac_getR (r := 65) X zf_RX6_33 rfl rfl (Nat.le_of_ble_eq_true rfl) (by decide +kernel) dX6_init_73 ?_
  refine ag_iload_n X.1 0 dX6_init_76 rfl ?_
  refine ac_new (n1 := 72) (cs1 := 71) (sl1 := 1184) X zcl_3 zv_165 zv_167 zw_27 rfl (Nat.le_of_ble_eq_true rfl) zdf_3 (wrF_fresh (by decide +kernel)) (wrF_fresh (by decide +kernel)) (Nat.le_of_ble_eq_true rfl) (Nat.le_of_ble_eq_true rfl) dX6_init_77 rfl rfl rfl ?_
  refine ag_dup X.1 dX6_init_80 rfl ?_
  refine ac_call (recv := 72) (as := []) (st := [vR 72, vI 3, vR 65]) (cs1 := 72) (sl1 := 1344) X qm_X3 zv_168 q_72 (by decide) (Nat.le_of_ble_eq_true rfl) rfl rfl (Nat.le_of_ble_eq_true rfl) (Nat.le_of_ble_eq_true rfl) (Nat.le_of_ble_eq_true rfl) (Nat.le_of_ble_eq_true rfl) rfl rfl dX6_init_81 ?_
  refine ac_aast (j := 3) X (Or.inr rfl) rfl zcl_3 rfl (Nat.le_of_ble_eq_true rfl) (Nat.le_of_ble_eq_true rfl) rfl (Nat.le_of_ble_eq_true rfl) (vin_c (by decide +kernel)) (by decide) dX6_init_84 (rf' := rT 73) (wrF_succ (t := 72) rfl) ?_
  refine ag_iinc (v := 4) X.1 0 dX6_init_85 rfl (by decide) (by decide) rfl ?_
  refine ag_goto X.1 63 dX6_init_88 rfl ?_
  refine ag_iload_n X.1 0 dX6_init_63 rfl ?_
  refine ag_aload_n X.1 1 dX6_init_64 rfl ?_
  refine ac_getR (r := 65) X zf_RX6_33 rfl rfl (Nat.le_of_ble_eq_true rfl) (by decide +kernel) dX6_init_65 ?_
  refine ac_alenq (N := 8) (v := 8) X (Or.inr rfl) rfl (Nat.le_of_ble_eq_true rfl) (Nat.le_of_ble_eq_true rfl) (by decide) dX6_init_68 ?_
  refine ag_icmp_ge X.1 91 dX6_init_69 rfl (fun h => absurd h (by decide)) (fun _ => ?_)
  refine ag_aload_n X.1 1 dX6_init_72 rfl ?_
  refine ac_getR (r := 65) X zf_RX6_33 rfl rfl (Nat.le_of_ble_eq_true rfl) (by decide +kernel) dX6_init_73 ?_
  refine ag_iload_n X.1 0 dX6_init_76 rfl ?_
  refine ac_new (n1 := 74) (cs1 := 73) (sl1 := 1349) X zcl_3 zv_165 zv_167 zw_27 rfl (Nat.le_of_ble_eq_true rfl) zdf_3 (wrF_fresh (by decide +kernel)) (wrF_fresh (by decide +kernel)) (Nat.le_of_ble_eq_true rfl) (Nat.le_of_ble_eq_true rfl) dX6_init_77 rfl rfl rfl ?_
  refine ag_dup X.1 dX6_init_80 rfl ?_
  refine ac_call (recv := 74) (as := []) (st := [vR 74, vI 4, vR 65]) (cs1 := 74) (sl1 := 1509) X qm_X3 zv_168 q_74 (by decide) (Nat.le_of_ble_eq_true rfl) rfl rfl (Nat.le_of_ble_eq_true rfl) (Nat.le_of_ble_eq_true rfl) (Nat.le_of_ble_eq_true rfl) (Nat.le_of_ble_eq_true rfl) rfl rfl dX6_init_81 ?_
  refine ac_aast (j := 4) X (Or.inr rfl) rfl zcl_3 rfl (Nat.le_of_ble_eq_true rfl) (Nat.le_of_ble_eq_true rfl) rfl (Nat.le_of_ble_eq_true rfl) (vin_c (by decide +kernel)) (by decide) dX6_init_84 (rf' := rT 75) (wrF_succ (t := 74) rfl) ?_
  refine ag_iinc (v := 5) X.1 0 dX6_init_85 rfl (by decide) (by decide) rfl ?_
  refine ag_goto X.1 63 dX6_init_88 rfl ?_
  refine ag_iload_n X.1 0 dX6_init_63 rfl ?_
  refine ag_aload_n X.1 1 dX6_init_64 rfl ?_
  refine ac_getR (r := 65) X zf_RX6_33 rfl rfl (Nat.le_of_ble_eq_true rfl) (by decide +kernel) dX6_init_65 ?_
  refine ac_alenq (N := 8) (v := 8) X (Or.inr rfl) rfl (Nat.le_of_ble_eq_true rfl) (Nat.le_of_ble_eq_true rfl) (by decide) dX6_init_68 ?_
  refine ag_icmp_ge X.1 91 dX6_init_69 rfl (fun h => absurd h (by decide)) (fun _ => ?_)
  refine ag_aload_n X.1 1 dX6_init_72 rfl ?_
  refine ac_getR (r := 65) X zf_RX6_33 rfl rfl (Nat.le_of_ble_eq_true rfl) (by decide +kernel) dX6_init_73 ?_
  refine ag_iload_n X.1 0 dX6_init_76 rfl ?_
  refine ac_new (n1 := 76) (cs1 := 75) (sl1 := 1514) X zcl_3 zv_165 zv_167 zw_27 rfl (Nat.le_of_ble_eq_true rfl) zdf_3 (wrF_fresh (by decide +kernel)) (wrF_fresh (by decide +kernel)) (Nat.le_of_ble_eq_true rfl) (Nat.le_of_ble_eq_true rfl) dX6_init_77 rfl rfl rfl ?_
  refine ag_dup X.1 dX6_init_80 rfl ?_
  refine ac_call (recv := 76) (as := []) (st := [vR 76, vI 5, vR 65]) (cs1 := 76) (sl1 := 1674) X qm_X3 zv_168 q_76 (by decide) (Nat.le_of_ble_eq_true rfl) rfl rfl (Nat.le_of_ble_eq_true rfl) (Nat.le_of_ble_eq_true rfl) (Nat.le_of_ble_eq_true rfl) (Nat.le_of_ble_eq_true rfl) rfl rfl dX6_init_81 ?_
  refine ac_aast (j := 5) X (Or.inr rfl) rfl zcl_3 rfl (Nat.le_of_ble_eq_true rfl) (Nat.le_of_ble_eq_true rfl) rfl (Nat.le_of_ble_eq_true rfl) (vin_c (by decide +kernel)) (by decide) dX6_init_84 (rf' := rT 77) (wrF_succ (t := 76) rfl) ?_
  refine ag_iinc (v := 6) X.1 0 dX6_init_85 rfl (by decide) (by decide) rfl ?_
  refine ag_goto X.1 63 dX6_init_88 rfl ?_
  refine ag_iload_n X.1 0 dX6_init_63 rfl ?_
  refine ag_aload_n X.1 1 dX6_init_64 rfl ?_
  refine ac_getR (r := 65) X zf_RX6_33 rfl rfl (Nat.le_of_ble_eq_true rfl) (by decide +kernel) dX6_init_65 ?_
  refine ac_alenq (N := 8) (v := 8) X (Or.inr rfl) rfl (Nat.le_of_ble_eq_true rfl) (Nat.le_of_ble_eq_true rfl) (by decide) dX6_init_68 ?_
  refine ag_icmp_ge X.1 91 dX6_init_69 rfl (fun h => absurd h (by decide)) (fun _ => ?_)
  refine ag_aload_n X.1 1 dX6_init_72 rfl ?_
  refine ac_getR (r := 65) X zf_RX6_33 rfl rfl (Nat.le_of_ble_eq_true rfl) (by decide +kernel) dX6_init_73 ?_
  refine ag_iload_n X.1 0 dX6_init_76 rfl ?_
  refine ac_new (n1 := 78) (cs1 := 77) (sl1 := 1679) X zcl_3 zv_165 zv_167 zw_27 rfl (Nat.le_of_ble_eq_true rfl) zdf_3 (wrF_fresh (by decide +kernel)) (wrF_fresh (by decide +kernel)) (Nat.le_of_ble_eq_true rfl) (Nat.le_of_ble_eq_true rfl) dX6_init_77 rfl rfl rfl ?_
  refine ag_dup X.1 dX6_init_80 rfl ?_
  refine ac_call (recv := 78) (as := []) (st := [vR 78, vI 6, vR 65]) (cs1 := 78) (sl1 := 1839) X qm_X3 zv_168 q_78 (by decide) (Nat.le_of_ble_eq_true rfl) rfl rfl (Nat.le_of_ble_eq_true rfl) (Nat.le_of_ble_eq_true rfl) (Nat.le_of_ble_eq_true rfl) (Nat.le_of_ble_eq_true rfl) rfl rfl dX6_init_81 ?_
  refine ac_aast (j := 6) X (Or.inr rfl) rfl zcl_3 rfl (Nat.le_of_ble_eq_true rfl) (Nat.le_of_ble_eq_true rfl) rfl (Nat.le_of_ble_eq_true rfl) (vin_c (by decide +kernel)) (by decide) dX6_init_84 (rf' := rT 79) (wrF_succ (t := 78) rfl) ?_
  refine ag_iinc (v := 7) X.1 0 dX6_init_85 rfl (by decide) (by decide) rfl ?_
  refine ag_goto X.1 63 dX6_init_88 rfl ?_
  refine ag_iload_n X.1 0 dX6_init_63 rfl ?_
  refine ag_aload_n X.1 1 dX6_init_64 rfl ?_
  refine ac_getR (r := 65) X zf_RX6_33 rfl rfl (Nat.le_of_ble_eq_true rfl) (by decide +kernel) dX6_init_65 ?_
  refine ac_alenq (N := 8) (v := 8) X (Or.inr rfl) rfl (Nat.le_of_ble_eq_true rfl) (Nat.le_of_ble_eq_true rfl) (by decide) dX6_init_68 ?_
  refine ag_icmp_ge X.1 91 dX6_init_69 rfl (fun h => absurd h (by decide)) (fun _ => ?_)
  refine ag_aload_n X.1 1 dX6_init_72 rfl ?_
  refine ac_getR (r := 65) X zf_RX6_33 rfl rfl (Nat.le_of_ble_eq_true rfl) (by decide +kernel) dX6_init_73 ?_
  refine ag_iload_n X.1 0 dX6_init_76 rfl ?_
  refine ac_new (n1 := 80) (cs1 := 79) (sl1 := 1844) X zcl_3 zv_165 zv_167 zw_27 rfl (Nat.le_of_ble_eq_true rfl) zdf_3 (wrF_fresh (by decide +kernel)) (wrF_fresh (by decide +kernel)) (Nat.le_of_ble_eq_true rfl) (Nat.le_of_ble_eq_true rfl) dX6_init_77 rfl rfl rfl ?_
  refine ag_dup X.1 dX6_init_80 rfl ?_
  refine ac_call (recv := 80) (as := []) (st := [vR 80, vI 7, vR 65]) (cs1 := 80) (sl1 := 2004) X qm_X3 zv_168 q_80 (by decide) (Nat.le_of_ble_eq_true rfl) rfl rfl (Nat.le_of_ble_eq_true rfl) (Nat.le_of_ble_eq_true rfl) (Nat.le_of_ble_eq_true rfl) (Nat.le_of_ble_eq_true rfl) rfl rfl dX6_init_81 ?_
  refine ac_aast (j := 7) X (Or.inr rfl) rfl zcl_3 rfl (Nat.le_of_ble_eq_true rfl) (Nat.le_of_ble_eq_true rfl) rfl (Nat.le_of_ble_eq_true rfl) (vin_c (by decide +kernel)) (by decide) dX6_init_84 (rf' := rT 81) (wrF_succ (t := 80) rfl) ?_
  refine ag_iinc (v := 8) X.1 0 dX6_init_85 rfl (by decide) (by decide) rfl ?_
  refine ag_goto X.1 63 dX6_init_88 rfl ?_
  refine ag_iload_n X.1 0 dX6_init_63 rfl ?_
  refine ag_aload_n X.1 1 dX6_init_64 rfl ?_
  refine ac_getR (r := 65) X zf_RX6_33 rfl rfl (Nat.le_of_ble_eq_true rfl) (by decide +kernel) dX6_init_65 ?_
  refine ac_alenq (N := 8) (v := 8) X (Or.inr rfl) rfl (Nat.le_of_ble_eq_true rfl) (Nat.le_of_ble_eq_true rfl) (by decide) dX6_init_68 ?_
  refine ag_icmp_ge X.1 91 dX6_init_69 rfl (fun _ => ?_) (fun h => absurd (by decide) h)
  refine ag_aload_n X.1 1 dX6_init_91 rfl ?_
  refine ac_new (n1 := 82) (cs1 := 81) (sl1 := 2007) X zcl_2 zv_192 zv_193 zv_28 rfl (Nat.le_of_ble_eq_true rfl) zdf_2 (wrF_fresh (by decide +kernel)) (wrF_fresh (by decide +kernel)) (Nat.le_of_ble_eq_true rfl) (Nat.le_of_ble_eq_true rfl) dX6_init_92 rfl rfl rfl ?_
  refine ag_dup X.1 dX6_init_95 rfl ?_
  refine ac_call (recv := 82) (as := []) (st := [vR 82, vR 1]) (cs1 := 82) (sl1 := 2010) X qm_X2 zv_194 q_82 (by decide) (Nat.le_of_ble_eq_true rfl) rfl rfl (Nat.le_of_ble_eq_true rfl) (Nat.le_of_ble_eq_true rfl) (Nat.le_of_ble_eq_true rfl) (Nat.le_of_ble_eq_true rfl) rfl rfl dX6_init_96 ?_
  refine ac_putF X zg_RX6_41 rfl rfl rfl (by decide) (fun _ => rfl) (fun _ => rfl) rfl (Nat.le_of_ble_eq_true rfl) (Nat.le_of_ble_eq_true rfl) dX6_init_99 (rf' := rT 83) (wrF_succ (t := 82) rfl) ?_
  refine ag_aload_n X.1 1 dX6_init_102 rfl ?_
  refine ac_new (n1 := 84) (cs1 := 83) (sl1 := 2015) X zcl_0 zv_208 zv_209 zv_29 rfl (Nat.le_of_ble_eq_true rfl) zdf_0 (wrF_fresh (by decide +kernel)) (wrF_fresh (by decide +kernel)) (Nat.le_of_ble_eq_true rfl) (Nat.le_of_ble_eq_true rfl) dX6_init_103 rfl rfl rfl ?_
  refine ag_dup X.1 dX6_init_106 rfl ?_
  refine ac_call (recv := 84) (as := []) (st := [vR 84, vR 1]) (cs1 := 84) (sl1 := 2035) X qm_X0 zv_210 q_84 (by decide) (Nat.le_of_ble_eq_true rfl) rfl rfl (Nat.le_of_ble_eq_true rfl) (Nat.le_of_ble_eq_true rfl) (Nat.le_of_ble_eq_true rfl) (Nat.le_of_ble_eq_true rfl) rfl rfl dX6_init_107 ?_
  refine ac_putF X zf_RX6_48 rfl rfl rfl (by decide) (fun _ => rfl) (fun _ => rfl) rfl (Nat.le_of_ble_eq_true rfl) (Nat.le_of_ble_eq_true rfl) dX6_init_110 (rf' := rT 85) (wrF_succ (t := 84) rfl) ?_
  refine ag_aload_n X.1 1 dX6_init_113 rfl ?_
  refine ag_bipush (v := 8) X.1 dX6_init_114 (by decide) ?_
  refine ac_newi (N := 8) (n1 := 86) (cs1 := 85) (sl1 := 2043) X zv_85 rfl (Nat.le_of_ble_eq_true rfl) (wrF_fresh (by decide +kernel)) (by decide) (by decide) (Nat.le_of_ble_eq_true rfl) (Nat.le_of_ble_eq_true rfl) (Nat.le_of_ble_eq_true rfl) dX6_init_116 rfl rfl rfl ?_
  refine ac_putF X zf_RX6_52 rfl rfl rfl (by decide) (fun _ => rfl) (fun _ => rfl) rfl (Nat.le_of_ble_eq_true rfl) (Nat.le_of_ble_eq_true rfl) dX6_init_118 (rf' := rT 86) (wrF_succ (t := 85) rfl) ?_
  refine ag_aload_n X.1 1 dX6_init_121 rfl ?_
  refine ag_iconst (v := 0) X.1 dX6_init_122 (by decide) ?_
  refine ac_putI X zf_RX6_56 rfl rfl rfl rfl rfl (Nat.le_of_ble_eq_true rfl) (Nat.le_of_ble_eq_true rfl) dX6_init_123 (I' := iT 190) (wrF_succ (t := 189) rfl) ?_
  exact ac_ret X E (Nat.le_of_ble_eq_true rfl) dX6_init_126
