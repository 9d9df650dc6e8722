theorem dX0_init_0 : decode cX0_init 0 = .ok (.aload_n 0, 1) := by decide +kernel
theorem dX0_init_1 : decode cX0_init 1 = .ok (.invokespecial 3, 3) := by decide +kernel
theorem dX0_init_4 : decode cX0_init 4 = .ok (.aload_n 0, 1) := by decide +kernel
theorem dX0_init_5 : decode cX0_init 5 = .ok (.bipush 20, 2) := by decide +kernel
theorem dX0_init_7 : decode cX0_init 7 = .ok (.newarray .int, 2) := by decide +kernel
theorem dX0_init_9 : decode cX0_init 9 = .ok (.putfield 9, 3) := by decide +kernel
theorem dX0_init_12 : decode cX0_init 12 = .ok (.aload_n 0, 1) := by decide +kernel
theorem dX0_init_13 : decode cX0_init 13 = .ok (.iconst 0, 1) := by decide +kernel
theorem dX0_init_14 : decode cX0_init 14 = .ok (.putfield 15, 3) := by decide +kernel
theorem dX0_init_17 : decode cX0_init 17 = .ok (.aload_n 0, 1) := by decide +kernel
theorem dX0_init_18 : decode cX0_init 18 = .ok (.iconst 0, 1) := by decide +kernel
theorem dX0_init_19 : decode cX0_init 19 = .ok (.putfield 19, 3) := by decide +kernel
theorem dX0_init_22 : decode cX0_init 22 = .ok (.aload_n 0, 1) := by decide +kernel
theorem dX0_init_23 : decode cX0_init 23 = .ok (.iconst 0, 1) := by decide +kernel
theorem dX0_init_24 : decode cX0_init 24 = .ok (.putfield 22, 3) := by decide +kernel
theorem dX0_init_27 : decode cX0_init 27 = .ok (.aload_n 0, 1) := by decide +kernel
theorem dX0_init_28 : decode cX0_init 28 = .ok (.iconst 0, 1) := by decide +kernel
theorem dX0_init_29 : decode cX0_init 29 = .ok (.putfield 25, 3) := by decide +kernel
theorem dX0_init_32 : decode cX0_init 32 = .ok (.return_, 1) := by decide +kernel
theorem dX1_init_0 : decode cX1_init 0 = .ok (.aload_n 0, 1) := by decide +kernel
theorem dX1_init_1 : decode cX1_init 1 = .ok (.invokespecial 3, 3) := by decide +kernel
theorem dX1_init_4 : decode cX1_init 4 = .ok (.aload_n 0, 1) := by decide +kernel
theorem dX1_init_5 : decode cX1_init 5 = .ok (.iconst 0, 1) := by decide +kernel
theorem dX1_init_6 : decode cX1_init 6 = .ok (.putfield 9, 3) := by decide +kernel
theorem dX1_init_9 : decode cX1_init 9 = .ok (.aload_n 0, 1) := by decide +kernel
theorem dX1_init_10 : decode cX1_init 10 = .ok (.iconst 0, 1) := by decide +kernel
theorem dX1_init_11 : decode cX1_init 11 = .ok (.putfield 15, 3) := by decide +kernel
theorem dX1_init_14 : decode cX1_init 14 = .ok (.aload_n 0, 1) := by decide +kernel
theorem dX1_init_15 : decode cX1_init 15 = .ok (.iconst 0, 1) := by decide +kernel
theorem dX1_init_16 : decode cX1_init 16 = .ok (.putfield 18, 3) := by decide +kernel
theorem dX1_init_19 : decode cX1_init 19 = .ok (.aload_n 0, 1) := by decide +kernel
theorem dX1_init_20 : decode cX1_init 20 = .ok (.iconst (-1), 1) := by decide +kernel
theorem dX1_init_21 : decode cX1_init 21 = .ok (.putfield 21, 3) := by decide +kernel
theorem dX1_init_24 : decode cX1_init 24 = .ok (.aload_n 0, 1) := by decide +kernel
theorem dX1_init_25 : decode cX1_init 25 = .ok (.iconst 0, 1) := by decide +kernel
theorem dX1_init_26 : decode cX1_init 26 = .ok (.putfield 24, 3) := by decide +kernel
theorem dX1_init_29 : decode cX1_init 29 = .ok (.aload_n 0, 1) := by decide +kernel
theorem dX1_init_30 : decode cX1_init 30 = .ok (.bipush 16, 2) := by decide +kernel
theorem dX1_init_32 : decode cX1_init 32 = .ok (.newarray .int, 2) := by decide +kernel
theorem dX1_init_34 : decode cX1_init 34 = .ok (.putfield 27, 3) := by decide +kernel
theorem dX1_init_37 : decode cX1_init 37 = .ok (.return_, 1) := by decide +kernel
theorem dX1_isKind_0 : decode cX1_isKind 0 = .ok (.iload_n 0, 1) := by decide +kernel
theorem dX1_isKind_1 : decode cX1_isKind 1 = .ok (.ifCond .lt 15, 3) := by decide +kernel
theorem dX1_isKind_4 : decode cX1_isKind 4 = .ok (.iload_n 0, 1) := by decide +kernel
theorem dX1_isKind_5 : decode cX1_isKind 5 = .ok (.getstatic 31, 3) := by decide +kernel
theorem dX1_isKind_8 : decode cX1_isKind 8 = .ok (.arraylength, 1) := by decide +kernel
theorem dX1_isKind_9 : decode cX1_isKind 9 = .ok (.if_icmp .ge 7, 3) := by decide +kernel
theorem dX1_isKind_12 : decode cX1_isKind 12 = .ok (.iconst 1, 1) := by decide +kernel
theorem dX1_isKind_13 : decode cX1_isKind 13 = .ok (.goto 4, 3) := by decide +kernel
theorem dX1_isKind_16 : decode cX1_isKind 16 = .ok (.iconst 0, 1) := by decide +kernel
theorem dX1_isKind_17 : decode cX1_isKind 17 = .ok (.ireturn, 1) := by decide +kernel
theorem dX1_makeNew_0 : decode cX1_makeNew 0 = .ok (.aload_n 0, 1) := by decide +kernel
theorem dX1_makeNew_1 : decode cX1_makeNew 1 = .ok (.iload_n 1, 1) := by decide +kernel
theorem dX1_makeNew_2 : decode cX1_makeNew 2 = .ok (.putfield 9, 3) := by decide +kernel
theorem dX1_makeNew_5 : decode cX1_makeNew 5 = .ok (.aload_n 0, 1) := by decide +kernel
theorem dX1_makeNew_6 : decode cX1_makeNew 6 = .ok (.iload_n 2, 1) := by decide +kernel
theorem dX1_makeNew_7 : decode cX1_makeNew 7 = .ok (.putfield 15, 3) := by decide +kernel
theorem dX1_makeNew_10 : decode cX1_makeNew 10 = .ok (.aload_n 0, 1) := by decide +kernel
theorem dX1_makeNew_11 : decode cX1_makeNew 11 = .ok (.iload_n 3, 1) := by decide +kernel
theorem dX1_makeNew_12 : decode cX1_makeNew 12 = .ok (.putfield 18, 3) := by decide +kernel
theorem dX1_makeNew_15 : decode cX1_makeNew 15 = .ok (.aload_n 0, 1) := by decide +kernel
theorem dX1_makeNew_16 : decode cX1_makeNew 16 = .ok (.iconst (-1), 1) := by decide +kernel
theorem dX1_makeNew_17 : decode cX1_makeNew 17 = .ok (.putfield 21, 3) := by decide +kernel
theorem dX1_makeNew_20 : decode cX1_makeNew 20 = .ok (.aload_n 0, 1) := by decide +kernel
theorem dX1_makeNew_21 : decode cX1_makeNew 21 = .ok (.iconst 0, 1) := by decide +kernel
theorem dX1_makeNew_22 : decode cX1_makeNew 22 = .ok (.putfield 24, 3) := by decide +kernel
theorem dX1_makeNew_25 : decode cX1_makeNew 25 = .ok (.iconst 0, 1) := by decide +kernel
theorem dX1_makeNew_26 : decode cX1_makeNew 26 = .ok (.istore 4, 2) := by decide +kernel
theorem dX1_makeNew_28 : decode cX1_makeNew 28 = .ok (.iload 4, 2) := by decide +kernel
theorem dX1_makeNew_30 : decode cX1_makeNew 30 = .ok (.aload_n 0, 1) := by decide +kernel
theorem dX1_makeNew_31 : decode cX1_makeNew 31 = .ok (.getfield 27, 3) := by decide +kernel
theorem dX1_makeNew_34 : decode cX1_makeNew 34 = .ok (.arraylength, 1) := by decide +kernel
theorem dX1_makeNew_35 : decode cX1_makeNew 35 = .ok (.if_icmp .ge 17, 3) := by decide +kernel
theorem dX1_makeNew_38 : decode cX1_makeNew 38 = .ok (.aload_n 0, 1) := by decide +kernel
theorem dX1_makeNew_39 : decode cX1_makeNew 39 = .ok (.getfield 27, 3) := by decide +kernel
theorem dX1_makeNew_42 : decode cX1_makeNew 42 = .ok (.iload 4, 2) := by decide +kernel
theorem dX1_makeNew_44 : decode cX1_makeNew 44 = .ok (.iconst 0, 1) := by decide +kernel
theorem dX1_makeNew_45 : decode cX1_makeNew 45 = .ok (.iastore, 1) := by decide +kernel
theorem dX1_makeNew_46 : decode cX1_makeNew 46 = .ok (.iinc 4 1, 3) := by decide +kernel
theorem dX1_makeNew_49 : decode cX1_makeNew 49 = .ok (.goto (-21), 3) := by decide +kernel
theorem dX1_makeNew_52 : decode cX1_makeNew 52 = .ok (.return_, 1) := by decide +kernel
theorem dX1_takeGlass_0 : decode cX1_takeGlass 0 = .ok (.aload_n 0, 1) := by decide +kernel
theorem dX1_takeGlass_1 : decode cX1_takeGlass 1 = .ok (.aload_n 1, 1) := by decide +kernel
theorem dX1_takeGlass_2 : decode cX1_takeGlass 2 = .ok (.getfield 9, 3) := by decide +kernel
theorem dX1_takeGlass_5 : decode cX1_takeGlass 5 = .ok (.putfield 9, 3) := by decide +kernel
theorem dX1_takeGlass_8 : decode cX1_takeGlass 8 = .ok (.aload_n 0, 1) := by decide +kernel
theorem dX1_takeGlass_9 : decode cX1_takeGlass 9 = .ok (.aload_n 1, 1) := by decide +kernel
theorem dX1_takeGlass_10 : decode cX1_takeGlass 10 = .ok (.getfield 15, 3) := by decide +kernel
theorem dX1_takeGlass_13 : decode cX1_takeGlass 13 = .ok (.putfield 15, 3) := by decide +kernel
theorem dX1_takeGlass_16 : decode cX1_takeGlass 16 = .ok (.aload_n 0, 1) := by decide +kernel
theorem dX1_takeGlass_17 : decode cX1_takeGlass 17 = .ok (.aload_n 1, 1) := by decide +kernel
theorem dX1_takeGlass_18 : decode cX1_takeGlass 18 = .ok (.getfield 18, 3) := by decide +kernel
theorem dX1_takeGlass_21 : decode cX1_takeGlass 21 = .ok (.putfield 18, 3) := by decide +kernel
theorem dX1_takeGlass_24 : decode cX1_takeGlass 24 = .ok (.aload_n 0, 1) := by decide +kernel
theorem dX1_takeGlass_25 : decode cX1_takeGlass 25 = .ok (.aload_n 1, 1) := by decide +kernel
theorem dX1_takeGlass_26 : decode cX1_takeGlass 26 = .ok (.getfield 21, 3) := by decide +kernel
theorem dX1_takeGlass_29 : decode cX1_takeGlass 29 = .ok (.putfield 21, 3) := by decide +kernel
theorem dX1_takeGlass_32 : decode cX1_takeGlass 32 = .ok (.aload_n 0, 1) := by decide +kernel
theorem dX1_takeGlass_33 : decode cX1_takeGlass 33 = .ok (.aload_n 1, 1) := by decide +kernel
theorem dX1_takeGlass_34 : decode cX1_takeGlass 34 = .ok (.getfield 24, 3) := by decide +kernel
theorem dX1_takeGlass_37 : decode cX1_takeGlass 37 = .ok (.putfield 24, 3) := by decide +kernel
theorem dX1_takeGlass_40 : decode cX1_takeGlass 40 = .ok (.return_, 1) := by decide +kernel
theorem dX1_takeAll_0 : decode cX1_takeAll 0 = .ok (.aload_n 0, 1) := by decide +kernel
theorem dX1_takeAll_1 : decode cX1_takeAll 1 = .ok (.aload_n 1, 1) := by decide +kernel
theorem dX1_takeAll_2 : decode cX1_takeAll 2 = .ok (.invokevirtual 34, 3) := by decide +kernel
theorem dX1_takeAll_5 : decode cX1_takeAll 5 = .ok (.iconst 0, 1) := by decide +kernel
theorem dX1_takeAll_6 : decode cX1_takeAll 6 = .ok (.istore_n 2, 1) := by decide +kernel
theorem dX1_takeAll_7 : decode cX1_takeAll 7 = .ok (.iload_n 2, 1) := by decide +kernel
theorem dX1_takeAll_8 : decode cX1_takeAll 8 = .ok (.aload_n 0, 1) := by decide +kernel
theorem dX1_takeAll_9 : decode cX1_takeAll 9 = .ok (.getfield 27, 3) := by decide +kernel
theorem dX1_takeAll_12 : decode cX1_takeAll 12 = .ok (.arraylength, 1) := by decide +kernel
theorem dX1_takeAll_13 : decode cX1_takeAll 13 = .ok (.if_icmp .ge 20, 3) := by decide +kernel
theorem dX1_takeAll_16 : decode cX1_takeAll 16 = .ok (.aload_n 0, 1) := by decide +kernel
theorem dX1_takeAll_17 : decode cX1_takeAll 17 = .ok (.getfield 27, 3) := by decide +kernel
theorem dX1_takeAll_20 : decode cX1_takeAll 20 = .ok (.iload_n 2, 1) := by decide +kernel
theorem dX1_takeAll_21 : decode cX1_takeAll 21 = .ok (.aload_n 1, 1) := by decide +kernel
theorem dX1_takeAll_22 : decode cX1_takeAll 22 = .ok (.iload_n 2, 1) := by decide +kernel
theorem dX1_takeAll_23 : decode cX1_takeAll 23 = .ok (.invokevirtual 38, 3) := by decide +kernel
theorem dX1_takeAll_26 : decode cX1_takeAll 26 = .ok (.iastore, 1) := by decide +kernel
theorem dX1_takeAll_27 : decode cX1_takeAll 27 = .ok (.iinc 2 1, 3) := by decide +kernel
theorem dX1_takeAll_30 : decode cX1_takeAll 30 = .ok (.goto (-23), 3) := by decide +kernel
theorem dX1_takeAll_33 : decode cX1_takeAll 33 = .ok (.return_, 1) := by decide +kernel
theorem dX1_isOf_0 : decode cX1_isOf 0 = .ok (.aload_n 0, 1) := by decide +kernel
theorem dX1_isOf_1 : decode cX1_isOf 1 = .ok (.getfield 9, 3) := by decide +kernel
theorem dX1_isOf_4 : decode cX1_isOf 4 = .ok (.istore_n 2, 1) := by decide +kernel
theorem dX1_isOf_5 : decode cX1_isOf 5 = .ok (.iconst 0, 1) := by decide +kernel
theorem dX1_isOf_6 : decode cX1_isOf 6 = .ok (.istore_n 3, 1) := by decide +kernel
theorem dX1_isOf_7 : decode cX1_isOf 7 = .ok (.iload_n 3, 1) := by decide +kernel
theorem dX1_isOf_8 : decode cX1_isOf 8 = .ok (.getstatic 31, 3) := by decide +kernel
theorem dX1_isOf_11 : decode cX1_isOf 11 = .ok (.arraylength, 1) := by decide +kernel
theorem dX1_isOf_12 : decode cX1_isOf 12 = .ok (.if_icmp .ge 36, 3) := by decide +kernel
theorem dX1_isOf_15 : decode cX1_isOf 15 = .ok (.iload_n 2, 1) := by decide +kernel
theorem dX1_isOf_16 : decode cX1_isOf 16 = .ok (.iload_n 1, 1) := by decide +kernel
theorem dX1_isOf_17 : decode cX1_isOf 17 = .ok (.if_icmp .eq 31, 3) := by decide +kernel
theorem dX1_isOf_20 : decode cX1_isOf 20 = .ok (.iload_n 2, 1) := by decide +kernel
theorem dX1_isOf_21 : decode cX1_isOf 21 = .ok (.ifCond .lt 19, 3) := by decide +kernel
theorem dX1_isOf_24 : decode cX1_isOf 24 = .ok (.iload_n 2, 1) := by decide +kernel
theorem dX1_isOf_25 : decode cX1_isOf 25 = .ok (.getstatic 31, 3) := by decide +kernel
theorem dX1_isOf_28 : decode cX1_isOf 28 = .ok (.arraylength, 1) := by decide +kernel
theorem dX1_isOf_29 : decode cX1_isOf 29 = .ok (.if_icmp .ge 11, 3) := by decide +kernel
theorem dX1_isOf_32 : decode cX1_isOf 32 = .ok (.getstatic 31, 3) := by decide +kernel
theorem dX1_isOf_35 : decode cX1_isOf 35 = .ok (.iload_n 2, 1) := by decide +kernel
theorem dX1_isOf_36 : decode cX1_isOf 36 = .ok (.iaload, 1) := by decide +kernel
theorem dX1_isOf_37 : decode cX1_isOf 37 = .ok (.goto 4, 3) := by decide +kernel
theorem dX1_isOf_40 : decode cX1_isOf 40 = .ok (.iconst (-1), 1) := by decide +kernel
theorem dX1_isOf_41 : decode cX1_isOf 41 = .ok (.istore_n 2, 1) := by decide +kernel
theorem dX1_isOf_42 : decode cX1_isOf 42 = .ok (.iinc 3 1, 3) := by decide +kernel
theorem dX1_isOf_45 : decode cX1_isOf 45 = .ok (.goto (-38), 3) := by decide +kernel
theorem dX1_isOf_48 : decode cX1_isOf 48 = .ok (.iload_n 2, 1) := by decide +kernel
theorem dX1_isOf_49 : decode cX1_isOf 49 = .ok (.iload_n 1, 1) := by decide +kernel
theorem dX1_isOf_50 : decode cX1_isOf 50 = .ok (.if_icmp .ne 7, 3) := by decide +kernel
theorem dX1_isOf_53 : decode cX1_isOf 53 = .ok (.iconst 1, 1) := by decide +kernel
theorem dX1_isOf_54 : decode cX1_isOf 54 = .ok (.goto 4, 3) := by decide +kernel
theorem dX1_isOf_57 : decode cX1_isOf 57 = .ok (.iconst 0, 1) := by decide +kernel
theorem dX1_isOf_58 : decode cX1_isOf 58 = .ok (.ireturn, 1) := by decide +kernel
theorem dX1_countedCold_0 : decode cX1_countedCold 0 = .ok (.aload_n 0, 1) := by decide +kernel
theorem dX1_countedCold_1 : decode cX1_countedCold 1 = .ok (.iconst 2, 1) := by decide +kernel
theorem dX1_countedCold_2 : decode cX1_countedCold 2 = .ok (.invokevirtual 42, 3) := by decide +kernel
theorem dX1_countedCold_5 : decode cX1_countedCold 5 = .ok (.ifCond .eq 16, 3) := by decide +kernel
theorem dX1_countedCold_8 : decode cX1_countedCold 8 = .ok (.iload_n 1, 1) := by decide +kernel
theorem dX1_countedCold_9 : decode cX1_countedCold 9 = .ok (.aload_n 0, 1) := by decide +kernel
theorem dX1_countedCold_10 : decode cX1_countedCold 10 = .ok (.getfield 18, 3) := by decide +kernel
theorem dX1_countedCold_13 : decode cX1_countedCold 13 = .ok (.isub, 1) := by decide +kernel
theorem dX1_countedCold_14 : decode cX1_countedCold 14 = .ok (.iconst 0, 1) := by decide +kernel
theorem dX1_countedCold_15 : decode cX1_countedCold 15 = .ok (.invokestatic 46, 3) := by decide +kernel
theorem dX1_countedCold_18 : decode cX1_countedCold 18 = .ok (.goto 4, 3) := by decide +kernel
theorem dX1_countedCold_21 : decode cX1_countedCold 21 = .ok (.iload_n 1, 1) := by decide +kernel
theorem dX1_countedCold_22 : decode cX1_countedCold 22 = .ok (.ireturn, 1) := by decide +kernel
theorem dX1_sharpness_0 : decode cX1_sharpness 0 = .ok (.aload_n 0, 1) := by decide +kernel
theorem dX1_sharpness_1 : decode cX1_sharpness 1 = .ok (.iload_n 1, 1) := by decide +kernel
theorem dX1_sharpness_2 : decode cX1_sharpness 2 = .ok (.invokevirtual 52, 3) := by decide +kernel
theorem dX1_sharpness_5 : decode cX1_sharpness 5 = .ok (.iload_n 2, 1) := by decide +kernel
theorem dX1_sharpness_6 : decode cX1_sharpness 6 = .ok (.imul, 1) := by decide +kernel
theorem dX1_sharpness_7 : decode cX1_sharpness 7 = .ok (.bipush 20, 2) := by decide +kernel
theorem dX1_sharpness_9 : decode cX1_sharpness 9 = .ok (.idiv, 1) := by decide +kernel
theorem dX1_sharpness_10 : decode cX1_sharpness 10 = .ok (.istore_n 3, 1) := by decide +kernel
theorem dX1_sharpness_11 : decode cX1_sharpness 11 = .ok (.aload_n 0, 1) := by decide +kernel
theorem dX1_sharpness_12 : decode cX1_sharpness 12 = .ok (.iconst 1, 1) := by decide +kernel
theorem dX1_sharpness_13 : decode cX1_sharpness 13 = .ok (.invokevirtual 42, 3) := by decide +kernel
theorem dX1_sharpness_16 : decode cX1_sharpness 16 = .ok (.ifCond .eq 17, 3) := by decide +kernel
theorem dX1_sharpness_19 : decode cX1_sharpness 19 = .ok (.iload_n 3, 1) := by decide +kernel
theorem dX1_sharpness_20 : decode cX1_sharpness 20 = .ok (.iconst 1, 1) := by decide +kernel
theorem dX1_sharpness_21 : decode cX1_sharpness 21 = .ok (.if_icmp .lt 12, 3) := by decide +kernel
theorem dX1_sharpness_24 : decode cX1_sharpness 24 = .ok (.iload_n 3, 1) := by decide +kernel
theorem dX1_sharpness_25 : decode cX1_sharpness 25 = .ok (.aload_n 0, 1) := by decide +kernel
theorem dX1_sharpness_26 : decode cX1_sharpness 26 = .ok (.getfield 18, 3) := by decide +kernel
theorem dX1_sharpness_29 : decode cX1_sharpness 29 = .ok (.iadd, 1) := by decide +kernel
theorem dX1_sharpness_30 : decode cX1_sharpness 30 = .ok (.goto 4, 3) := by decide +kernel
theorem dX1_sharpness_33 : decode cX1_sharpness 33 = .ok (.iload_n 3, 1) := by decide +kernel
theorem dX1_sharpness_34 : decode cX1_sharpness 34 = .ok (.ireturn, 1) := by decide +kernel
theorem dX1_laceRow_0 : decode cX1_laceRow 0 = .ok (.aload_n 0, 1) := by decide +kernel
theorem dX1_laceRow_1 : decode cX1_laceRow 1 = .ok (.getfield 18, 3) := by decide +kernel
theorem dX1_laceRow_4 : decode cX1_laceRow 4 = .ok (.iconst 4, 1) := by decide +kernel
theorem dX1_laceRow_5 : decode cX1_laceRow 5 = .ok (.irem, 1) := by decide +kernel
theorem dX1_laceRow_6 : decode cX1_laceRow 6 = .ok (.ireturn, 1) := by decide +kernel
theorem dX1_patternWith_0 : decode cX1_patternWith 0 = .ok (.aload_n 0, 1) := by decide +kernel
theorem dX1_patternWith_1 : decode cX1_patternWith 1 = .ok (.getfield 9, 3) := by decide +kernel
theorem dX1_patternWith_4 : decode cX1_patternWith 4 = .ok (.iconst 5, 1) := by decide +kernel
theorem dX1_patternWith_5 : decode cX1_patternWith 5 = .ok (.if_icmp .ne 15, 3) := by decide +kernel
theorem dX1_patternWith_8 : decode cX1_patternWith 8 = .ok (.iload_n 1, 1) := by decide +kernel
theorem dX1_patternWith_9 : decode cX1_patternWith 9 = .ok (.bipush 15, 2) := by decide +kernel
theorem dX1_patternWith_11 : decode cX1_patternWith 11 = .ok (.iconst 4, 1) := by decide +kernel
theorem dX1_patternWith_12 : decode cX1_patternWith 12 = .ok (.aload_n 0, 1) := by decide +kernel
theorem dX1_patternWith_13 : decode cX1_patternWith 13 = .ok (.invokevirtual 55, 3) := by decide +kernel
theorem dX1_patternWith_16 : decode cX1_patternWith 16 = .ok (.imul, 1) := by decide +kernel
theorem dX1_patternWith_17 : decode cX1_patternWith 17 = .ok (.ishl, 1) := by decide +kernel
theorem dX1_patternWith_18 : decode cX1_patternWith 18 = .ok (.ior, 1) := by decide +kernel
theorem dX1_patternWith_19 : decode cX1_patternWith 19 = .ok (.ireturn, 1) := by decide +kernel
theorem dX1_patternWith_20 : decode cX1_patternWith 20 = .ok (.aload_n 0, 1) := by decide +kernel
theorem dX1_patternWith_21 : decode cX1_patternWith 21 = .ok (.getfield 9, 3) := by decide +kernel
theorem dX1_patternWith_24 : decode cX1_patternWith 24 = .ok (.bipush 6, 2) := by decide +kernel
theorem dX1_patternWith_26 : decode cX1_patternWith 26 = .ok (.if_icmp .ne 11, 3) := by decide +kernel
theorem dX1_patternWith_29 : decode cX1_patternWith 29 = .ok (.iload_n 1, 1) := by decide +kernel
theorem dX1_patternWith_30 : decode cX1_patternWith 30 = .ok (.sipush 4095, 3) := by decide +kernel
theorem dX1_patternWith_33 : decode cX1_patternWith 33 = .ok (.iand, 1) := by decide +kernel
theorem dX1_patternWith_34 : decode cX1_patternWith 34 = .ok (.goto 4, 3) := by decide +kernel
theorem dX1_patternWith_37 : decode cX1_patternWith 37 = .ok (.iload_n 1, 1) := by decide +kernel
theorem dX1_patternWith_38 : decode cX1_patternWith 38 = .ok (.ireturn, 1) := by decide +kernel
theorem dX1_freezeWith_0 : decode cX1_freezeWith 0 = .ok (.aload_n 0, 1) := by decide +kernel
theorem dX1_freezeWith_1 : decode cX1_freezeWith 1 = .ok (.iload_n 1, 1) := by decide +kernel
theorem dX1_freezeWith_2 : decode cX1_freezeWith 2 = .ok (.invokevirtual 59, 3) := by decide +kernel
theorem dX1_freezeWith_5 : decode cX1_freezeWith 5 = .ok (.istore 4, 2) := by decide +kernel
theorem dX1_freezeWith_7 : decode cX1_freezeWith 7 = .ok (.iload_n 2, 1) := by decide +kernel
theorem dX1_freezeWith_8 : decode cX1_freezeWith 8 = .ok (.bipush 20, 2) := by decide +kernel
theorem dX1_freezeWith_10 : decode cX1_freezeWith 10 = .ok (.invokestatic 62, 3) := by decide +kernel
theorem dX1_freezeWith_13 : decode cX1_freezeWith 13 = .ok (.istore 5, 2) := by decide +kernel
theorem dX1_freezeWith_15 : decode cX1_freezeWith 15 = .ok (.iconst 0, 1) := by decide +kernel
theorem dX1_freezeWith_16 : decode cX1_freezeWith 16 = .ok (.istore 6, 2) := by decide +kernel
theorem dX1_freezeWith_18 : decode cX1_freezeWith 18 = .ok (.iload 6, 2) := by decide +kernel
theorem dX1_freezeWith_20 : decode cX1_freezeWith 20 = .ok (.aload_n 0, 1) := by decide +kernel
theorem dX1_freezeWith_21 : decode cX1_freezeWith 21 = .ok (.getfield 27, 3) := by decide +kernel
theorem dX1_freezeWith_24 : decode cX1_freezeWith 24 = .ok (.arraylength, 1) := by decide +kernel
theorem dX1_freezeWith_25 : decode cX1_freezeWith 25 = .ok (.if_icmp .ge 27, 3) := by decide +kernel
theorem dX1_freezeWith_28 : decode cX1_freezeWith 28 = .ok (.aload_n 0, 1) := by decide +kernel
theorem dX1_freezeWith_29 : decode cX1_freezeWith 29 = .ok (.getfield 27, 3) := by decide +kernel
theorem dX1_freezeWith_32 : decode cX1_freezeWith 32 = .ok (.iload 6, 2) := by decide +kernel
theorem dX1_freezeWith_34 : decode cX1_freezeWith 34 = .ok (.aload_n 0, 1) := by decide +kernel
theorem dX1_freezeWith_35 : decode cX1_freezeWith 35 = .ok (.iload 6, 2) := by decide +kernel
theorem dX1_freezeWith_37 : decode cX1_freezeWith 37 = .ok (.iload 4, 2) := by decide +kernel
theorem dX1_freezeWith_39 : decode cX1_freezeWith 39 = .ok (.iload 5, 2) := by decide +kernel
theorem dX1_freezeWith_41 : decode cX1_freezeWith 41 = .ok (.iload_n 3, 1) := by decide +kernel
theorem dX1_freezeWith_42 : decode cX1_freezeWith 42 = .ok (.invokevirtual 65, 3) := by decide +kernel
theorem dX1_freezeWith_45 : decode cX1_freezeWith 45 = .ok (.iastore, 1) := by decide +kernel
theorem dX1_freezeWith_46 : decode cX1_freezeWith 46 = .ok (.iinc 6 1, 3) := by decide +kernel
theorem dX1_freezeWith_49 : decode cX1_freezeWith 49 = .ok (.goto (-31), 3) := by decide +kernel
theorem dX1_freezeWith_52 : decode cX1_freezeWith 52 = .ok (.return_, 1) := by decide +kernel
theorem dX1_freshIce_0 : decode cX1_freshIce 0 = .ok (.aload_n 0, 1) := by decide +kernel
theorem dX1_freshIce_1 : decode cX1_freshIce 1 = .ok (.getfield 24, 3) := by decide +kernel
theorem dX1_freshIce_4 : decode cX1_freshIce 4 = .ok (.iload_n 1, 1) := by decide +kernel
theorem dX1_freshIce_5 : decode cX1_freshIce 5 = .ok (.invokestatic 69, 3) := by decide +kernel
theorem dX1_freshIce_8 : decode cX1_freshIce 8 = .ok (.ifCond .eq 5, 3) := by decide +kernel
theorem dX1_freshIce_11 : decode cX1_freshIce 11 = .ok (.iconst 0, 1) := by decide +kernel
theorem dX1_freshIce_12 : decode cX1_freshIce 12 = .ok (.ireturn, 1) := by decide +kernel
theorem dX1_freshIce_13 : decode cX1_freshIce 13 = .ok (.iload_n 2, 1) := by decide +kernel
theorem dX1_freshIce_14 : decode cX1_freshIce 14 = .ok (.iload_n 1, 1) := by decide +kernel
theorem dX1_freshIce_15 : decode cX1_freshIce 15 = .ok (.invokestatic 69, 3) := by decide +kernel
theorem dX1_freshIce_18 : decode cX1_freshIce 18 = .ok (.ifCond .eq 5, 3) := by decide +kernel
theorem dX1_freshIce_21 : decode cX1_freshIce 21 = .ok (.iload_n 3, 1) := by decide +kernel
theorem dX1_freshIce_22 : decode cX1_freshIce 22 = .ok (.ireturn, 1) := by decide +kernel
theorem dX1_freshIce_23 : decode cX1_freshIce 23 = .ok (.aload_n 0, 1) := by decide +kernel
theorem dX1_freshIce_24 : decode cX1_freshIce 24 = .ok (.getfield 9, 3) := by decide +kernel
theorem dX1_freshIce_27 : decode cX1_freshIce 27 = .ok (.bipush 6, 2) := by decide +kernel
theorem dX1_freshIce_29 : decode cX1_freshIce 29 = .ok (.if_icmp .ne 13, 3) := by decide +kernel
theorem dX1_freshIce_32 : decode cX1_freshIce 32 = .ok (.iload_n 1, 1) := by decide +kernel
theorem dX1_freshIce_33 : decode cX1_freshIce 33 = .ok (.bipush 12, 2) := by decide +kernel
theorem dX1_freshIce_35 : decode cX1_freshIce 35 = .ok (.if_icmp .lt 7, 3) := by decide +kernel
theorem dX1_freshIce_38 : decode cX1_freshIce 38 = .ok (.iconst 1, 1) := by decide +kernel
theorem dX1_freshIce_39 : decode cX1_freshIce 39 = .ok (.goto 4, 3) := by decide +kernel
theorem dX1_freshIce_42 : decode cX1_freshIce 42 = .ok (.iconst 0, 1) := by decide +kernel
theorem dX1_freshIce_43 : decode cX1_freshIce 43 = .ok (.istore 5, 2) := by decide +kernel
theorem dX1_freshIce_45 : decode cX1_freshIce 45 = .ok (.iload_n 2, 1) := by decide +kernel
theorem dX1_freshIce_46 : decode cX1_freshIce 46 = .ok (.iload_n 1, 1) := by decide +kernel
theorem dX1_freshIce_47 : decode cX1_freshIce 47 = .ok (.invokestatic 73, 3) := by decide +kernel
theorem dX1_freshIce_50 : decode cX1_freshIce 50 = .ok (.iand, 1) := by decide +kernel
theorem dX1_freshIce_51 : decode cX1_freshIce 51 = .ok (.invokestatic 76, 3) := by decide +kernel
theorem dX1_freshIce_54 : decode cX1_freshIce 54 = .ok (.istore 6, 2) := by decide +kernel
theorem dX1_freshIce_56 : decode cX1_freshIce 56 = .ok (.iload 4, 2) := by decide +kernel
theorem dX1_freshIce_58 : decode cX1_freshIce 58 = .ok (.bipush 6, 2) := by decide +kernel
theorem dX1_freshIce_60 : decode cX1_freshIce 60 = .ok (.if_icmp .lt 13, 3) := by decide +kernel
theorem dX1_freshIce_63 : decode cX1_freshIce 63 = .ok (.iload 6, 2) := by decide +kernel
theorem dX1_freshIce_65 : decode cX1_freshIce 65 = .ok (.iconst 3, 1) := by decide +kernel
theorem dX1_freshIce_66 : decode cX1_freshIce 66 = .ok (.if_icmp .lt 7, 3) := by decide +kernel
theorem dX1_freshIce_69 : decode cX1_freshIce 69 = .ok (.iconst 1, 1) := by decide +kernel
theorem dX1_freshIce_70 : decode cX1_freshIce 70 = .ok (.goto 4, 3) := by decide +kernel
theorem dX1_freshIce_73 : decode cX1_freshIce 73 = .ok (.iconst 0, 1) := by decide +kernel
theorem dX1_freshIce_74 : decode cX1_freshIce 74 = .ok (.istore 7, 2) := by decide +kernel
theorem dX1_freshIce_76 : decode cX1_freshIce 76 = .ok (.iload 7, 2) := by decide +kernel
theorem dX1_freshIce_78 : decode cX1_freshIce 78 = .ok (.ifCond .eq 14, 3) := by decide +kernel
theorem dX1_freshIce_81 : decode cX1_freshIce 81 = .ok (.iload 5, 2) := by decide +kernel
theorem dX1_freshIce_83 : decode cX1_freshIce 83 = .ok (.ifCond .ne 9, 3) := by decide +kernel
theorem dX1_freshIce_86 : decode cX1_freshIce 86 = .ok (.iload_n 3, 1) := by decide +kernel
theorem dX1_freshIce_87 : decode cX1_freshIce 87 = .ok (.iconst 2, 1) := by decide +kernel
theorem dX1_freshIce_88 : decode cX1_freshIce 88 = .ok (.idiv, 1) := by decide +kernel
theorem dX1_freshIce_89 : decode cX1_freshIce 89 = .ok (.goto 4, 3) := by decide +kernel
theorem dX1_freshIce_92 : decode cX1_freshIce 92 = .ok (.iconst 0, 1) := by decide +kernel
theorem dX1_freshIce_93 : decode cX1_freshIce 93 = .ok (.ireturn, 1) := by decide +kernel
theorem dX1_melting_0 : decode cX1_melting 0 = .ok (.aload_n 0, 1) := by decide +kernel
theorem dX1_melting_1 : decode cX1_melting 1 = .ok (.iconst 3, 1) := by decide +kernel
theorem dX1_melting_2 : decode cX1_melting 2 = .ok (.invokevirtual 42, 3) := by decide +kernel
theorem dX1_melting_5 : decode cX1_melting 5 = .ok (.ifCond .eq 12, 3) := by decide +kernel
theorem dX1_melting_8 : decode cX1_melting 8 = .ok (.iload_n 2, 1) := by decide +kernel
theorem dX1_melting_9 : decode cX1_melting 9 = .ok (.aload_n 0, 1) := by decide +kernel
theorem dX1_melting_10 : decode cX1_melting 10 = .ok (.getfield 15, 3) := by decide +kernel
theorem dX1_melting_13 : decode cX1_melting 13 = .ok (.iadd, 1) := by decide +kernel
theorem dX1_melting_14 : decode cX1_melting 14 = .ok (.goto 11, 3) := by decide +kernel
theorem dX1_melting_17 : decode cX1_melting 17 = .ok (.iload_n 2, 1) := by decide +kernel
theorem dX1_melting_18 : decode cX1_melting 18 = .ok (.aload_n 0, 1) := by decide +kernel
theorem dX1_melting_19 : decode cX1_melting 19 = .ok (.getfield 15, 3) := by decide +kernel
theorem dX1_melting_22 : decode cX1_melting 22 = .ok (.iconst 3, 1) := by decide +kernel
theorem dX1_melting_23 : decode cX1_melting 23 = .ok (.idiv, 1) := by decide +kernel
theorem dX1_melting_24 : decode cX1_melting 24 = .ok (.iadd, 1) := by decide +kernel
theorem dX1_melting_25 : decode cX1_melting 25 = .ok (.istore_n 3, 1) := by decide +kernel
theorem dX1_melting_26 : decode cX1_melting 26 = .ok (.aload_n 0, 1) := by decide +kernel
theorem dX1_melting_27 : decode cX1_melting 27 = .ok (.getfield 9, 3) := by decide +kernel
theorem dX1_melting_30 : decode cX1_melting 30 = .ok (.iconst 4, 1) := by decide +kernel
theorem dX1_melting_31 : decode cX1_melting 31 = .ok (.if_icmp .ne 17, 3) := by decide +kernel
theorem dX1_melting_34 : decode cX1_melting 34 = .ok (.iload_n 1, 1) := by decide +kernel
theorem dX1_melting_35 : decode cX1_melting 35 = .ok (.aload_n 0, 1) := by decide +kernel
theorem dX1_melting_36 : decode cX1_melting 36 = .ok (.getfield 18, 3) := by decide +kernel
theorem dX1_melting_39 : decode cX1_melting 39 = .ok (.if_icmp .lt 9, 3) := by decide +kernel
theorem dX1_melting_42 : decode cX1_melting 42 = .ok (.iload_n 3, 1) := by decide +kernel
theorem dX1_melting_43 : decode cX1_melting 43 = .ok (.iconst 3, 1) := by decide +kernel
theorem dX1_melting_44 : decode cX1_melting 44 = .ok (.iadd, 1) := by decide +kernel
theorem dX1_melting_45 : decode cX1_melting 45 = .ok (.goto 4, 3) := by decide +kernel
theorem dX1_melting_48 : decode cX1_melting 48 = .ok (.iload_n 3, 1) := by decide +kernel
theorem dX1_melting_49 : decode cX1_melting 49 = .ok (.ireturn, 1) := by decide +kernel
theorem dX1_passHours_0 : decode cX1_passHours 0 = .ok (.iload_n 1, 1) := by decide +kernel
theorem dX1_passHours_1 : decode cX1_passHours 1 = .ok (.istore 4, 2) := by decide +kernel
theorem dX1_passHours_3 : decode cX1_passHours 3 = .ok (.iload 4, 2) := by decide +kernel
theorem dX1_passHours_5 : decode cX1_passHours 5 = .ok (.iload_n 2, 1) := by decide +kernel
theorem dX1_passHours_6 : decode cX1_passHours 6 = .ok (.if_icmp .ge 27, 3) := by decide +kernel
theorem dX1_passHours_9 : decode cX1_passHours 9 = .ok (.iload 4, 2) := by decide +kernel
theorem dX1_passHours_11 : decode cX1_passHours 11 = .ok (.bipush 24, 2) := by decide +kernel
theorem dX1_passHours_13 : decode cX1_passHours 13 = .ok (.if_icmp .ge 20, 3) := by decide +kernel
theorem dX1_passHours_16 : decode cX1_passHours 16 = .ok (.aload_n 0, 1) := by decide +kernel
theorem dX1_passHours_17 : decode cX1_passHours 17 = .ok (.aload_n 0, 1) := by decide +kernel
theorem dX1_passHours_18 : decode cX1_passHours 18 = .ok (.iload 4, 2) := by decide +kernel
theorem dX1_passHours_20 : decode cX1_passHours 20 = .ok (.iload_n 3, 1) := by decide +kernel
theorem dX1_passHours_21 : decode cX1_passHours 21 = .ok (.invokevirtual 81, 3) := by decide +kernel
theorem dX1_passHours_24 : decode cX1_passHours 24 = .ok (.invokevirtual 84, 3) := by decide +kernel
theorem dX1_passHours_27 : decode cX1_passHours 27 = .ok (.iinc 4 1, 3) := by decide +kernel
theorem dX1_passHours_30 : decode cX1_passHours 30 = .ok (.goto (-27), 3) := by decide +kernel
theorem dX1_passHours_33 : decode cX1_passHours 33 = .ok (.return_, 1) := by decide +kernel
theorem dX1_meltBy_0 : decode cX1_meltBy 0 = .ok (.aload_n 0, 1) := by decide +kernel
theorem dX1_meltBy_1 : decode cX1_meltBy 1 = .ok (.invokevirtual 88, 3) := by decide +kernel
theorem dX1_meltBy_4 : decode cX1_meltBy 4 = .ok (.istore_n 2, 1) := by decide +kernel
theorem dX1_meltBy_5 : decode cX1_meltBy 5 = .ok (.iload_n 1, 1) := by decide +kernel
theorem dX1_meltBy_6 : decode cX1_meltBy 6 = .ok (.ifCond .le 7, 3) := by decide +kernel
theorem dX1_meltBy_9 : decode cX1_meltBy 9 = .ok (.iload_n 2, 1) := by decide +kernel
theorem dX1_meltBy_10 : decode cX1_meltBy 10 = .ok (.ifCond .ne 4, 3) := by decide +kernel
theorem dX1_meltBy_13 : decode cX1_meltBy 13 = .ok (.return_, 1) := by decide +kernel
theorem dX1_meltBy_14 : decode cX1_meltBy 14 = .ok (.iload_n 2, 1) := by decide +kernel
theorem dX1_meltBy_15 : decode cX1_meltBy 15 = .ok (.iconst 1, 1) := by decide +kernel
theorem dX1_meltBy_16 : decode cX1_meltBy 16 = .ok (.ishl, 1) := by decide +kernel
theorem dX1_meltBy_17 : decode cX1_meltBy 17 = .ok (.iload_n 2, 1) := by decide +kernel
theorem dX1_meltBy_18 : decode cX1_meltBy 18 = .ok (.iconst 1, 1) := by decide +kernel
theorem dX1_meltBy_19 : decode cX1_meltBy 19 = .ok (.ishr, 1) := by decide +kernel
theorem dX1_meltBy_20 : decode cX1_meltBy 20 = .ok (.iand, 1) := by decide +kernel
theorem dX1_meltBy_21 : decode cX1_meltBy 21 = .ok (.sipush 26214, 3) := by decide +kernel
theorem dX1_meltBy_24 : decode cX1_meltBy 24 = .ok (.iand, 1) := by decide +kernel
theorem dX1_meltBy_25 : decode cX1_meltBy 25 = .ok (.istore_n 3, 1) := by decide +kernel
theorem dX1_meltBy_26 : decode cX1_meltBy 26 = .ok (.iconst 0, 1) := by decide +kernel
theorem dX1_meltBy_27 : decode cX1_meltBy 27 = .ok (.istore 4, 2) := by decide +kernel
theorem dX1_meltBy_29 : decode cX1_meltBy 29 = .ok (.iload 4, 2) := by decide +kernel
theorem dX1_meltBy_31 : decode cX1_meltBy 31 = .ok (.aload_n 0, 1) := by decide +kernel
theorem dX1_meltBy_32 : decode cX1_meltBy 32 = .ok (.getfield 27, 3) := by decide +kernel
theorem dX1_meltBy_35 : decode cX1_meltBy 35 = .ok (.arraylength, 1) := by decide +kernel
theorem dX1_meltBy_36 : decode cX1_meltBy 36 = .ok (.if_icmp .ge 48, 3) := by decide +kernel
theorem dX1_meltBy_39 : decode cX1_meltBy 39 = .ok (.iload_n 3, 1) := by decide +kernel
theorem dX1_meltBy_40 : decode cX1_meltBy 40 = .ok (.iload 4, 2) := by decide +kernel
theorem dX1_meltBy_42 : decode cX1_meltBy 42 = .ok (.invokestatic 69, 3) := by decide +kernel
theorem dX1_meltBy_45 : decode cX1_meltBy 45 = .ok (.ifCond .eq 7, 3) := by decide +kernel
theorem dX1_meltBy_48 : decode cX1_meltBy 48 = .ok (.iload_n 1, 1) := by decide +kernel
theorem dX1_meltBy_49 : decode cX1_meltBy 49 = .ok (.goto 6, 3) := by decide +kernel
theorem dX1_meltBy_52 : decode cX1_meltBy 52 = .ok (.iload_n 1, 1) := by decide +kernel
theorem dX1_meltBy_53 : decode cX1_meltBy 53 = .ok (.iconst 1, 1) := by decide +kernel
theorem dX1_meltBy_54 : decode cX1_meltBy 54 = .ok (.iadd, 1) := by decide +kernel
theorem dX1_meltBy_55 : decode cX1_meltBy 55 = .ok (.istore 5, 2) := by decide +kernel
theorem dX1_meltBy_57 : decode cX1_meltBy 57 = .ok (.aload_n 0, 1) := by decide +kernel
theorem dX1_meltBy_58 : decode cX1_meltBy 58 = .ok (.getfield 27, 3) := by decide +kernel
theorem dX1_meltBy_61 : decode cX1_meltBy 61 = .ok (.iload 4, 2) := by decide +kernel
theorem dX1_meltBy_63 : decode cX1_meltBy 63 = .ok (.aload_n 0, 1) := by decide +kernel
theorem dX1_meltBy_64 : decode cX1_meltBy 64 = .ok (.getfield 27, 3) := by decide +kernel
theorem dX1_meltBy_67 : decode cX1_meltBy 67 = .ok (.iload 4, 2) := by decide +kernel
theorem dX1_meltBy_69 : decode cX1_meltBy 69 = .ok (.iaload, 1) := by decide +kernel
theorem dX1_meltBy_70 : decode cX1_meltBy 70 = .ok (.iload 5, 2) := by decide +kernel
theorem dX1_meltBy_72 : decode cX1_meltBy 72 = .ok (.isub, 1) := by decide +kernel
theorem dX1_meltBy_73 : decode cX1_meltBy 73 = .ok (.iconst 0, 1) := by decide +kernel
theorem dX1_meltBy_74 : decode cX1_meltBy 74 = .ok (.invokestatic 46, 3) := by decide +kernel
theorem dX1_meltBy_77 : decode cX1_meltBy 77 = .ok (.iastore, 1) := by decide +kernel
theorem dX1_meltBy_78 : decode cX1_meltBy 78 = .ok (.iinc 4 1, 3) := by decide +kernel
theorem dX1_meltBy_81 : decode cX1_meltBy 81 = .ok (.goto (-52), 3) := by decide +kernel
theorem dX1_meltBy_84 : decode cX1_meltBy 84 = .ok (.return_, 1) := by decide +kernel
theorem dX1_hasCell_0 : decode cX1_hasCell 0 = .ok (.iload_n 0, 1) := by decide +kernel
theorem dX1_hasCell_1 : decode cX1_hasCell 1 = .ok (.iload_n 1, 1) := by decide +kernel
theorem dX1_hasCell_2 : decode cX1_hasCell 2 = .ok (.ishr, 1) := by decide +kernel
theorem dX1_hasCell_3 : decode cX1_hasCell 3 = .ok (.iconst 1, 1) := by decide +kernel
theorem dX1_hasCell_4 : decode cX1_hasCell 4 = .ok (.iand, 1) := by decide +kernel
theorem dX1_hasCell_5 : decode cX1_hasCell 5 = .ok (.iconst 1, 1) := by decide +kernel
theorem dX1_hasCell_6 : decode cX1_hasCell 6 = .ok (.if_icmp .ne 7, 3) := by decide +kernel
theorem dX1_hasCell_9 : decode cX1_hasCell 9 = .ok (.iconst 1, 1) := by decide +kernel
theorem dX1_hasCell_10 : decode cX1_hasCell 10 = .ok (.goto 4, 3) := by decide +kernel
theorem dX1_hasCell_13 : decode cX1_hasCell 13 = .ok (.iconst 0, 1) := by decide +kernel
theorem dX1_hasCell_14 : decode cX1_hasCell 14 = .ok (.ireturn, 1) := by decide +kernel
theorem dX1_cellsBeside_0 : decode cX1_cellsBeside 0 = .ok (.iconst 1, 1) := by decide +kernel
theorem dX1_cellsBeside_1 : decode cX1_cellsBeside 1 = .ok (.iload_n 0, 1) := by decide +kernel
theorem dX1_cellsBeside_2 : decode cX1_cellsBeside 2 = .ok (.ishl, 1) := by decide +kernel
theorem dX1_cellsBeside_3 : decode cX1_cellsBeside 3 = .ok (.istore_n 1, 1) := by decide +kernel
theorem dX1_cellsBeside_4 : decode cX1_cellsBeside 4 = .ok (.iload_n 0, 1) := by decide +kernel
theorem dX1_cellsBeside_5 : decode cX1_cellsBeside 5 = .ok (.iconst 4, 1) := by decide +kernel
theorem dX1_cellsBeside_6 : decode cX1_cellsBeside 6 = .ok (.irem, 1) := by decide +kernel
theorem dX1_cellsBeside_7 : decode cX1_cellsBeside 7 = .ok (.istore_n 2, 1) := by decide +kernel
theorem dX1_cellsBeside_8 : decode cX1_cellsBeside 8 = .ok (.iload_n 2, 1) := by decide +kernel
theorem dX1_cellsBeside_9 : decode cX1_cellsBeside 9 = .ok (.ifCond .le 9, 3) := by decide +kernel
theorem dX1_cellsBeside_12 : decode cX1_cellsBeside 12 = .ok (.iload_n 1, 1) := by decide +kernel
theorem dX1_cellsBeside_13 : decode cX1_cellsBeside 13 = .ok (.iconst 1, 1) := by decide +kernel
theorem dX1_cellsBeside_14 : decode cX1_cellsBeside 14 = .ok (.ishr, 1) := by decide +kernel
theorem dX1_cellsBeside_15 : decode cX1_cellsBeside 15 = .ok (.goto 4, 3) := by decide +kernel
theorem dX1_cellsBeside_18 : decode cX1_cellsBeside 18 = .ok (.iconst 0, 1) := by decide +kernel
theorem dX1_cellsBeside_19 : decode cX1_cellsBeside 19 = .ok (.istore_n 3, 1) := by decide +kernel
theorem dX1_cellsBeside_20 : decode cX1_cellsBeside 20 = .ok (.iload_n 2, 1) := by decide +kernel
theorem dX1_cellsBeside_21 : decode cX1_cellsBeside 21 = .ok (.iconst 3, 1) := by decide +kernel
theorem dX1_cellsBeside_22 : decode cX1_cellsBeside 22 = .ok (.if_icmp .ge 9, 3) := by decide +kernel
theorem dX1_cellsBeside_25 : decode cX1_cellsBeside 25 = .ok (.iload_n 1, 1) := by decide +kernel
theorem dX1_cellsBeside_26 : decode cX1_cellsBeside 26 = .ok (.iconst 1, 1) := by decide +kernel
theorem dX1_cellsBeside_27 : decode cX1_cellsBeside 27 = .ok (.ishl, 1) := by decide +kernel
theorem dX1_cellsBeside_28 : decode cX1_cellsBeside 28 = .ok (.goto 4, 3) := by decide +kernel
theorem dX1_cellsBeside_31 : decode cX1_cellsBeside 31 = .ok (.iconst 0, 1) := by decide +kernel
theorem dX1_cellsBeside_32 : decode cX1_cellsBeside 32 = .ok (.istore 4, 2) := by decide +kernel
theorem dX1_cellsBeside_34 : decode cX1_cellsBeside 34 = .ok (.iload_n 1, 1) := by decide +kernel
theorem dX1_cellsBeside_35 : decode cX1_cellsBeside 35 = .ok (.iconst 4, 1) := by decide +kernel
theorem dX1_cellsBeside_36 : decode cX1_cellsBeside 36 = .ok (.ishr, 1) := by decide +kernel
theorem dX1_cellsBeside_37 : decode cX1_cellsBeside 37 = .ok (.iload_n 1, 1) := by decide +kernel
theorem dX1_cellsBeside_38 : decode cX1_cellsBeside 38 = .ok (.iconst 4, 1) := by decide +kernel
theorem dX1_cellsBeside_39 : decode cX1_cellsBeside 39 = .ok (.ishl, 1) := by decide +kernel
theorem dX1_cellsBeside_40 : decode cX1_cellsBeside 40 = .ok (.ior, 1) := by decide +kernel
theorem dX1_cellsBeside_41 : decode cX1_cellsBeside 41 = .ok (.iload_n 3, 1) := by decide +kernel
theorem dX1_cellsBeside_42 : decode cX1_cellsBeside 42 = .ok (.ior, 1) := by decide +kernel
theorem dX1_cellsBeside_43 : decode cX1_cellsBeside 43 = .ok (.iload 4, 2) := by decide +kernel
theorem dX1_cellsBeside_45 : decode cX1_cellsBeside 45 = .ok (.ior, 1) := by decide +kernel
theorem dX1_cellsBeside_46 : decode cX1_cellsBeside 46 = .ok (.ldc 91, 2) := by decide +kernel
theorem dX1_cellsBeside_48 : decode cX1_cellsBeside 48 = .ok (.iand, 1) := by decide +kernel
theorem dX1_cellsBeside_49 : decode cX1_cellsBeside 49 = .ok (.ireturn, 1) := by decide +kernel
theorem dX1_frosted_0 : decode cX1_frosted 0 = .ok (.iconst 0, 1) := by decide +kernel
theorem dX1_frosted_1 : decode cX1_frosted 1 = .ok (.istore_n 1, 1) := by decide +kernel
theorem dX1_frosted_2 : decode cX1_frosted 2 = .ok (.iconst 0, 1) := by decide +kernel
theorem dX1_frosted_3 : decode cX1_frosted 3 = .ok (.istore_n 2, 1) := by decide +kernel
theorem dX1_frosted_4 : decode cX1_frosted 4 = .ok (.iload_n 2, 1) := by decide +kernel
theorem dX1_frosted_5 : decode cX1_frosted 5 = .ok (.aload_n 0, 1) := by decide +kernel
theorem dX1_frosted_6 : decode cX1_frosted 6 = .ok (.getfield 27, 3) := by decide +kernel
theorem dX1_frosted_9 : decode cX1_frosted 9 = .ok (.arraylength, 1) := by decide +kernel
theorem dX1_frosted_10 : decode cX1_frosted 10 = .ok (.if_icmp .ge 24, 3) := by decide +kernel
theorem dX1_frosted_13 : decode cX1_frosted 13 = .ok (.aload_n 0, 1) := by decide +kernel
theorem dX1_frosted_14 : decode cX1_frosted 14 = .ok (.getfield 27, 3) := by decide +kernel
theorem dX1_frosted_17 : decode cX1_frosted 17 = .ok (.iload_n 2, 1) := by decide +kernel
theorem dX1_frosted_18 : decode cX1_frosted 18 = .ok (.iaload, 1) := by decide +kernel
theorem dX1_frosted_19 : decode cX1_frosted 19 = .ok (.ifCond .le 9, 3) := by decide +kernel
theorem dX1_frosted_22 : decode cX1_frosted 22 = .ok (.iload_n 1, 1) := by decide +kernel
theorem dX1_frosted_23 : decode cX1_frosted 23 = .ok (.iconst 1, 1) := by decide +kernel
theorem dX1_frosted_24 : decode cX1_frosted 24 = .ok (.iload_n 2, 1) := by decide +kernel
theorem dX1_frosted_25 : decode cX1_frosted 25 = .ok (.ishl, 1) := by decide +kernel
theorem dX1_frosted_26 : decode cX1_frosted 26 = .ok (.ior, 1) := by decide +kernel
theorem dX1_frosted_27 : decode cX1_frosted 27 = .ok (.istore_n 1, 1) := by decide +kernel
theorem dX1_frosted_28 : decode cX1_frosted 28 = .ok (.iinc 2 1, 3) := by decide +kernel
theorem dX1_frosted_31 : decode cX1_frosted 31 = .ok (.goto (-27), 3) := by decide +kernel
theorem dX1_frosted_34 : decode cX1_frosted 34 = .ok (.iload_n 1, 1) := by decide +kernel
theorem dX1_frosted_35 : decode cX1_frosted 35 = .ok (.ireturn, 1) := by decide +kernel
theorem dX1_iceOn_0 : decode cX1_iceOn 0 = .ok (.iload_n 1, 1) := by decide +kernel
theorem dX1_iceOn_1 : decode cX1_iceOn 1 = .ok (.ifCond .lt 21, 3) := by decide +kernel
theorem dX1_iceOn_4 : decode cX1_iceOn 4 = .ok (.iload_n 1, 1) := by decide +kernel
theorem dX1_iceOn_5 : decode cX1_iceOn 5 = .ok (.aload_n 0, 1) := by decide +kernel
theorem dX1_iceOn_6 : decode cX1_iceOn 6 = .ok (.getfield 27, 3) := by decide +kernel
theorem dX1_iceOn_9 : decode cX1_iceOn 9 = .ok (.arraylength, 1) := by decide +kernel
theorem dX1_iceOn_10 : decode cX1_iceOn 10 = .ok (.if_icmp .ge 12, 3) := by decide +kernel
theorem dX1_iceOn_13 : decode cX1_iceOn 13 = .ok (.aload_n 0, 1) := by decide +kernel
theorem dX1_iceOn_14 : decode cX1_iceOn 14 = .ok (.getfield 27, 3) := by decide +kernel
theorem dX1_iceOn_17 : decode cX1_iceOn 17 = .ok (.iload_n 1, 1) := by decide +kernel
theorem dX1_iceOn_18 : decode cX1_iceOn 18 = .ok (.iaload, 1) := by decide +kernel
theorem dX1_iceOn_19 : decode cX1_iceOn 19 = .ok (.goto 4, 3) := by decide +kernel
theorem dX1_iceOn_22 : decode cX1_iceOn 22 = .ok (.iconst 0, 1) := by decide +kernel
theorem dX1_iceOn_23 : decode cX1_iceOn 23 = .ok (.ireturn, 1) := by decide +kernel
theorem dX1_isScratched_0 : decode cX1_isScratched 0 = .ok (.aload_n 0, 1) := by decide +kernel
theorem dX1_isScratched_1 : decode cX1_isScratched 1 = .ok (.getfield 24, 3) := by decide +kernel
theorem dX1_isScratched_4 : decode cX1_isScratched 4 = .ok (.iload_n 1, 1) := by decide +kernel
theorem dX1_isScratched_5 : decode cX1_isScratched 5 = .ok (.invokestatic 69, 3) := by decide +kernel
theorem dX1_isScratched_8 : decode cX1_isScratched 8 = .ok (.ireturn, 1) := by decide +kernel
theorem dX1_breatheOn_0 : decode cX1_breatheOn 0 = .ok (.iload_n 1, 1) := by decide +kernel
theorem dX1_breatheOn_1 : decode cX1_breatheOn 1 = .ok (.invokestatic 73, 3) := by decide +kernel
theorem dX1_breatheOn_4 : decode cX1_breatheOn 4 = .ok (.iconst 1, 1) := by decide +kernel
theorem dX1_breatheOn_5 : decode cX1_breatheOn 5 = .ok (.iload_n 1, 1) := by decide +kernel
theorem dX1_breatheOn_6 : decode cX1_breatheOn 6 = .ok (.ishl, 1) := by decide +kernel
theorem dX1_breatheOn_7 : decode cX1_breatheOn 7 = .ok (.ior, 1) := by decide +kernel
theorem dX1_breatheOn_8 : decode cX1_breatheOn 8 = .ok (.istore_n 2, 1) := by decide +kernel
theorem dX1_breatheOn_9 : decode cX1_breatheOn 9 = .ok (.aload_n 0, 1) := by decide +kernel
theorem dX1_breatheOn_10 : decode cX1_breatheOn 10 = .ok (.invokevirtual 88, 3) := by decide +kernel
theorem dX1_breatheOn_13 : decode cX1_breatheOn 13 = .ok (.iload_n 2, 1) := by decide +kernel
theorem dX1_breatheOn_14 : decode cX1_breatheOn 14 = .ok (.iand, 1) := by decide +kernel
theorem dX1_breatheOn_15 : decode cX1_breatheOn 15 = .ok (.invokestatic 76, 3) := by decide +kernel
theorem dX1_breatheOn_18 : decode cX1_breatheOn 18 = .ok (.istore_n 3, 1) := by decide +kernel
theorem dX1_breatheOn_19 : decode cX1_breatheOn 19 = .ok (.iconst 0, 1) := by decide +kernel
theorem dX1_breatheOn_20 : decode cX1_breatheOn 20 = .ok (.istore 4, 2) := by decide +kernel
theorem dX1_breatheOn_22 : decode cX1_breatheOn 22 = .ok (.iload 4, 2) := by decide +kernel
theorem dX1_breatheOn_24 : decode cX1_breatheOn 24 = .ok (.aload_n 0, 1) := by decide +kernel
theorem dX1_breatheOn_25 : decode cX1_breatheOn 25 = .ok (.getfield 27, 3) := by decide +kernel
theorem dX1_breatheOn_28 : decode cX1_breatheOn 28 = .ok (.arraylength, 1) := by decide +kernel
theorem dX1_breatheOn_29 : decode cX1_breatheOn 29 = .ok (.if_icmp .ge 26, 3) := by decide +kernel
theorem dX1_breatheOn_32 : decode cX1_breatheOn 32 = .ok (.iload_n 2, 1) := by decide +kernel
theorem dX1_breatheOn_33 : decode cX1_breatheOn 33 = .ok (.iload 4, 2) := by decide +kernel
theorem dX1_breatheOn_35 : decode cX1_breatheOn 35 = .ok (.invokestatic 69, 3) := by decide +kernel
theorem dX1_breatheOn_38 : decode cX1_breatheOn 38 = .ok (.ifCond .eq 11, 3) := by decide +kernel
theorem dX1_breatheOn_41 : decode cX1_breatheOn 41 = .ok (.aload_n 0, 1) := by decide +kernel
theorem dX1_breatheOn_42 : decode cX1_breatheOn 42 = .ok (.getfield 27, 3) := by decide +kernel
theorem dX1_breatheOn_45 : decode cX1_breatheOn 45 = .ok (.iload 4, 2) := by decide +kernel
theorem dX1_breatheOn_47 : decode cX1_breatheOn 47 = .ok (.iconst 0, 1) := by decide +kernel
theorem dX1_breatheOn_48 : decode cX1_breatheOn 48 = .ok (.iastore, 1) := by decide +kernel
theorem dX1_breatheOn_49 : decode cX1_breatheOn 49 = .ok (.iinc 4 1, 3) := by decide +kernel
theorem dX1_breatheOn_52 : decode cX1_breatheOn 52 = .ok (.goto (-30), 3) := by decide +kernel
theorem dX1_breatheOn_55 : decode cX1_breatheOn 55 = .ok (.iload_n 3, 1) := by decide +kernel
theorem dX1_breatheOn_56 : decode cX1_breatheOn 56 = .ok (.ireturn, 1) := by decide +kernel
theorem dX1_scratchOff_0 : decode cX1_scratchOff 0 = .ok (.aload_n 0, 1) := by decide +kernel
theorem dX1_scratchOff_1 : decode cX1_scratchOff 1 = .ok (.iload_n 1, 1) := by decide +kernel
theorem dX1_scratchOff_2 : decode cX1_scratchOff 2 = .ok (.invokevirtual 38, 3) := by decide +kernel
theorem dX1_scratchOff_5 : decode cX1_scratchOff 5 = .ok (.istore_n 2, 1) := by decide +kernel
theorem dX1_scratchOff_6 : decode cX1_scratchOff 6 = .ok (.aload_n 0, 1) := by decide +kernel
theorem dX1_scratchOff_7 : decode cX1_scratchOff 7 = .ok (.dup, 1) := by decide +kernel
theorem dX1_scratchOff_8 : decode cX1_scratchOff 8 = .ok (.getfield 24, 3) := by decide +kernel
theorem dX1_scratchOff_11 : decode cX1_scratchOff 11 = .ok (.iconst 1, 1) := by decide +kernel
theorem dX1_scratchOff_12 : decode cX1_scratchOff 12 = .ok (.iload_n 1, 1) := by decide +kernel
theorem dX1_scratchOff_13 : decode cX1_scratchOff 13 = .ok (.ishl, 1) := by decide +kernel
theorem dX1_scratchOff_14 : decode cX1_scratchOff 14 = .ok (.ior, 1) := by decide +kernel
theorem dX1_scratchOff_15 : decode cX1_scratchOff 15 = .ok (.putfield 24, 3) := by decide +kernel
theorem dX1_scratchOff_18 : decode cX1_scratchOff 18 = .ok (.iload_n 1, 1) := by decide +kernel
theorem dX1_scratchOff_19 : decode cX1_scratchOff 19 = .ok (.ifCond .lt 19, 3) := by decide +kernel
theorem dX1_scratchOff_22 : decode cX1_scratchOff 22 = .ok (.iload_n 1, 1) := by decide +kernel
theorem dX1_scratchOff_23 : decode cX1_scratchOff 23 = .ok (.aload_n 0, 1) := by decide +kernel
theorem dX1_scratchOff_24 : decode cX1_scratchOff 24 = .ok (.getfield 27, 3) := by decide +kernel
theorem dX1_scratchOff_27 : decode cX1_scratchOff 27 = .ok (.arraylength, 1) := by decide +kernel
theorem dX1_scratchOff_28 : decode cX1_scratchOff 28 = .ok (.if_icmp .ge 10, 3) := by decide +kernel
theorem dX1_scratchOff_31 : decode cX1_scratchOff 31 = .ok (.aload_n 0, 1) := by decide +kernel
theorem dX1_scratchOff_32 : decode cX1_scratchOff 32 = .ok (.getfield 27, 3) := by decide +kernel
theorem dX1_scratchOff_35 : decode cX1_scratchOff 35 = .ok (.iload_n 1, 1) := by decide +kernel
theorem dX1_scratchOff_36 : decode cX1_scratchOff 36 = .ok (.iconst 0, 1) := by decide +kernel
theorem dX1_scratchOff_37 : decode cX1_scratchOff 37 = .ok (.iastore, 1) := by decide +kernel
theorem dX1_scratchOff_38 : decode cX1_scratchOff 38 = .ok (.iload_n 2, 1) := by decide +kernel
theorem dX1_scratchOff_39 : decode cX1_scratchOff 39 = .ok (.ireturn, 1) := by decide +kernel
theorem dX2_init_0 : decode cX2_init 0 = .ok (.aload_n 0, 1) := by decide +kernel
theorem dX2_init_1 : decode cX2_init 1 = .ok (.invokespecial 3, 3) := by decide +kernel
theorem dX2_init_4 : decode cX2_init 4 = .ok (.aload_n 0, 1) := by decide +kernel
theorem dX2_init_5 : decode cX2_init 5 = .ok (.iconst 3, 1) := by decide +kernel
theorem dX2_init_6 : decode cX2_init 6 = .ok (.newarray .int, 2) := by decide +kernel
theorem dX2_init_8 : decode cX2_init 8 = .ok (.putfield 9, 3) := by decide +kernel
theorem dX2_init_11 : decode cX2_init 11 = .ok (.aload_n 0, 1) := by decide +kernel
theorem dX2_init_12 : decode cX2_init 12 = .ok (.iconst 0, 1) := by decide +kernel
theorem dX2_init_13 : decode cX2_init 13 = .ok (.putfield 15, 3) := by decide +kernel
theorem dX2_init_16 : decode cX2_init 16 = .ok (.aload_n 0, 1) := by decide +kernel
theorem dX2_init_17 : decode cX2_init 17 = .ok (.iconst (-1), 1) := by decide +kernel
theorem dX2_init_18 : decode cX2_init 18 = .ok (.putfield 19, 3) := by decide +kernel
theorem dX2_init_21 : decode cX2_init 21 = .ok (.return_, 1) := by decide +kernel
theorem dX2_itemsOf_0 : decode cX2_itemsOf 0 = .ok (.aload_n 0, 1) := by decide +kernel
theorem dX2_itemsOf_1 : decode cX2_itemsOf 1 = .ok (.iconst 0, 1) := by decide +kernel
theorem dX2_itemsOf_2 : decode cX2_itemsOf 2 = .ok (.putfield 15, 3) := by decide +kernel
theorem dX2_itemsOf_5 : decode cX2_itemsOf 5 = .ok (.aload_n 0, 1) := by decide +kernel
theorem dX2_itemsOf_6 : decode cX2_itemsOf 6 = .ok (.iconst (-1), 1) := by decide +kernel
theorem dX2_itemsOf_7 : decode cX2_itemsOf 7 = .ok (.putfield 19, 3) := by decide +kernel
theorem dX2_itemsOf_10 : decode cX2_itemsOf 10 = .ok (.iconst 1, 1) := by decide +kernel
theorem dX2_itemsOf_11 : decode cX2_itemsOf 11 = .ok (.istore_n 3, 1) := by decide +kernel
theorem dX2_itemsOf_12 : decode cX2_itemsOf 12 = .ok (.iload_n 3, 1) := by decide +kernel
theorem dX2_itemsOf_13 : decode cX2_itemsOf 13 = .ok (.sipush 160, 3) := by decide +kernel
theorem dX2_itemsOf_16 : decode cX2_itemsOf 16 = .ok (.if_icmp .gt 45, 3) := by decide +kernel
theorem dX2_itemsOf_19 : decode cX2_itemsOf 19 = .ok (.aload_n 0, 1) := by decide +kernel
theorem dX2_itemsOf_20 : decode cX2_itemsOf 20 = .ok (.aload_n 1, 1) := by decide +kernel
theorem dX2_itemsOf_21 : decode cX2_itemsOf 21 = .ok (.aload_n 2, 1) := by decide +kernel
theorem dX2_itemsOf_22 : decode cX2_itemsOf 22 = .ok (.invokevirtual 24, 3) := by decide +kernel
theorem dX2_itemsOf_25 : decode cX2_itemsOf 25 = .ok (.ifCond .ne 5, 3) := by decide +kernel
theorem dX2_itemsOf_28 : decode cX2_itemsOf 28 = .ok (.iconst (-1), 1) := by decide +kernel
theorem dX2_itemsOf_29 : decode cX2_itemsOf 29 = .ok (.ireturn, 1) := by decide +kernel
theorem dX2_itemsOf_30 : decode cX2_itemsOf 30 = .ok (.aload_n 0, 1) := by decide +kernel
theorem dX2_itemsOf_31 : decode cX2_itemsOf 31 = .ok (.getfield 15, 3) := by decide +kernel
theorem dX2_itemsOf_34 : decode cX2_itemsOf 34 = .ok (.aload_n 1, 1) := by decide +kernel
theorem dX2_itemsOf_35 : decode cX2_itemsOf 35 = .ok (.getfield 28, 3) := by decide +kernel
theorem dX2_itemsOf_38 : decode cX2_itemsOf 38 = .ok (.if_icmp .lt 5, 3) := by decide +kernel
theorem dX2_itemsOf_41 : decode cX2_itemsOf 41 = .ok (.iload_n 3, 1) := by decide +kernel
theorem dX2_itemsOf_42 : decode cX2_itemsOf 42 = .ok (.ireturn, 1) := by decide +kernel
theorem dX2_itemsOf_43 : decode cX2_itemsOf 43 = .ok (.aload_n 0, 1) := by decide +kernel
theorem dX2_itemsOf_44 : decode cX2_itemsOf 44 = .ok (.aload_n 1, 1) := by decide +kernel
theorem dX2_itemsOf_45 : decode cX2_itemsOf 45 = .ok (.bipush 59, 2) := by decide +kernel
theorem dX2_itemsOf_47 : decode cX2_itemsOf 47 = .ok (.invokevirtual 31, 3) := by decide +kernel
theorem dX2_itemsOf_50 : decode cX2_itemsOf 50 = .ok (.ifCond .ne 5, 3) := by decide +kernel
theorem dX2_itemsOf_53 : decode cX2_itemsOf 53 = .ok (.iconst (-1), 1) := by decide +kernel
theorem dX2_itemsOf_54 : decode cX2_itemsOf 54 = .ok (.ireturn, 1) := by decide +kernel
theorem dX2_itemsOf_55 : decode cX2_itemsOf 55 = .ok (.iinc 3 1, 3) := by decide +kernel
theorem dX2_itemsOf_58 : decode cX2_itemsOf 58 = .ok (.goto (-46), 3) := by decide +kernel
theorem dX2_itemsOf_61 : decode cX2_itemsOf 61 = .ok (.aload_n 0, 1) := by decide +kernel
theorem dX2_itemsOf_62 : decode cX2_itemsOf 62 = .ok (.aload_n 0, 1) := by decide +kernel
theorem dX2_itemsOf_63 : decode cX2_itemsOf 63 = .ok (.getfield 15, 3) := by decide +kernel
theorem dX2_itemsOf_66 : decode cX2_itemsOf 66 = .ok (.invokevirtual 35, 3) := by decide +kernel
theorem dX2_itemsOf_69 : decode cX2_itemsOf 69 = .ok (.pop, 1) := by decide +kernel
theorem dX2_itemsOf_70 : decode cX2_itemsOf 70 = .ok (.iconst (-1), 1) := by decide +kernel
theorem dX2_itemsOf_71 : decode cX2_itemsOf 71 = .ok (.ireturn, 1) := by decide +kernel
theorem dX2_failAt_0 : decode cX2_failAt 0 = .ok (.aload_n 0, 1) := by decide +kernel
theorem dX2_failAt_1 : decode cX2_failAt 1 = .ok (.iload_n 1, 1) := by decide +kernel
theorem dX2_failAt_2 : decode cX2_failAt 2 = .ok (.putfield 19, 3) := by decide +kernel
theorem dX2_failAt_5 : decode cX2_failAt 5 = .ok (.iconst 0, 1) := by decide +kernel
theorem dX2_failAt_6 : decode cX2_failAt 6 = .ok (.ireturn, 1) := by decide +kernel
theorem dX2_signStands_0 : decode cX2_signStands 0 = .ok (.aload_n 0, 1) := by decide +kernel
theorem dX2_signStands_1 : decode cX2_signStands 1 = .ok (.getfield 15, 3) := by decide +kernel
theorem dX2_signStands_4 : decode cX2_signStands 4 = .ok (.aload_n 1, 1) := by decide +kernel
theorem dX2_signStands_5 : decode cX2_signStands 5 = .ok (.getfield 28, 3) := by decide +kernel
theorem dX2_signStands_8 : decode cX2_signStands 8 = .ok (.if_icmp .ge 15, 3) := by decide +kernel
theorem dX2_signStands_11 : decode cX2_signStands 11 = .ok (.aload_n 1, 1) := by decide +kernel
theorem dX2_signStands_12 : decode cX2_signStands 12 = .ok (.aload_n 0, 1) := by decide +kernel
theorem dX2_signStands_13 : decode cX2_signStands 13 = .ok (.getfield 15, 3) := by decide +kernel
theorem dX2_signStands_16 : decode cX2_signStands 16 = .ok (.invokevirtual 39, 3) := by decide +kernel
theorem dX2_signStands_19 : decode cX2_signStands 19 = .ok (.iload_n 2, 1) := by decide +kernel
theorem dX2_signStands_20 : decode cX2_signStands 20 = .ok (.if_icmp .eq 12, 3) := by decide +kernel
theorem dX2_signStands_23 : decode cX2_signStands 23 = .ok (.aload_n 0, 1) := by decide +kernel
theorem dX2_signStands_24 : decode cX2_signStands 24 = .ok (.aload_n 0, 1) := by decide +kernel
theorem dX2_signStands_25 : decode cX2_signStands 25 = .ok (.getfield 15, 3) := by decide +kernel
theorem dX2_signStands_28 : decode cX2_signStands 28 = .ok (.invokevirtual 35, 3) := by decide +kernel
theorem dX2_signStands_31 : decode cX2_signStands 31 = .ok (.ireturn, 1) := by decide +kernel
theorem dX2_signStands_32 : decode cX2_signStands 32 = .ok (.aload_n 0, 1) := by decide +kernel
theorem dX2_signStands_33 : decode cX2_signStands 33 = .ok (.dup, 1) := by decide +kernel
theorem dX2_signStands_34 : decode cX2_signStands 34 = .ok (.getfield 15, 3) := by decide +kernel
theorem dX2_signStands_37 : decode cX2_signStands 37 = .ok (.iconst 1, 1) := by decide +kernel
theorem dX2_signStands_38 : decode cX2_signStands 38 = .ok (.iadd, 1) := by decide +kernel
theorem dX2_signStands_39 : decode cX2_signStands 39 = .ok (.putfield 15, 3) := by decide +kernel
theorem dX2_signStands_42 : decode cX2_signStands 42 = .ok (.iconst 1, 1) := by decide +kernel
theorem dX2_signStands_43 : decode cX2_signStands 43 = .ok (.ireturn, 1) := by decide +kernel
theorem dX2_itemStands_0 : decode cX2_itemStands 0 = .ok (.aload_n 0, 1) := by decide +kernel
theorem dX2_itemStands_1 : decode cX2_itemStands 1 = .ok (.getfield 15, 3) := by decide +kernel
theorem dX2_itemStands_4 : decode cX2_itemStands 4 = .ok (.istore_n 3, 1) := by decide +kernel
theorem dX2_itemStands_5 : decode cX2_itemStands 5 = .ok (.aload_n 0, 1) := by decide +kernel
theorem dX2_itemStands_6 : decode cX2_itemStands 6 = .ok (.getfield 15, 3) := by decide +kernel
theorem dX2_itemStands_9 : decode cX2_itemStands 9 = .ok (.aload_n 1, 1) := by decide +kernel
theorem dX2_itemStands_10 : decode cX2_itemStands 10 = .ok (.getfield 28, 3) := by decide +kernel
theorem dX2_itemStands_13 : decode cX2_itemStands 13 = .ok (.if_icmp .ge 17, 3) := by decide +kernel
theorem dX2_itemStands_16 : decode cX2_itemStands 16 = .ok (.aload_n 1, 1) := by decide +kernel
theorem dX2_itemStands_17 : decode cX2_itemStands 17 = .ok (.aload_n 0, 1) := by decide +kernel
theorem dX2_itemStands_18 : decode cX2_itemStands 18 = .ok (.getfield 15, 3) := by decide +kernel
theorem dX2_itemStands_21 : decode cX2_itemStands 21 = .ok (.invokevirtual 39, 3) := by decide +kernel
theorem dX2_itemStands_24 : decode cX2_itemStands 24 = .ok (.invokestatic 43, 3) := by decide +kernel
theorem dX2_itemStands_27 : decode cX2_itemStands 27 = .ok (.goto 4, 3) := by decide +kernel
theorem dX2_itemStands_30 : decode cX2_itemStands 30 = .ok (.iconst (-1), 1) := by decide +kernel
theorem dX2_itemStands_31 : decode cX2_itemStands 31 = .ok (.istore 4, 2) := by decide +kernel
theorem dX2_itemStands_33 : decode cX2_itemStands 33 = .ok (.iload 4, 2) := by decide +kernel
theorem dX2_itemStands_35 : decode cX2_itemStands 35 = .ok (.iconst (-1), 1) := by decide +kernel
theorem dX2_itemStands_36 : decode cX2_itemStands 36 = .ok (.if_icmp .ne 12, 3) := by decide +kernel
theorem dX2_itemStands_39 : decode cX2_itemStands 39 = .ok (.aload_n 0, 1) := by decide +kernel
theorem dX2_itemStands_40 : decode cX2_itemStands 40 = .ok (.aload_n 0, 1) := by decide +kernel
theorem dX2_itemStands_41 : decode cX2_itemStands 41 = .ok (.getfield 15, 3) := by decide +kernel
theorem dX2_itemStands_44 : decode cX2_itemStands 44 = .ok (.invokevirtual 35, 3) := by decide +kernel
theorem dX2_itemStands_47 : decode cX2_itemStands 47 = .ok (.ireturn, 1) := by decide +kernel
theorem dX2_itemStands_48 : decode cX2_itemStands 48 = .ok (.aload_n 0, 1) := by decide +kernel
theorem dX2_itemStands_49 : decode cX2_itemStands 49 = .ok (.aload_n 1, 1) := by decide +kernel
theorem dX2_itemStands_50 : decode cX2_itemStands 50 = .ok (.iload 4, 2) := by decide +kernel
theorem dX2_itemStands_52 : decode cX2_itemStands 52 = .ok (.invokestatic 46, 3) := by decide +kernel
theorem dX2_itemStands_55 : decode cX2_itemStands 55 = .ok (.invokevirtual 50, 3) := by decide +kernel
theorem dX2_itemStands_58 : decode cX2_itemStands 58 = .ok (.ifCond .ne 5, 3) := by decide +kernel
theorem dX2_itemStands_61 : decode cX2_itemStands 61 = .ok (.iconst 0, 1) := by decide +kernel
theorem dX2_itemStands_62 : decode cX2_itemStands 62 = .ok (.ireturn, 1) := by decide +kernel
theorem dX2_itemStands_63 : decode cX2_itemStands 63 = .ok (.iload 4, 2) := by decide +kernel
theorem dX2_itemStands_65 : decode cX2_itemStands 65 = .ok (.aload_n 2, 1) := by decide +kernel
theorem dX2_itemStands_66 : decode cX2_itemStands 66 = .ok (.invokestatic 54, 3) := by decide +kernel
theorem dX2_itemStands_69 : decode cX2_itemStands 69 = .ok (.ifCond .ne 9, 3) := by decide +kernel
theorem dX2_itemStands_72 : decode cX2_itemStands 72 = .ok (.aload_n 0, 1) := by decide +kernel
theorem dX2_itemStands_73 : decode cX2_itemStands 73 = .ok (.iload_n 3, 1) := by decide +kernel
theorem dX2_itemStands_74 : decode cX2_itemStands 74 = .ok (.invokevirtual 35, 3) := by decide +kernel
theorem dX2_itemStands_77 : decode cX2_itemStands 77 = .ok (.ireturn, 1) := by decide +kernel
theorem dX2_itemStands_78 : decode cX2_itemStands 78 = .ok (.iconst 0, 1) := by decide +kernel
theorem dX2_itemStands_79 : decode cX2_itemStands 79 = .ok (.istore 5, 2) := by decide +kernel
theorem dX2_itemStands_81 : decode cX2_itemStands 81 = .ok (.iload 5, 2) := by decide +kernel
theorem dX2_itemStands_83 : decode cX2_itemStands 83 = .ok (.iload 4, 2) := by decide +kernel
theorem dX2_itemStands_85 : decode cX2_itemStands 85 = .ok (.invokestatic 58, 3) := by decide +kernel
theorem dX2_itemStands_88 : decode cX2_itemStands 88 = .ok (.if_icmp .ge 49, 3) := by decide +kernel
theorem dX2_itemStands_91 : decode cX2_itemStands 91 = .ok (.iload 5, 2) := by decide +kernel
theorem dX2_itemStands_93 : decode cX2_itemStands 93 = .ok (.aload_n 0, 1) := by decide +kernel
theorem dX2_itemStands_94 : decode cX2_itemStands 94 = .ok (.getfield 9, 3) := by decide +kernel
theorem dX2_itemStands_97 : decode cX2_itemStands 97 = .ok (.arraylength, 1) := by decide +kernel
theorem dX2_itemStands_98 : decode cX2_itemStands 98 = .ok (.if_icmp .ge 39, 3) := by decide +kernel
theorem dX2_itemStands_101 : decode cX2_itemStands 101 = .ok (.aload_n 0, 1) := by decide +kernel
theorem dX2_itemStands_102 : decode cX2_itemStands 102 = .ok (.aload_n 1, 1) := by decide +kernel
theorem dX2_itemStands_103 : decode cX2_itemStands 103 = .ok (.bipush 32, 2) := by decide +kernel
theorem dX2_itemStands_105 : decode cX2_itemStands 105 = .ok (.invokevirtual 31, 3) := by decide +kernel
theorem dX2_itemStands_108 : decode cX2_itemStands 108 = .ok (.ifCond .eq 21, 3) := by decide +kernel
theorem dX2_itemStands_111 : decode cX2_itemStands 111 = .ok (.aload_n 0, 1) := by decide +kernel
theorem dX2_itemStands_112 : decode cX2_itemStands 112 = .ok (.aload_n 1, 1) := by decide +kernel
theorem dX2_itemStands_113 : decode cX2_itemStands 113 = .ok (.iload 4, 2) := by decide +kernel
theorem dX2_itemStands_115 : decode cX2_itemStands 115 = .ok (.iload 5, 2) := by decide +kernel
theorem dX2_itemStands_117 : decode cX2_itemStands 117 = .ok (.aload_n 2, 1) := by decide +kernel
theorem dX2_itemStands_118 : decode cX2_itemStands 118 = .ok (.invokestatic 61, 3) := by decide +kernel
theorem dX2_itemStands_121 : decode cX2_itemStands 121 = .ok (.iload 5, 2) := by decide +kernel
theorem dX2_itemStands_123 : decode cX2_itemStands 123 = .ok (.invokevirtual 65, 3) := by decide +kernel
theorem dX2_itemStands_126 : decode cX2_itemStands 126 = .ok (.ifCond .ne 5, 3) := by decide +kernel
theorem dX2_itemStands_129 : decode cX2_itemStands 129 = .ok (.iconst 0, 1) := by decide +kernel
theorem dX2_itemStands_130 : decode cX2_itemStands 130 = .ok (.ireturn, 1) := by decide +kernel
theorem dX2_itemStands_131 : decode cX2_itemStands 131 = .ok (.iinc 5 1, 3) := by decide +kernel
theorem dX2_itemStands_134 : decode cX2_itemStands 134 = .ok (.goto (-53), 3) := by decide +kernel
theorem dX2_itemStands_137 : decode cX2_itemStands 137 = .ok (.aload_n 0, 1) := by decide +kernel
theorem dX2_itemStands_138 : decode cX2_itemStands 138 = .ok (.iload 4, 2) := by decide +kernel
theorem dX2_itemStands_140 : decode cX2_itemStands 140 = .ok (.aload_n 2, 1) := by decide +kernel
theorem dX2_itemStands_141 : decode cX2_itemStands 141 = .ok (.invokevirtual 69, 3) := by decide +kernel
theorem dX2_itemStands_144 : decode cX2_itemStands 144 = .ok (.iconst 1, 1) := by decide +kernel
theorem dX2_itemStands_145 : decode cX2_itemStands 145 = .ok (.ireturn, 1) := by decide +kernel
theorem dX2_lettersStand_0 : decode cX2_lettersStand 0 = .ok (.iconst 0, 1) := by decide +kernel
theorem dX2_lettersStand_1 : decode cX2_lettersStand 1 = .ok (.istore_n 3, 1) := by decide +kernel
theorem dX2_lettersStand_2 : decode cX2_lettersStand 2 = .ok (.iload_n 3, 1) := by decide +kernel
theorem dX2_lettersStand_3 : decode cX2_lettersStand 3 = .ok (.aload_n 2, 1) := by decide +kernel
theorem dX2_lettersStand_4 : decode cX2_lettersStand 4 = .ok (.invokevirtual 73, 3) := by decide +kernel
theorem dX2_lettersStand_7 : decode cX2_lettersStand 7 = .ok (.if_icmp .ge 24, 3) := by decide +kernel
theorem dX2_lettersStand_10 : decode cX2_lettersStand 10 = .ok (.aload_n 0, 1) := by decide +kernel
theorem dX2_lettersStand_11 : decode cX2_lettersStand 11 = .ok (.aload_n 1, 1) := by decide +kernel
theorem dX2_lettersStand_12 : decode cX2_lettersStand 12 = .ok (.aload_n 2, 1) := by decide +kernel
theorem dX2_lettersStand_13 : decode cX2_lettersStand 13 = .ok (.iload_n 3, 1) := by decide +kernel
theorem dX2_lettersStand_14 : decode cX2_lettersStand 14 = .ok (.invokevirtual 79, 3) := by decide +kernel
theorem dX2_lettersStand_17 : decode cX2_lettersStand 17 = .ok (.invokevirtual 31, 3) := by decide +kernel
theorem dX2_lettersStand_20 : decode cX2_lettersStand 20 = .ok (.ifCond .ne 5, 3) := by decide +kernel
theorem dX2_lettersStand_23 : decode cX2_lettersStand 23 = .ok (.iconst 0, 1) := by decide +kernel
theorem dX2_lettersStand_24 : decode cX2_lettersStand 24 = .ok (.ireturn, 1) := by decide +kernel
theorem dX2_lettersStand_25 : decode cX2_lettersStand 25 = .ok (.iinc 3 1, 3) := by decide +kernel
theorem dX2_lettersStand_28 : decode cX2_lettersStand 28 = .ok (.goto (-26), 3) := by decide +kernel
theorem dX2_lettersStand_31 : decode cX2_lettersStand 31 = .ok (.iconst 1, 1) := by decide +kernel
theorem dX2_lettersStand_32 : decode cX2_lettersStand 32 = .ok (.ireturn, 1) := by decide +kernel
theorem dX2_numberStands_0 : decode cX2_numberStands 0 = .ok (.aload_n 0, 1) := by decide +kernel
theorem dX2_numberStands_1 : decode cX2_numberStands 1 = .ok (.getfield 15, 3) := by decide +kernel
theorem dX2_numberStands_4 : decode cX2_numberStands 4 = .ok (.istore 4, 2) := by decide +kernel
theorem dX2_numberStands_6 : decode cX2_numberStands 6 = .ok (.iconst 0, 1) := by decide +kernel
theorem dX2_numberStands_7 : decode cX2_numberStands 7 = .ok (.istore 5, 2) := by decide +kernel
theorem dX2_numberStands_9 : decode cX2_numberStands 9 = .ok (.iconst 0, 1) := by decide +kernel
theorem dX2_numberStands_10 : decode cX2_numberStands 10 = .ok (.istore 6, 2) := by decide +kernel
theorem dX2_numberStands_12 : decode cX2_numberStands 12 = .ok (.iload 6, 2) := by decide +kernel
theorem dX2_numberStands_14 : decode cX2_numberStands 14 = .ok (.iconst 5, 1) := by decide +kernel
theorem dX2_numberStands_15 : decode cX2_numberStands 15 = .ok (.if_icmp .ge 46, 3) := by decide +kernel
theorem dX2_numberStands_18 : decode cX2_numberStands 18 = .ok (.aload_n 0, 1) := by decide +kernel
theorem dX2_numberStands_19 : decode cX2_numberStands 19 = .ok (.aload_n 1, 1) := by decide +kernel
theorem dX2_numberStands_20 : decode cX2_numberStands 20 = .ok (.invokevirtual 83, 3) := by decide +kernel
theorem dX2_numberStands_23 : decode cX2_numberStands 23 = .ok (.ifCond .eq 38, 3) := by decide +kernel
theorem dX2_numberStands_26 : decode cX2_numberStands 26 = .ok (.iload 5, 2) := by decide +kernel
theorem dX2_numberStands_28 : decode cX2_numberStands 28 = .ok (.bipush 10, 2) := by decide +kernel
theorem dX2_numberStands_30 : decode cX2_numberStands 30 = .ok (.imul, 1) := by decide +kernel
theorem dX2_numberStands_31 : decode cX2_numberStands 31 = .ok (.aload_n 1, 1) := by decide +kernel
theorem dX2_numberStands_32 : decode cX2_numberStands 32 = .ok (.aload_n 0, 1) := by decide +kernel
theorem dX2_numberStands_33 : decode cX2_numberStands 33 = .ok (.getfield 15, 3) := by decide +kernel
theorem dX2_numberStands_36 : decode cX2_numberStands 36 = .ok (.invokevirtual 39, 3) := by decide +kernel
theorem dX2_numberStands_39 : decode cX2_numberStands 39 = .ok (.iadd, 1) := by decide +kernel
theorem dX2_numberStands_40 : decode cX2_numberStands 40 = .ok (.bipush 48, 2) := by decide +kernel
theorem dX2_numberStands_42 : decode cX2_numberStands 42 = .ok (.isub, 1) := by decide +kernel
theorem dX2_numberStands_43 : decode cX2_numberStands 43 = .ok (.istore 5, 2) := by decide +kernel
theorem dX2_numberStands_45 : decode cX2_numberStands 45 = .ok (.aload_n 0, 1) := by decide +kernel
theorem dX2_numberStands_46 : decode cX2_numberStands 46 = .ok (.dup, 1) := by decide +kernel
theorem dX2_numberStands_47 : decode cX2_numberStands 47 = .ok (.getfield 15, 3) := by decide +kernel
theorem dX2_numberStands_50 : decode cX2_numberStands 50 = .ok (.iconst 1, 1) := by decide +kernel
theorem dX2_numberStands_51 : decode cX2_numberStands 51 = .ok (.iadd, 1) := by decide +kernel
theorem dX2_numberStands_52 : decode cX2_numberStands 52 = .ok (.putfield 15, 3) := by decide +kernel
theorem dX2_numberStands_55 : decode cX2_numberStands 55 = .ok (.iinc 6 1, 3) := by decide +kernel
theorem dX2_numberStands_58 : decode cX2_numberStands 58 = .ok (.goto (-46), 3) := by decide +kernel
theorem dX2_numberStands_61 : decode cX2_numberStands 61 = .ok (.aload_n 0, 1) := by decide +kernel
theorem dX2_numberStands_62 : decode cX2_numberStands 62 = .ok (.getfield 15, 3) := by decide +kernel
theorem dX2_numberStands_65 : decode cX2_numberStands 65 = .ok (.iload 4, 2) := by decide +kernel
theorem dX2_numberStands_67 : decode cX2_numberStands 67 = .ok (.if_icmp .eq 9, 3) := by decide +kernel
theorem dX2_numberStands_70 : decode cX2_numberStands 70 = .ok (.iload 5, 2) := by decide +kernel
theorem dX2_numberStands_72 : decode cX2_numberStands 72 = .ok (.iload_n 2, 1) := by decide +kernel
theorem dX2_numberStands_73 : decode cX2_numberStands 73 = .ok (.if_icmp .le 10, 3) := by decide +kernel
theorem dX2_numberStands_76 : decode cX2_numberStands 76 = .ok (.aload_n 0, 1) := by decide +kernel
theorem dX2_numberStands_77 : decode cX2_numberStands 77 = .ok (.iload 4, 2) := by decide +kernel
theorem dX2_numberStands_79 : decode cX2_numberStands 79 = .ok (.invokevirtual 35, 3) := by decide +kernel
theorem dX2_numberStands_82 : decode cX2_numberStands 82 = .ok (.ireturn, 1) := by decide +kernel
theorem dX2_numberStands_83 : decode cX2_numberStands 83 = .ok (.iload_n 3, 1) := by decide +kernel
theorem dX2_numberStands_84 : decode cX2_numberStands 84 = .ok (.ifCond .lt 20, 3) := by decide +kernel
theorem dX2_numberStands_87 : decode cX2_numberStands 87 = .ok (.iload_n 3, 1) := by decide +kernel
theorem dX2_numberStands_88 : decode cX2_numberStands 88 = .ok (.aload_n 0, 1) := by decide +kernel
theorem dX2_numberStands_89 : decode cX2_numberStands 89 = .ok (.getfield 9, 3) := by decide +kernel
theorem dX2_numberStands_92 : decode cX2_numberStands 92 = .ok (.arraylength, 1) := by decide +kernel
theorem dX2_numberStands_93 : decode cX2_numberStands 93 = .ok (.if_icmp .ge 11, 3) := by decide +kernel
theorem dX2_numberStands_96 : decode cX2_numberStands 96 = .ok (.aload_n 0, 1) := by decide +kernel
theorem dX2_numberStands_97 : decode cX2_numberStands 97 = .ok (.getfield 9, 3) := by decide +kernel
theorem dX2_numberStands_100 : decode cX2_numberStands 100 = .ok (.iload_n 3, 1) := by decide +kernel
theorem dX2_numberStands_101 : decode cX2_numberStands 101 = .ok (.iload 5, 2) := by decide +kernel
theorem dX2_numberStands_103 : decode cX2_numberStands 103 = .ok (.iastore, 1) := by decide +kernel
theorem dX2_numberStands_104 : decode cX2_numberStands 104 = .ok (.iconst 1, 1) := by decide +kernel
theorem dX2_numberStands_105 : decode cX2_numberStands 105 = .ok (.ireturn, 1) := by decide +kernel
theorem dX2_isDigitAt_0 : decode cX2_isDigitAt 0 = .ok (.aload_n 0, 1) := by decide +kernel
theorem dX2_isDigitAt_1 : decode cX2_isDigitAt 1 = .ok (.getfield 15, 3) := by decide +kernel
theorem dX2_isDigitAt_4 : decode cX2_isDigitAt 4 = .ok (.aload_n 1, 1) := by decide +kernel
theorem dX2_isDigitAt_5 : decode cX2_isDigitAt 5 = .ok (.getfield 28, 3) := by decide +kernel
theorem dX2_isDigitAt_8 : decode cX2_isDigitAt 8 = .ok (.if_icmp .ge 33, 3) := by decide +kernel
theorem dX2_isDigitAt_11 : decode cX2_isDigitAt 11 = .ok (.aload_n 1, 1) := by decide +kernel
theorem dX2_isDigitAt_12 : decode cX2_isDigitAt 12 = .ok (.aload_n 0, 1) := by decide +kernel
theorem dX2_isDigitAt_13 : decode cX2_isDigitAt 13 = .ok (.getfield 15, 3) := by decide +kernel
theorem dX2_isDigitAt_16 : decode cX2_isDigitAt 16 = .ok (.invokevirtual 39, 3) := by decide +kernel
theorem dX2_isDigitAt_19 : decode cX2_isDigitAt 19 = .ok (.bipush 48, 2) := by decide +kernel
theorem dX2_isDigitAt_21 : decode cX2_isDigitAt 21 = .ok (.if_icmp .lt 20, 3) := by decide +kernel
theorem dX2_isDigitAt_24 : decode cX2_isDigitAt 24 = .ok (.aload_n 1, 1) := by decide +kernel
theorem dX2_isDigitAt_25 : decode cX2_isDigitAt 25 = .ok (.aload_n 0, 1) := by decide +kernel
theorem dX2_isDigitAt_26 : decode cX2_isDigitAt 26 = .ok (.getfield 15, 3) := by decide +kernel
theorem dX2_isDigitAt_29 : decode cX2_isDigitAt 29 = .ok (.invokevirtual 39, 3) := by decide +kernel
theorem dX2_isDigitAt_32 : decode cX2_isDigitAt 32 = .ok (.bipush 57, 2) := by decide +kernel
theorem dX2_isDigitAt_34 : decode cX2_isDigitAt 34 = .ok (.if_icmp .gt 7, 3) := by decide +kernel
theorem dX2_isDigitAt_37 : decode cX2_isDigitAt 37 = .ok (.iconst 1, 1) := by decide +kernel
theorem dX2_isDigitAt_38 : decode cX2_isDigitAt 38 = .ok (.goto 4, 3) := by decide +kernel
theorem dX2_isDigitAt_41 : decode cX2_isDigitAt 41 = .ok (.iconst 0, 1) := by decide +kernel
theorem dX2_isDigitAt_42 : decode cX2_isDigitAt 42 = .ok (.ireturn, 1) := by decide +kernel
theorem dX2_wordFrom_0 : decode cX2_wordFrom 0 = .ok (.iload_n 0, 1) := by decide +kernel
theorem dX2_wordFrom_1 : decode cX2_wordFrom 1 = .ok (.lookupswitch 71 #[(99, 65), (102, 59), (104, 63), (111, 69), (112, 61), (119, 67)], 59) := by decide +kernel
theorem dX2_wordFrom_60 : decode cX2_wordFrom 60 = .ok (.iconst 0, 1) := by decide +kernel
theorem dX2_wordFrom_61 : decode cX2_wordFrom 61 = .ok (.ireturn, 1) := by decide +kernel
theorem dX2_wordFrom_62 : decode cX2_wordFrom 62 = .ok (.iconst 1, 1) := by decide +kernel
theorem dX2_wordFrom_63 : decode cX2_wordFrom 63 = .ok (.ireturn, 1) := by decide +kernel
theorem dX2_wordFrom_64 : decode cX2_wordFrom 64 = .ok (.iconst 2, 1) := by decide +kernel
theorem dX2_wordFrom_65 : decode cX2_wordFrom 65 = .ok (.ireturn, 1) := by decide +kernel
theorem dX2_wordFrom_66 : decode cX2_wordFrom 66 = .ok (.iconst 3, 1) := by decide +kernel
theorem dX2_wordFrom_67 : decode cX2_wordFrom 67 = .ok (.ireturn, 1) := by decide +kernel
theorem dX2_wordFrom_68 : decode cX2_wordFrom 68 = .ok (.iconst 4, 1) := by decide +kernel
theorem dX2_wordFrom_69 : decode cX2_wordFrom 69 = .ok (.ireturn, 1) := by decide +kernel
theorem dX2_wordFrom_70 : decode cX2_wordFrom 70 = .ok (.iconst 5, 1) := by decide +kernel
theorem dX2_wordFrom_71 : decode cX2_wordFrom 71 = .ok (.ireturn, 1) := by decide +kernel
theorem dX2_wordFrom_72 : decode cX2_wordFrom 72 = .ok (.iconst (-1), 1) := by decide +kernel
theorem dX2_wordFrom_73 : decode cX2_wordFrom 73 = .ok (.ireturn, 1) := by decide +kernel
theorem dX2_lettersOf_0 : decode cX2_lettersOf 0 = .ok (.iload_n 0, 1) := by decide +kernel
theorem dX2_lettersOf_1 : decode cX2_lettersOf 1 = .ok (.tableswitch 50 0 4 #[35, 38, 41, 44, 47], 35) := by decide +kernel
theorem dX2_lettersOf_36 : decode cX2_lettersOf 36 = .ok (.ldc 87, 2) := by decide +kernel
theorem dX2_lettersOf_38 : decode cX2_lettersOf 38 = .ok (.areturn, 1) := by decide +kernel
theorem dX2_lettersOf_39 : decode cX2_lettersOf 39 = .ok (.ldc 89, 2) := by decide +kernel
theorem dX2_lettersOf_41 : decode cX2_lettersOf 41 = .ok (.areturn, 1) := by decide +kernel
theorem dX2_lettersOf_42 : decode cX2_lettersOf 42 = .ok (.ldc 91, 2) := by decide +kernel
theorem dX2_lettersOf_44 : decode cX2_lettersOf 44 = .ok (.areturn, 1) := by decide +kernel
theorem dX2_lettersOf_45 : decode cX2_lettersOf 45 = .ok (.ldc 93, 2) := by decide +kernel
theorem dX2_lettersOf_47 : decode cX2_lettersOf 47 = .ok (.areturn, 1) := by decide +kernel
theorem dX2_lettersOf_48 : decode cX2_lettersOf 48 = .ok (.ldc 95, 2) := by decide +kernel
theorem dX2_lettersOf_50 : decode cX2_lettersOf 50 = .ok (.areturn, 1) := by decide +kernel
theorem dX2_lettersOf_51 : decode cX2_lettersOf 51 = .ok (.ldc 97, 2) := by decide +kernel
theorem dX2_lettersOf_53 : decode cX2_lettersOf 53 = .ok (.areturn, 1) := by decide +kernel
theorem dX2_numbersOf_0 : decode cX2_numbersOf 0 = .ok (.iload_n 0, 1) := by decide +kernel
theorem dX2_numbersOf_1 : decode cX2_numbersOf 1 = .ok (.lookupswitch 31 #[(1, 27), (2, 29)], 27) := by decide +kernel
theorem dX2_numbersOf_28 : decode cX2_numbersOf 28 = .ok (.iconst 3, 1) := by decide +kernel
theorem dX2_numbersOf_29 : decode cX2_numbersOf 29 = .ok (.ireturn, 1) := by decide +kernel
theorem dX2_numbersOf_30 : decode cX2_numbersOf 30 = .ok (.iconst 2, 1) := by decide +kernel
theorem dX2_numbersOf_31 : decode cX2_numbersOf 31 = .ok (.ireturn, 1) := by decide +kernel
theorem dX2_numbersOf_32 : decode cX2_numbersOf 32 = .ok (.iconst 1, 1) := by decide +kernel
theorem dX2_numbersOf_33 : decode cX2_numbersOf 33 = .ok (.ireturn, 1) := by decide +kernel
theorem dX2_hasRoomFor_0 : decode cX2_hasRoomFor 0 = .ok (.iload_n 0, 1) := by decide +kernel
theorem dX2_hasRoomFor_1 : decode cX2_hasRoomFor 1 = .ok (.lookupswitch 37 #[(0, 27), (1, 32)], 27) := by decide +kernel
theorem dX2_hasRoomFor_28 : decode cX2_hasRoomFor 28 = .ok (.aload_n 1, 1) := by decide +kernel
theorem dX2_hasRoomFor_29 : decode cX2_hasRoomFor 29 = .ok (.invokevirtual 99, 3) := by decide +kernel
theorem dX2_hasRoomFor_32 : decode cX2_hasRoomFor 32 = .ok (.ireturn, 1) := by decide +kernel
theorem dX2_hasRoomFor_33 : decode cX2_hasRoomFor 33 = .ok (.aload_n 1, 1) := by decide +kernel
theorem dX2_hasRoomFor_34 : decode cX2_hasRoomFor 34 = .ok (.invokevirtual 105, 3) := by decide +kernel
theorem dX2_hasRoomFor_37 : decode cX2_hasRoomFor 37 = .ok (.ireturn, 1) := by decide +kernel
theorem dX2_hasRoomFor_38 : decode cX2_hasRoomFor 38 = .ok (.iconst 1, 1) := by decide +kernel
theorem dX2_hasRoomFor_39 : decode cX2_hasRoomFor 39 = .ok (.ireturn, 1) := by decide +kernel
theorem dX2_mostOf_0 : decode cX2_mostOf 0 = .ok (.iload_n 0, 1) := by decide +kernel
theorem dX2_mostOf_1 : decode cX2_mostOf 1 = .ok (.tableswitch 86 0 4 #[35, 38, 60, 80, 83], 35) := by decide +kernel
theorem dX2_mostOf_36 : decode cX2_mostOf 36 = .ok (.ldc 108, 2) := by decide +kernel
theorem dX2_mostOf_38 : decode cX2_mostOf 38 = .ok (.ireturn, 1) := by decide +kernel
theorem dX2_mostOf_39 : decode cX2_mostOf 39 = .ok (.iload_n 1, 1) := by decide +kernel
theorem dX2_mostOf_40 : decode cX2_mostOf 40 = .ok (.ifCond .ne 8, 3) := by decide +kernel
theorem dX2_mostOf_43 : decode cX2_mostOf 43 = .ok (.bipush 6, 2) := by decide +kernel
theorem dX2_mostOf_45 : decode cX2_mostOf 45 = .ok (.goto 15, 3) := by decide +kernel
theorem dX2_mostOf_48 : decode cX2_mostOf 48 = .ok (.iload_n 1, 1) := by decide +kernel
theorem dX2_mostOf_49 : decode cX2_mostOf 49 = .ok (.iconst 1, 1) := by decide +kernel
theorem dX2_mostOf_50 : decode cX2_mostOf 50 = .ok (.if_icmp .ne 8, 3) := by decide +kernel
theorem dX2_mostOf_53 : decode cX2_mostOf 53 = .ok (.bipush 9, 2) := by decide +kernel
theorem dX2_mostOf_55 : decode cX2_mostOf 55 = .ok (.goto 5, 3) := by decide +kernel
theorem dX2_mostOf_58 : decode cX2_mostOf 58 = .ok (.bipush 9, 2) := by decide +kernel
theorem dX2_mostOf_60 : decode cX2_mostOf 60 = .ok (.ireturn, 1) := by decide +kernel
theorem dX2_mostOf_61 : decode cX2_mostOf 61 = .ok (.iload_n 1, 1) := by decide +kernel
theorem dX2_mostOf_62 : decode cX2_mostOf 62 = .ok (.ifCond .ne 12, 3) := by decide +kernel
theorem dX2_mostOf_65 : decode cX2_mostOf 65 = .ok (.aload_n 2, 1) := by decide +kernel
theorem dX2_mostOf_66 : decode cX2_mostOf 66 = .ok (.getfield 109, 3) := by decide +kernel
theorem dX2_mostOf_69 : decode cX2_mostOf 69 = .ok (.iconst 1, 1) := by decide +kernel
theorem dX2_mostOf_70 : decode cX2_mostOf 70 = .ok (.isub, 1) := by decide +kernel
theorem dX2_mostOf_71 : decode cX2_mostOf 71 = .ok (.goto 9, 3) := by decide +kernel
theorem dX2_mostOf_74 : decode cX2_mostOf 74 = .ok (.aload_n 2, 1) := by decide +kernel
theorem dX2_mostOf_75 : decode cX2_mostOf 75 = .ok (.getfield 112, 3) := by decide +kernel
theorem dX2_mostOf_78 : decode cX2_mostOf 78 = .ok (.iconst 1, 1) := by decide +kernel
theorem dX2_mostOf_79 : decode cX2_mostOf 79 = .ok (.isub, 1) := by decide +kernel
theorem dX2_mostOf_80 : decode cX2_mostOf 80 = .ok (.ireturn, 1) := by decide +kernel
theorem dX2_mostOf_81 : decode cX2_mostOf 81 = .ok (.bipush 40, 2) := by decide +kernel
theorem dX2_mostOf_83 : decode cX2_mostOf 83 = .ok (.ireturn, 1) := by decide +kernel
theorem dX2_mostOf_84 : decode cX2_mostOf 84 = .ok (.bipush 9, 2) := by decide +kernel
theorem dX2_mostOf_86 : decode cX2_mostOf 86 = .ok (.ireturn, 1) := by decide +kernel
theorem dX2_mostOf_87 : decode cX2_mostOf 87 = .ok (.bipush 9, 2) := by decide +kernel
theorem dX2_mostOf_89 : decode cX2_mostOf 89 = .ok (.ireturn, 1) := by decide +kernel
theorem dX2_tell_0 : decode cX2_tell 0 = .ok (.aload_n 0, 1) := by decide +kernel
theorem dX2_tell_1 : decode cX2_tell 1 = .ok (.getfield 9, 3) := by decide +kernel
theorem dX2_tell_4 : decode cX2_tell 4 = .ok (.arraylength, 1) := by decide +kernel
theorem dX2_tell_5 : decode cX2_tell 5 = .ok (.ifCond .le 12, 3) := by decide +kernel
theorem dX2_tell_8 : decode cX2_tell 8 = .ok (.aload_n 0, 1) := by decide +kernel
theorem dX2_tell_9 : decode cX2_tell 9 = .ok (.getfield 9, 3) := by decide +kernel
theorem dX2_tell_12 : decode cX2_tell 12 = .ok (.iconst 0, 1) := by decide +kernel
theorem dX2_tell_13 : decode cX2_tell 13 = .ok (.iaload, 1) := by decide +kernel
theorem dX2_tell_14 : decode cX2_tell 14 = .ok (.goto 4, 3) := by decide +kernel
theorem dX2_tell_17 : decode cX2_tell 17 = .ok (.iconst 0, 1) := by decide +kernel
theorem dX2_tell_18 : decode cX2_tell 18 = .ok (.istore_n 3, 1) := by decide +kernel
theorem dX2_tell_19 : decode cX2_tell 19 = .ok (.aload_n 0, 1) := by decide +kernel
theorem dX2_tell_20 : decode cX2_tell 20 = .ok (.getfield 9, 3) := by decide +kernel
theorem dX2_tell_23 : decode cX2_tell 23 = .ok (.arraylength, 1) := by decide +kernel
theorem dX2_tell_24 : decode cX2_tell 24 = .ok (.iconst 1, 1) := by decide +kernel
theorem dX2_tell_25 : decode cX2_tell 25 = .ok (.if_icmp .le 12, 3) := by decide +kernel
theorem dX2_tell_28 : decode cX2_tell 28 = .ok (.aload_n 0, 1) := by decide +kernel
theorem dX2_tell_29 : decode cX2_tell 29 = .ok (.getfield 9, 3) := by decide +kernel
theorem dX2_tell_32 : decode cX2_tell 32 = .ok (.iconst 1, 1) := by decide +kernel
theorem dX2_tell_33 : decode cX2_tell 33 = .ok (.iaload, 1) := by decide +kernel
theorem dX2_tell_34 : decode cX2_tell 34 = .ok (.goto 4, 3) := by decide +kernel
theorem dX2_tell_37 : decode cX2_tell 37 = .ok (.iconst 0, 1) := by decide +kernel
theorem dX2_tell_38 : decode cX2_tell 38 = .ok (.istore 4, 2) := by decide +kernel
theorem dX2_tell_40 : decode cX2_tell 40 = .ok (.aload_n 0, 1) := by decide +kernel
theorem dX2_tell_41 : decode cX2_tell 41 = .ok (.getfield 9, 3) := by decide +kernel
theorem dX2_tell_44 : decode cX2_tell 44 = .ok (.arraylength, 1) := by decide +kernel
theorem dX2_tell_45 : decode cX2_tell 45 = .ok (.iconst 2, 1) := by decide +kernel
theorem dX2_tell_46 : decode cX2_tell 46 = .ok (.if_icmp .le 12, 3) := by decide +kernel
theorem dX2_tell_49 : decode cX2_tell 49 = .ok (.aload_n 0, 1) := by decide +kernel
theorem dX2_tell_50 : decode cX2_tell 50 = .ok (.getfield 9, 3) := by decide +kernel
theorem dX2_tell_53 : decode cX2_tell 53 = .ok (.iconst 2, 1) := by decide +kernel
theorem dX2_tell_54 : decode cX2_tell 54 = .ok (.iaload, 1) := by decide +kernel
theorem dX2_tell_55 : decode cX2_tell 55 = .ok (.goto 4, 3) := by decide +kernel
theorem dX2_tell_58 : decode cX2_tell 58 = .ok (.iconst 0, 1) := by decide +kernel
theorem dX2_tell_59 : decode cX2_tell 59 = .ok (.istore 5, 2) := by decide +kernel
theorem dX2_tell_61 : decode cX2_tell 61 = .ok (.iload_n 1, 1) := by decide +kernel
theorem dX2_tell_62 : decode cX2_tell 62 = .ok (.tableswitch 94 0 4 #[34, 43, 56, 78, 86], 34) := by decide +kernel
theorem dX2_tell_96 : decode cX2_tell 96 = .ok (.aload_n 2, 1) := by decide +kernel
theorem dX2_tell_97 : decode cX2_tell 97 = .ok (.iload_n 3, 1) := by decide +kernel
theorem dX2_tell_98 : decode cX2_tell 98 = .ok (.invokevirtual 115, 3) := by decide +kernel
theorem dX2_tell_101 : decode cX2_tell 101 = .ok (.pop, 1) := by decide +kernel
theorem dX2_tell_102 : decode cX2_tell 102 = .ok (.goto 59, 3) := by decide +kernel
theorem dX2_tell_105 : decode cX2_tell 105 = .ok (.aload_n 2, 1) := by decide +kernel
theorem dX2_tell_106 : decode cX2_tell 106 = .ok (.iload_n 3, 1) := by decide +kernel
theorem dX2_tell_107 : decode cX2_tell 107 = .ok (.iload 4, 2) := by decide +kernel
theorem dX2_tell_109 : decode cX2_tell 109 = .ok (.iload 5, 2) := by decide +kernel
theorem dX2_tell_111 : decode cX2_tell 111 = .ok (.invokevirtual 118, 3) := by decide +kernel
theorem dX2_tell_114 : decode cX2_tell 114 = .ok (.pop, 1) := by decide +kernel
theorem dX2_tell_115 : decode cX2_tell 115 = .ok (.goto 46, 3) := by decide +kernel
theorem dX2_tell_118 : decode cX2_tell 118 = .ok (.aload_n 2, 1) := by decide +kernel
theorem dX2_tell_119 : decode cX2_tell 119 = .ok (.iload_n 3, 1) := by decide +kernel
theorem dX2_tell_120 : decode cX2_tell 120 = .ok (.invokevirtual 122, 3) := by decide +kernel
theorem dX2_tell_123 : decode cX2_tell 123 = .ok (.astore 6, 2) := by decide +kernel
theorem dX2_tell_125 : decode cX2_tell 125 = .ok (.aload 6, 2) := by decide +kernel
theorem dX2_tell_127 : decode cX2_tell 127 = .ok (.ifnull 34, 3) := by decide +kernel
theorem dX2_tell_130 : decode cX2_tell 130 = .ok (.aload 6, 2) := by decide +kernel
theorem dX2_tell_132 : decode cX2_tell 132 = .ok (.iload 4, 2) := by decide +kernel
theorem dX2_tell_134 : decode cX2_tell 134 = .ok (.putfield 126, 3) := by decide +kernel
theorem dX2_tell_137 : decode cX2_tell 137 = .ok (.goto 24, 3) := by decide +kernel
theorem dX2_tell_140 : decode cX2_tell 140 = .ok (.aload_n 2, 1) := by decide +kernel
theorem dX2_tell_141 : decode cX2_tell 141 = .ok (.iload_n 3, 1) := by decide +kernel
theorem dX2_tell_142 : decode cX2_tell 142 = .ok (.putfield 131, 3) := by decide +kernel
theorem dX2_tell_145 : decode cX2_tell 145 = .ok (.goto 16, 3) := by decide +kernel
theorem dX2_tell_148 : decode cX2_tell 148 = .ok (.aload_n 2, 1) := by decide +kernel
theorem dX2_tell_149 : decode cX2_tell 149 = .ok (.iload_n 3, 1) := by decide +kernel
theorem dX2_tell_150 : decode cX2_tell 150 = .ok (.putfield 133, 3) := by decide +kernel
theorem dX2_tell_153 : decode cX2_tell 153 = .ok (.goto 8, 3) := by decide +kernel
theorem dX2_tell_156 : decode cX2_tell 156 = .ok (.aload_n 2, 1) := by decide +kernel
theorem dX2_tell_157 : decode cX2_tell 157 = .ok (.iload_n 3, 1) := by decide +kernel
theorem dX2_tell_158 : decode cX2_tell 158 = .ok (.putfield 135, 3) := by decide +kernel
theorem dX2_tell_161 : decode cX2_tell 161 = .ok (.return_, 1) := by decide +kernel
theorem dX3_init_0 : decode cX3_init 0 = .ok (.aload_n 0, 1) := by decide +kernel
theorem dX3_init_1 : decode cX3_init 1 = .ok (.invokespecial 3, 3) := by decide +kernel
theorem dX3_init_4 : decode cX3_init 4 = .ok (.aload_n 0, 1) := by decide +kernel
theorem dX3_init_5 : decode cX3_init 5 = .ok (.sipush 160, 3) := by decide +kernel
theorem dX3_init_8 : decode cX3_init 8 = .ok (.newarray .long, 2) := by decide +kernel
theorem dX3_init_10 : decode cX3_init 10 = .ok (.putfield 11, 3) := by decide +kernel
theorem dX3_init_13 : decode cX3_init 13 = .ok (.aload_n 0, 1) := by decide +kernel
theorem dX3_init_14 : decode cX3_init 14 = .ok (.iconst 0, 1) := by decide +kernel
theorem dX3_init_15 : decode cX3_init 15 = .ok (.putfield 15, 3) := by decide +kernel
theorem dX3_init_18 : decode cX3_init 18 = .ok (.aload_n 0, 1) := by decide +kernel
theorem dX3_init_19 : decode cX3_init 19 = .ok (.iconst 0, 1) := by decide +kernel
theorem dX3_init_20 : decode cX3_init 20 = .ok (.putfield 19, 3) := by decide +kernel
theorem dX3_init_23 : decode cX3_init 23 = .ok (.aload_n 0, 1) := by decide +kernel
theorem dX3_init_24 : decode cX3_init 24 = .ok (.iconst (-1), 1) := by decide +kernel
theorem dX3_init_25 : decode cX3_init 25 = .ok (.putfield 22, 3) := by decide +kernel
theorem dX3_init_28 : decode cX3_init 28 = .ok (.aload_n 0, 1) := by decide +kernel
theorem dX3_init_29 : decode cX3_init 29 = .ok (.iconst 0, 1) := by decide +kernel
theorem dX3_init_30 : decode cX3_init 30 = .ok (.putfield 25, 3) := by decide +kernel
theorem dX3_init_33 : decode cX3_init 33 = .ok (.return_, 1) := by decide +kernel
theorem dX3_hasRow_0 : decode cX3_hasRow 0 = .ok (.aload_n 0, 1) := by decide +kernel
theorem dX3_hasRow_1 : decode cX3_hasRow 1 = .ok (.getfield 25, 3) := by decide +kernel
theorem dX3_hasRow_4 : decode cX3_hasRow 4 = .ok (.ireturn, 1) := by decide +kernel
theorem dX3_hasPane_0 : decode cX3_hasPane 0 = .ok (.aload_n 0, 1) := by decide +kernel
theorem dX3_hasPane_1 : decode cX3_hasPane 1 = .ok (.getfield 25, 3) := by decide +kernel
theorem dX3_hasPane_4 : decode cX3_hasPane 4 = .ok (.ifCond .ne 15, 3) := by decide +kernel
theorem dX3_hasPane_7 : decode cX3_hasPane 7 = .ok (.aload_n 0, 1) := by decide +kernel
theorem dX3_hasPane_8 : decode cX3_hasPane 8 = .ok (.getfield 22, 3) := by decide +kernel
theorem dX3_hasPane_11 : decode cX3_hasPane 11 = .ok (.iconst (-1), 1) := by decide +kernel
theorem dX3_hasPane_12 : decode cX3_hasPane 12 = .ok (.if_icmp .eq 7, 3) := by decide +kernel
theorem dX3_hasPane_15 : decode cX3_hasPane 15 = .ok (.iconst 1, 1) := by decide +kernel
theorem dX3_hasPane_16 : decode cX3_hasPane 16 = .ok (.goto 4, 3) := by decide +kernel
theorem dX3_hasPane_19 : decode cX3_hasPane 19 = .ok (.iconst 0, 1) := by decide +kernel
theorem dX3_hasPane_20 : decode cX3_hasPane 20 = .ok (.ireturn, 1) := by decide +kernel
theorem dX3_takeNothing_0 : decode cX3_takeNothing 0 = .ok (.aload_n 0, 1) := by decide +kernel
theorem dX3_takeNothing_1 : decode cX3_takeNothing 1 = .ok (.iconst 0, 1) := by decide +kernel
theorem dX3_takeNothing_2 : decode cX3_takeNothing 2 = .ok (.putfield 25, 3) := by decide +kernel
theorem dX3_takeNothing_5 : decode cX3_takeNothing 5 = .ok (.aload_n 0, 1) := by decide +kernel
theorem dX3_takeNothing_6 : decode cX3_takeNothing 6 = .ok (.iconst 0, 1) := by decide +kernel
theorem dX3_takeNothing_7 : decode cX3_takeNothing 7 = .ok (.putfield 19, 3) := by decide +kernel
theorem dX3_takeNothing_10 : decode cX3_takeNothing 10 = .ok (.aload_n 0, 1) := by decide +kernel
theorem dX3_takeNothing_11 : decode cX3_takeNothing 11 = .ok (.iconst (-1), 1) := by decide +kernel
theorem dX3_takeNothing_12 : decode cX3_takeNothing 12 = .ok (.putfield 22, 3) := by decide +kernel
theorem dX3_takeNothing_15 : decode cX3_takeNothing 15 = .ok (.return_, 1) := by decide +kernel
theorem dX3_takePane_0 : decode cX3_takePane 0 = .ok (.aload_n 0, 1) := by decide +kernel
theorem dX3_takePane_1 : decode cX3_takePane 1 = .ok (.iconst 0, 1) := by decide +kernel
theorem dX3_takePane_2 : decode cX3_takePane 2 = .ok (.putfield 25, 3) := by decide +kernel
theorem dX3_takePane_5 : decode cX3_takePane 5 = .ok (.aload_n 0, 1) := by decide +kernel
theorem dX3_takePane_6 : decode cX3_takePane 6 = .ok (.iconst 0, 1) := by decide +kernel
theorem dX3_takePane_7 : decode cX3_takePane 7 = .ok (.putfield 19, 3) := by decide +kernel
theorem dX3_takePane_10 : decode cX3_takePane 10 = .ok (.aload_n 0, 1) := by decide +kernel
theorem dX3_takePane_11 : decode cX3_takePane 11 = .ok (.iload_n 1, 1) := by decide +kernel
theorem dX3_takePane_12 : decode cX3_takePane 12 = .ok (.putfield 22, 3) := by decide +kernel
theorem dX3_takePane_15 : decode cX3_takePane 15 = .ok (.return_, 1) := by decide +kernel
theorem dX3_takeRow_0 : decode cX3_takeRow 0 = .ok (.aload_n 0, 1) := by decide +kernel
theorem dX3_takeRow_1 : decode cX3_takeRow 1 = .ok (.iconst 1, 1) := by decide +kernel
theorem dX3_takeRow_2 : decode cX3_takeRow 2 = .ok (.putfield 25, 3) := by decide +kernel
theorem dX3_takeRow_5 : decode cX3_takeRow 5 = .ok (.aload_n 0, 1) := by decide +kernel
theorem dX3_takeRow_6 : decode cX3_takeRow 6 = .ok (.iload_n 1, 1) := by decide +kernel
theorem dX3_takeRow_7 : decode cX3_takeRow 7 = .ok (.putfield 15, 3) := by decide +kernel
theorem dX3_takeRow_10 : decode cX3_takeRow 10 = .ok (.aload_n 0, 1) := by decide +kernel
theorem dX3_takeRow_11 : decode cX3_takeRow 11 = .ok (.iload_n 2, 1) := by decide +kernel
theorem dX3_takeRow_12 : decode cX3_takeRow 12 = .ok (.putfield 19, 3) := by decide +kernel
theorem dX3_takeRow_15 : decode cX3_takeRow 15 = .ok (.aload_n 0, 1) := by decide +kernel
theorem dX3_takeRow_16 : decode cX3_takeRow 16 = .ok (.iconst (-1), 1) := by decide +kernel
theorem dX3_takeRow_17 : decode cX3_takeRow 17 = .ok (.putfield 22, 3) := by decide +kernel
theorem dX3_takeRow_20 : decode cX3_takeRow 20 = .ok (.iconst 0, 1) := by decide +kernel
theorem dX3_takeRow_21 : decode cX3_takeRow 21 = .ok (.istore_n 3, 1) := by decide +kernel
theorem dX3_takeRow_22 : decode cX3_takeRow 22 = .ok (.iload_n 3, 1) := by decide +kernel
theorem dX3_takeRow_23 : decode cX3_takeRow 23 = .ok (.aload_n 0, 1) := by decide +kernel
theorem dX3_takeRow_24 : decode cX3_takeRow 24 = .ok (.getfield 11, 3) := by decide +kernel
theorem dX3_takeRow_27 : decode cX3_takeRow 27 = .ok (.arraylength, 1) := by decide +kernel
theorem dX3_takeRow_28 : decode cX3_takeRow 28 = .ok (.if_icmp .ge 16, 3) := by decide +kernel
theorem dX3_takeRow_31 : decode cX3_takeRow 31 = .ok (.aload_n 0, 1) := by decide +kernel
theorem dX3_takeRow_32 : decode cX3_takeRow 32 = .ok (.getfield 11, 3) := by decide +kernel
theorem dX3_takeRow_35 : decode cX3_takeRow 35 = .ok (.iload_n 3, 1) := by decide +kernel
theorem dX3_takeRow_36 : decode cX3_takeRow 36 = .ok (.lconst 0, 1) := by decide +kernel
theorem dX3_takeRow_37 : decode cX3_takeRow 37 = .ok (.lastore, 1) := by decide +kernel
theorem dX3_takeRow_38 : decode cX3_takeRow 38 = .ok (.iinc 3 1, 3) := by decide +kernel
theorem dX3_takeRow_41 : decode cX3_takeRow 41 = .ok (.goto (-19), 3) := by decide +kernel
theorem dX3_takeRow_44 : decode cX3_takeRow 44 = .ok (.return_, 1) := by decide +kernel
theorem dX3_told_0 : decode cX3_told 0 = .ok (.aload_n 0, 1) := by decide +kernel
theorem dX3_told_1 : decode cX3_told 1 = .ok (.getfield 25, 3) := by decide +kernel
theorem dX3_told_4 : decode cX3_told 4 = .ok (.ifCond .eq 13, 3) := by decide +kernel
theorem dX3_told_7 : decode cX3_told 7 = .ok (.bipush 100, 2) := by decide +kernel
theorem dX3_told_9 : decode cX3_told 9 = .ok (.aload_n 0, 1) := by decide +kernel
theorem dX3_told_10 : decode cX3_told 10 = .ok (.getfield 15, 3) := by decide +kernel
theorem dX3_told_13 : decode cX3_told 13 = .ok (.iadd, 1) := by decide +kernel
theorem dX3_told_14 : decode cX3_told 14 = .ok (.goto 7, 3) := by decide +kernel
theorem dX3_told_17 : decode cX3_told 17 = .ok (.aload_n 0, 1) := by decide +kernel
theorem dX3_told_18 : decode cX3_told 18 = .ok (.getfield 22, 3) := by decide +kernel
theorem dX3_told_21 : decode cX3_told 21 = .ok (.ireturn, 1) := by decide +kernel
theorem dX3_elementAt_0 : decode cX3_elementAt 0 = .ok (.iload_n 1, 1) := by decide +kernel
theorem dX3_elementAt_1 : decode cX3_elementAt 1 = .ok (.ifCond .lt 29, 3) := by decide +kernel
theorem dX3_elementAt_4 : decode cX3_elementAt 4 = .ok (.iload_n 1, 1) := by decide +kernel
theorem dX3_elementAt_5 : decode cX3_elementAt 5 = .ok (.aload_n 0, 1) := by decide +kernel
theorem dX3_elementAt_6 : decode cX3_elementAt 6 = .ok (.getfield 19, 3) := by decide +kernel
theorem dX3_elementAt_9 : decode cX3_elementAt 9 = .ok (.if_icmp .ge 21, 3) := by decide +kernel
theorem dX3_elementAt_12 : decode cX3_elementAt 12 = .ok (.iload_n 1, 1) := by decide +kernel
theorem dX3_elementAt_13 : decode cX3_elementAt 13 = .ok (.aload_n 0, 1) := by decide +kernel
theorem dX3_elementAt_14 : decode cX3_elementAt 14 = .ok (.getfield 11, 3) := by decide +kernel
theorem dX3_elementAt_17 : decode cX3_elementAt 17 = .ok (.arraylength, 1) := by decide +kernel
theorem dX3_elementAt_18 : decode cX3_elementAt 18 = .ok (.if_icmp .ge 12, 3) := by decide +kernel
theorem dX3_elementAt_21 : decode cX3_elementAt 21 = .ok (.aload_n 0, 1) := by decide +kernel
theorem dX3_elementAt_22 : decode cX3_elementAt 22 = .ok (.getfield 11, 3) := by decide +kernel
theorem dX3_elementAt_25 : decode cX3_elementAt 25 = .ok (.iload_n 1, 1) := by decide +kernel
theorem dX3_elementAt_26 : decode cX3_elementAt 26 = .ok (.laload, 1) := by decide +kernel
theorem dX3_elementAt_27 : decode cX3_elementAt 27 = .ok (.goto 4, 3) := by decide +kernel
theorem dX3_elementAt_30 : decode cX3_elementAt 30 = .ok (.lconst 0, 1) := by decide +kernel
theorem dX3_elementAt_31 : decode cX3_elementAt 31 = .ok (.lreturn, 1) := by decide +kernel
theorem dX3_signAt_0 : decode cX3_signAt 0 = .ok (.aload_n 0, 1) := by decide +kernel
theorem dX3_signAt_1 : decode cX3_signAt 1 = .ok (.iload_n 1, 1) := by decide +kernel
theorem dX3_signAt_2 : decode cX3_signAt 2 = .ok (.invokevirtual 29, 3) := by decide +kernel
theorem dX3_signAt_5 : decode cX3_signAt 5 = .ok (.l2i, 1) := by decide +kernel
theorem dX3_signAt_6 : decode cX3_signAt 6 = .ok (.ireturn, 1) := by decide +kernel
theorem dX3_put_0 : decode cX3_put 0 = .ok (.iload_n 1, 1) := by decide +kernel
theorem dX3_put_1 : decode cX3_put 1 = .ok (.ifCond .lt 31, 3) := by decide +kernel
theorem dX3_put_4 : decode cX3_put 4 = .ok (.iload_n 1, 1) := by decide +kernel
theorem dX3_put_5 : decode cX3_put 5 = .ok (.aload_n 0, 1) := by decide +kernel
theorem dX3_put_6 : decode cX3_put 6 = .ok (.getfield 19, 3) := by decide +kernel
theorem dX3_put_9 : decode cX3_put 9 = .ok (.if_icmp .ge 23, 3) := by decide +kernel
theorem dX3_put_12 : decode cX3_put 12 = .ok (.iload_n 1, 1) := by decide +kernel
theorem dX3_put_13 : decode cX3_put 13 = .ok (.aload_n 0, 1) := by decide +kernel
theorem dX3_put_14 : decode cX3_put 14 = .ok (.getfield 11, 3) := by decide +kernel
theorem dX3_put_17 : decode cX3_put 17 = .ok (.arraylength, 1) := by decide +kernel
theorem dX3_put_18 : decode cX3_put 18 = .ok (.if_icmp .ge 14, 3) := by decide +kernel
theorem dX3_put_21 : decode cX3_put 21 = .ok (.aload_n 0, 1) := by decide +kernel
theorem dX3_put_22 : decode cX3_put 22 = .ok (.getfield 11, 3) := by decide +kernel
theorem dX3_put_25 : decode cX3_put 25 = .ok (.iload_n 1, 1) := by decide +kernel
theorem dX3_put_26 : decode cX3_put 26 = .ok (.aload_n 0, 1) := by decide +kernel
theorem dX3_put_27 : decode cX3_put 27 = .ok (.lload_n 2, 1) := by decide +kernel
theorem dX3_put_28 : decode cX3_put 28 = .ok (.invokevirtual 33, 3) := by decide +kernel
theorem dX3_put_31 : decode cX3_put 31 = .ok (.lastore, 1) := by decide +kernel
theorem dX3_put_32 : decode cX3_put 32 = .ok (.return_, 1) := by decide +kernel
theorem dX3_lowestBits_0 : decode cX3_lowestBits 0 = .ok (.aload_n 0, 1) := by decide +kernel
theorem dX3_lowestBits_1 : decode cX3_lowestBits 1 = .ok (.getfield 15, 3) := by decide +kernel
theorem dX3_lowestBits_4 : decode cX3_lowestBits 4 = .ok (.tableswitch 42 0 2 #[28, 33, 38], 28) := by decide +kernel
theorem dX3_lowestBits_32 : decode cX3_lowestBits 32 = .ok (.lload_n 1, 1) := by decide +kernel
theorem dX3_lowestBits_33 : decode cX3_lowestBits 33 = .ok (.l2i, 1) := by decide +kernel
theorem dX3_lowestBits_34 : decode cX3_lowestBits 34 = .ok (.i2b, 1) := by decide +kernel
theorem dX3_lowestBits_35 : decode cX3_lowestBits 35 = .ok (.i2l, 1) := by decide +kernel
theorem dX3_lowestBits_36 : decode cX3_lowestBits 36 = .ok (.lreturn, 1) := by decide +kernel
theorem dX3_lowestBits_37 : decode cX3_lowestBits 37 = .ok (.lload_n 1, 1) := by decide +kernel
theorem dX3_lowestBits_38 : decode cX3_lowestBits 38 = .ok (.l2i, 1) := by decide +kernel
theorem dX3_lowestBits_39 : decode cX3_lowestBits 39 = .ok (.i2s, 1) := by decide +kernel
theorem dX3_lowestBits_40 : decode cX3_lowestBits 40 = .ok (.i2l, 1) := by decide +kernel
theorem dX3_lowestBits_41 : decode cX3_lowestBits 41 = .ok (.lreturn, 1) := by decide +kernel
theorem dX3_lowestBits_42 : decode cX3_lowestBits 42 = .ok (.lload_n 1, 1) := by decide +kernel
theorem dX3_lowestBits_43 : decode cX3_lowestBits 43 = .ok (.l2i, 1) := by decide +kernel
theorem dX3_lowestBits_44 : decode cX3_lowestBits 44 = .ok (.i2l, 1) := by decide +kernel
theorem dX3_lowestBits_45 : decode cX3_lowestBits 45 = .ok (.lreturn, 1) := by decide +kernel
theorem dX3_lowestBits_46 : decode cX3_lowestBits 46 = .ok (.lload_n 1, 1) := by decide +kernel
theorem dX3_lowestBits_47 : decode cX3_lowestBits 47 = .ok (.lreturn, 1) := by decide +kernel
theorem dX4_init_0 : decode cX4_init 0 = .ok (.aload_n 0, 1) := by decide +kernel
theorem dX4_init_1 : decode cX4_init 1 = .ok (.invokespecial 3, 3) := by decide +kernel
theorem dX4_init_4 : decode cX4_init 4 = .ok (.aload_n 0, 1) := by decide +kernel
theorem dX4_init_5 : decode cX4_init 5 = .ok (.bipush 8, 2) := by decide +kernel
theorem dX4_init_7 : decode cX4_init 7 = .ok (.newarray .int, 2) := by decide +kernel
theorem dX4_init_9 : decode cX4_init 9 = .ok (.putfield 9, 3) := by decide +kernel
theorem dX4_init_12 : decode cX4_init 12 = .ok (.aload_n 0, 1) := by decide +kernel
theorem dX4_init_13 : decode cX4_init 13 = .ok (.bipush 8, 2) := by decide +kernel
theorem dX4_init_15 : decode cX4_init 15 = .ok (.anewarray 15, 3) := by decide +kernel
theorem dX4_init_18 : decode cX4_init 18 = .ok (.putfield 17, 3) := by decide +kernel
theorem dX4_init_21 : decode cX4_init 21 = .ok (.iconst 0, 1) := by decide +kernel
theorem dX4_init_22 : decode cX4_init 22 = .ok (.istore_n 1, 1) := by decide +kernel
theorem dX4_init_23 : decode cX4_init 23 = .ok (.iload_n 1, 1) := by decide +kernel
theorem dX4_init_24 : decode cX4_init 24 = .ok (.aload_n 0, 1) := by decide +kernel
theorem dX4_init_25 : decode cX4_init 25 = .ok (.getfield 17, 3) := by decide +kernel
theorem dX4_init_28 : decode cX4_init 28 = .ok (.arraylength, 1) := by decide +kernel
theorem dX4_init_29 : decode cX4_init 29 = .ok (.if_icmp .ge 22, 3) := by decide +kernel
theorem dX4_init_32 : decode cX4_init 32 = .ok (.aload_n 0, 1) := by decide +kernel
theorem dX4_init_33 : decode cX4_init 33 = .ok (.getfield 17, 3) := by decide +kernel
theorem dX4_init_36 : decode cX4_init 36 = .ok (.iload_n 1, 1) := by decide +kernel
theorem dX4_init_37 : decode cX4_init 37 = .ok (.new 15, 3) := by decide +kernel
theorem dX4_init_40 : decode cX4_init 40 = .ok (.dup, 1) := by decide +kernel
theorem dX4_init_41 : decode cX4_init 41 = .ok (.invokespecial 21, 3) := by decide +kernel
theorem dX4_init_44 : decode cX4_init 44 = .ok (.aastore, 1) := by decide +kernel
theorem dX4_init_45 : decode cX4_init 45 = .ok (.iinc 1 1, 3) := by decide +kernel
theorem dX4_init_48 : decode cX4_init 48 = .ok (.goto (-25), 3) := by decide +kernel
theorem dX4_init_51 : decode cX4_init 51 = .ok (.aload_n 0, 1) := by decide +kernel
theorem dX4_init_52 : decode cX4_init 52 = .ok (.iconst 0, 1) := by decide +kernel
theorem dX4_init_53 : decode cX4_init 53 = .ok (.putfield 22, 3) := by decide +kernel
theorem dX4_init_56 : decode cX4_init 56 = .ok (.aload_n 0, 1) := by decide +kernel
theorem dX4_init_57 : decode cX4_init 57 = .ok (.iconst 0, 1) := by decide +kernel
theorem dX4_init_58 : decode cX4_init 58 = .ok (.putfield 26, 3) := by decide +kernel
theorem dX4_init_61 : decode cX4_init 61 = .ok (.aload_n 0, 1) := by decide +kernel
theorem dX4_init_62 : decode cX4_init 62 = .ok (.bipush 20, 2) := by decide +kernel
theorem dX4_init_64 : decode cX4_init 64 = .ok (.putfield 29, 3) := by decide +kernel
theorem dX4_init_67 : decode cX4_init 67 = .ok (.aload_n 0, 1) := by decide +kernel
theorem dX4_init_68 : decode cX4_init 68 = .ok (.iconst 5, 1) := by decide +kernel
theorem dX4_init_69 : decode cX4_init 69 = .ok (.putfield 32, 3) := by decide +kernel
theorem dX4_init_72 : decode cX4_init 72 = .ok (.aload_n 0, 1) := by decide +kernel
theorem dX4_init_73 : decode cX4_init 73 = .ok (.iconst 1, 1) := by decide +kernel
theorem dX4_init_74 : decode cX4_init 74 = .ok (.putfield 35, 3) := by decide +kernel
theorem dX4_init_77 : decode cX4_init 77 = .ok (.aload_n 0, 1) := by decide +kernel
theorem dX4_init_78 : decode cX4_init 78 = .ok (.bipush 24, 2) := by decide +kernel
theorem dX4_init_80 : decode cX4_init 80 = .ok (.putfield 38, 3) := by decide +kernel
theorem dX4_init_83 : decode cX4_init 83 = .ok (.aload_n 0, 1) := by decide +kernel
theorem dX4_init_84 : decode cX4_init 84 = .ok (.iconst 0, 1) := by decide +kernel
theorem dX4_init_85 : decode cX4_init 85 = .ok (.putfield 41, 3) := by decide +kernel
theorem dX4_init_88 : decode cX4_init 88 = .ok (.aload_n 0, 1) := by decide +kernel
theorem dX4_init_89 : decode cX4_init 89 = .ok (.iconst 1, 1) := by decide +kernel
theorem dX4_init_90 : decode cX4_init 90 = .ok (.putfield 44, 3) := by decide +kernel
theorem dX4_init_93 : decode cX4_init 93 = .ok (.return_, 1) := by decide +kernel
theorem dX4_takeAll_0 : decode cX4_takeAll 0 = .ok (.iconst 0, 1) := by decide +kernel
theorem dX4_takeAll_1 : decode cX4_takeAll 1 = .ok (.istore_n 2, 1) := by decide +kernel
theorem dX4_takeAll_2 : decode cX4_takeAll 2 = .ok (.iload_n 2, 1) := by decide +kernel
theorem dX4_takeAll_3 : decode cX4_takeAll 3 = .ok (.aload_n 0, 1) := by decide +kernel
theorem dX4_takeAll_4 : decode cX4_takeAll 4 = .ok (.getfield 9, 3) := by decide +kernel
theorem dX4_takeAll_7 : decode cX4_takeAll 7 = .ok (.arraylength, 1) := by decide +kernel
theorem dX4_takeAll_8 : decode cX4_takeAll 8 = .ok (.if_icmp .ge 20, 3) := by decide +kernel
theorem dX4_takeAll_11 : decode cX4_takeAll 11 = .ok (.aload_n 0, 1) := by decide +kernel
theorem dX4_takeAll_12 : decode cX4_takeAll 12 = .ok (.getfield 9, 3) := by decide +kernel
theorem dX4_takeAll_15 : decode cX4_takeAll 15 = .ok (.iload_n 2, 1) := by decide +kernel
theorem dX4_takeAll_16 : decode cX4_takeAll 16 = .ok (.aload_n 1, 1) := by decide +kernel
theorem dX4_takeAll_17 : decode cX4_takeAll 17 = .ok (.iload_n 2, 1) := by decide +kernel
theorem dX4_takeAll_18 : decode cX4_takeAll 18 = .ok (.invokevirtual 47, 3) := by decide +kernel
theorem dX4_takeAll_21 : decode cX4_takeAll 21 = .ok (.iastore, 1) := by decide +kernel
theorem dX4_takeAll_22 : decode cX4_takeAll 22 = .ok (.iinc 2 1, 3) := by decide +kernel
theorem dX4_takeAll_25 : decode cX4_takeAll 25 = .ok (.goto (-23), 3) := by decide +kernel
theorem dX4_takeAll_28 : decode cX4_takeAll 28 = .ok (.iconst 0, 1) := by decide +kernel
theorem dX4_takeAll_29 : decode cX4_takeAll 29 = .ok (.istore_n 2, 1) := by decide +kernel
theorem dX4_takeAll_30 : decode cX4_takeAll 30 = .ok (.iload_n 2, 1) := by decide +kernel
theorem dX4_takeAll_31 : decode cX4_takeAll 31 = .ok (.aload_n 0, 1) := by decide +kernel
theorem dX4_takeAll_32 : decode cX4_takeAll 32 = .ok (.getfield 17, 3) := by decide +kernel
theorem dX4_takeAll_35 : decode cX4_takeAll 35 = .ok (.arraylength, 1) := by decide +kernel
theorem dX4_takeAll_36 : decode cX4_takeAll 36 = .ok (.if_icmp .ge 38, 3) := by decide +kernel
theorem dX4_takeAll_39 : decode cX4_takeAll 39 = .ok (.aload_n 1, 1) := by decide +kernel
theorem dX4_takeAll_40 : decode cX4_takeAll 40 = .ok (.iload_n 2, 1) := by decide +kernel
theorem dX4_takeAll_41 : decode cX4_takeAll 41 = .ok (.invokevirtual 51, 3) := by decide +kernel
theorem dX4_takeAll_44 : decode cX4_takeAll 44 = .ok (.astore_n 3, 1) := by decide +kernel
theorem dX4_takeAll_45 : decode cX4_takeAll 45 = .ok (.aload_n 0, 1) := by decide +kernel
theorem dX4_takeAll_46 : decode cX4_takeAll 46 = .ok (.getfield 17, 3) := by decide +kernel
theorem dX4_takeAll_49 : decode cX4_takeAll 49 = .ok (.iload_n 2, 1) := by decide +kernel
theorem dX4_takeAll_50 : decode cX4_takeAll 50 = .ok (.aaload, 1) := by decide +kernel
theorem dX4_takeAll_51 : decode cX4_takeAll 51 = .ok (.ifnull 17, 3) := by decide +kernel
theorem dX4_takeAll_54 : decode cX4_takeAll 54 = .ok (.aload_n 3, 1) := by decide +kernel
theorem dX4_takeAll_55 : decode cX4_takeAll 55 = .ok (.ifnull 13, 3) := by decide +kernel
theorem dX4_takeAll_58 : decode cX4_takeAll 58 = .ok (.aload_n 0, 1) := by decide +kernel
theorem dX4_takeAll_59 : decode cX4_takeAll 59 = .ok (.getfield 17, 3) := by decide +kernel
theorem dX4_takeAll_62 : decode cX4_takeAll 62 = .ok (.iload_n 2, 1) := by decide +kernel
theorem dX4_takeAll_63 : decode cX4_takeAll 63 = .ok (.aaload, 1) := by decide +kernel
theorem dX4_takeAll_64 : decode cX4_takeAll 64 = .ok (.aload_n 3, 1) := by decide +kernel
theorem dX4_takeAll_65 : decode cX4_takeAll 65 = .ok (.invokevirtual 55, 3) := by decide +kernel
theorem dX4_takeAll_68 : decode cX4_takeAll 68 = .ok (.iinc 2 1, 3) := by decide +kernel
theorem dX4_takeAll_71 : decode cX4_takeAll 71 = .ok (.goto (-41), 3) := by decide +kernel
theorem dX4_takeAll_74 : decode cX4_takeAll 74 = .ok (.aload_n 0, 1) := by decide +kernel
theorem dX4_takeAll_75 : decode cX4_takeAll 75 = .ok (.aload_n 1, 1) := by decide +kernel
theorem dX4_takeAll_76 : decode cX4_takeAll 76 = .ok (.getfield 22, 3) := by decide +kernel
theorem dX4_takeAll_79 : decode cX4_takeAll 79 = .ok (.putfield 22, 3) := by decide +kernel
theorem dX4_takeAll_82 : decode cX4_takeAll 82 = .ok (.aload_n 0, 1) := by decide +kernel
theorem dX4_takeAll_83 : decode cX4_takeAll 83 = .ok (.aload_n 1, 1) := by decide +kernel
theorem dX4_takeAll_84 : decode cX4_takeAll 84 = .ok (.getfield 26, 3) := by decide +kernel
theorem dX4_takeAll_87 : decode cX4_takeAll 87 = .ok (.putfield 26, 3) := by decide +kernel
theorem dX4_takeAll_90 : decode cX4_takeAll 90 = .ok (.aload_n 0, 1) := by decide +kernel
theorem dX4_takeAll_91 : decode cX4_takeAll 91 = .ok (.aload_n 1, 1) := by decide +kernel
theorem dX4_takeAll_92 : decode cX4_takeAll 92 = .ok (.getfield 29, 3) := by decide +kernel
theorem dX4_takeAll_95 : decode cX4_takeAll 95 = .ok (.putfield 29, 3) := by decide +kernel
theorem dX4_takeAll_98 : decode cX4_takeAll 98 = .ok (.aload_n 0, 1) := by decide +kernel
theorem dX4_takeAll_99 : decode cX4_takeAll 99 = .ok (.aload_n 1, 1) := by decide +kernel
theorem dX4_takeAll_100 : decode cX4_takeAll 100 = .ok (.getfield 32, 3) := by decide +kernel
theorem dX4_takeAll_103 : decode cX4_takeAll 103 = .ok (.putfield 32, 3) := by decide +kernel
theorem dX4_takeAll_106 : decode cX4_takeAll 106 = .ok (.aload_n 0, 1) := by decide +kernel
theorem dX4_takeAll_107 : decode cX4_takeAll 107 = .ok (.aload_n 1, 1) := by decide +kernel
theorem dX4_takeAll_108 : decode cX4_takeAll 108 = .ok (.getfield 35, 3) := by decide +kernel
theorem dX4_takeAll_111 : decode cX4_takeAll 111 = .ok (.putfield 35, 3) := by decide +kernel
theorem dX4_takeAll_114 : decode cX4_takeAll 114 = .ok (.aload_n 0, 1) := by decide +kernel
theorem dX4_takeAll_115 : decode cX4_takeAll 115 = .ok (.aload_n 1, 1) := by decide +kernel
theorem dX4_takeAll_116 : decode cX4_takeAll 116 = .ok (.getfield 38, 3) := by decide +kernel
theorem dX4_takeAll_119 : decode cX4_takeAll 119 = .ok (.putfield 38, 3) := by decide +kernel
theorem dX4_takeAll_122 : decode cX4_takeAll 122 = .ok (.aload_n 0, 1) := by decide +kernel
theorem dX4_takeAll_123 : decode cX4_takeAll 123 = .ok (.aload_n 1, 1) := by decide +kernel
theorem dX4_takeAll_124 : decode cX4_takeAll 124 = .ok (.getfield 41, 3) := by decide +kernel
theorem dX4_takeAll_127 : decode cX4_takeAll 127 = .ok (.putfield 41, 3) := by decide +kernel
theorem dX4_takeAll_130 : decode cX4_takeAll 130 = .ok (.aload_n 0, 1) := by decide +kernel
theorem dX4_takeAll_131 : decode cX4_takeAll 131 = .ok (.aload_n 1, 1) := by decide +kernel
theorem dX4_takeAll_132 : decode cX4_takeAll 132 = .ok (.getfield 44, 3) := by decide +kernel
theorem dX4_takeAll_135 : decode cX4_takeAll 135 = .ok (.putfield 44, 3) := by decide +kernel
theorem dX4_takeAll_138 : decode cX4_takeAll 138 = .ok (.return_, 1) := by decide +kernel
theorem dX4_isLetter_0 : decode cX4_isLetter 0 = .ok (.iload_n 1, 1) := by decide +kernel
theorem dX4_isLetter_1 : decode cX4_isLetter 1 = .ok (.ifCond .lt 24, 3) := by decide +kernel
theorem dX4_isLetter_4 : decode cX4_isLetter 4 = .ok (.iload_n 1, 1) := by decide +kernel
theorem dX4_isLetter_5 : decode cX4_isLetter 5 = .ok (.aload_n 0, 1) := by decide +kernel
theorem dX4_isLetter_6 : decode cX4_isLetter 6 = .ok (.getfield 22, 3) := by decide +kernel
theorem dX4_isLetter_9 : decode cX4_isLetter 9 = .ok (.if_icmp .ge 16, 3) := by decide +kernel
theorem dX4_isLetter_12 : decode cX4_isLetter 12 = .ok (.iload_n 1, 1) := by decide +kernel
theorem dX4_isLetter_13 : decode cX4_isLetter 13 = .ok (.aload_n 0, 1) := by decide +kernel
theorem dX4_isLetter_14 : decode cX4_isLetter 14 = .ok (.getfield 9, 3) := by decide +kernel
theorem dX4_isLetter_17 : decode cX4_isLetter 17 = .ok (.arraylength, 1) := by decide +kernel
theorem dX4_isLetter_18 : decode cX4_isLetter 18 = .ok (.if_icmp .ge 7, 3) := by decide +kernel
theorem dX4_isLetter_21 : decode cX4_isLetter 21 = .ok (.iconst 1, 1) := by decide +kernel
theorem dX4_isLetter_22 : decode cX4_isLetter 22 = .ok (.goto 4, 3) := by decide +kernel
theorem dX4_isLetter_25 : decode cX4_isLetter 25 = .ok (.iconst 0, 1) := by decide +kernel
theorem dX4_isLetter_26 : decode cX4_isLetter 26 = .ok (.ireturn, 1) := by decide +kernel
theorem dX4_isLetterOrNone_0 : decode cX4_isLetterOrNone 0 = .ok (.iload_n 1, 1) := by decide +kernel
theorem dX4_isLetterOrNone_1 : decode cX4_isLetterOrNone 1 = .ok (.iconst (-1), 1) := by decide +kernel
theorem dX4_isLetterOrNone_2 : decode cX4_isLetterOrNone 2 = .ok (.if_icmp .eq 11, 3) := by decide +kernel
theorem dX4_isLetterOrNone_5 : decode cX4_isLetterOrNone 5 = .ok (.aload_n 0, 1) := by decide +kernel
theorem dX4_isLetterOrNone_6 : decode cX4_isLetterOrNone 6 = .ok (.iload_n 1, 1) := by decide +kernel
theorem dX4_isLetterOrNone_7 : decode cX4_isLetterOrNone 7 = .ok (.invokevirtual 59, 3) := by decide +kernel
theorem dX4_isLetterOrNone_10 : decode cX4_isLetterOrNone 10 = .ok (.ifCond .eq 7, 3) := by decide +kernel
theorem dX4_isLetterOrNone_13 : decode cX4_isLetterOrNone 13 = .ok (.iconst 1, 1) := by decide +kernel
theorem dX4_isLetterOrNone_14 : decode cX4_isLetterOrNone 14 = .ok (.goto 4, 3) := by decide +kernel
theorem dX4_isLetterOrNone_17 : decode cX4_isLetterOrNone 17 = .ok (.iconst 0, 1) := by decide +kernel
theorem dX4_isLetterOrNone_18 : decode cX4_isLetterOrNone 18 = .ok (.ireturn, 1) := by decide +kernel
theorem dX4_hasLetterRoom_0 : decode cX4_hasLetterRoom 0 = .ok (.aload_n 0, 1) := by decide +kernel
theorem dX4_hasLetterRoom_1 : decode cX4_hasLetterRoom 1 = .ok (.getfield 22, 3) := by decide +kernel
theorem dX4_hasLetterRoom_4 : decode cX4_hasLetterRoom 4 = .ok (.ifCond .lt 19, 3) := by decide +kernel
theorem dX4_hasLetterRoom_7 : decode cX4_hasLetterRoom 7 = .ok (.aload_n 0, 1) := by decide +kernel
theorem dX4_hasLetterRoom_8 : decode cX4_hasLetterRoom 8 = .ok (.getfield 22, 3) := by decide +kernel
theorem dX4_hasLetterRoom_11 : decode cX4_hasLetterRoom 11 = .ok (.aload_n 0, 1) := by decide +kernel
theorem dX4_hasLetterRoom_12 : decode cX4_hasLetterRoom 12 = .ok (.getfield 9, 3) := by decide +kernel
theorem dX4_hasLetterRoom_15 : decode cX4_hasLetterRoom 15 = .ok (.arraylength, 1) := by decide +kernel
theorem dX4_hasLetterRoom_16 : decode cX4_hasLetterRoom 16 = .ok (.if_icmp .ge 7, 3) := by decide +kernel
theorem dX4_hasLetterRoom_19 : decode cX4_hasLetterRoom 19 = .ok (.iconst 1, 1) := by decide +kernel
theorem dX4_hasLetterRoom_20 : decode cX4_hasLetterRoom 20 = .ok (.goto 4, 3) := by decide +kernel
theorem dX4_hasLetterRoom_23 : decode cX4_hasLetterRoom 23 = .ok (.iconst 0, 1) := by decide +kernel
theorem dX4_hasLetterRoom_24 : decode cX4_hasLetterRoom 24 = .ok (.ireturn, 1) := by decide +kernel
theorem dX4_addLetter_0 : decode cX4_addLetter 0 = .ok (.aload_n 0, 1) := by decide +kernel
theorem dX4_addLetter_1 : decode cX4_addLetter 1 = .ok (.invokevirtual 63, 3) := by decide +kernel
theorem dX4_addLetter_4 : decode cX4_addLetter 4 = .ok (.ifCond .ne 5, 3) := by decide +kernel
theorem dX4_addLetter_7 : decode cX4_addLetter 7 = .ok (.iconst (-1), 1) := by decide +kernel
theorem dX4_addLetter_8 : decode cX4_addLetter 8 = .ok (.ireturn, 1) := by decide +kernel
theorem dX4_addLetter_9 : decode cX4_addLetter 9 = .ok (.aload_n 0, 1) := by decide +kernel
theorem dX4_addLetter_10 : decode cX4_addLetter 10 = .ok (.getfield 9, 3) := by decide +kernel
theorem dX4_addLetter_13 : decode cX4_addLetter 13 = .ok (.aload_n 0, 1) := by decide +kernel
theorem dX4_addLetter_14 : decode cX4_addLetter 14 = .ok (.getfield 22, 3) := by decide +kernel
theorem dX4_addLetter_17 : decode cX4_addLetter 17 = .ok (.iload_n 1, 1) := by decide +kernel
theorem dX4_addLetter_18 : decode cX4_addLetter 18 = .ok (.iastore, 1) := by decide +kernel
theorem dX4_addLetter_19 : decode cX4_addLetter 19 = .ok (.aload_n 0, 1) := by decide +kernel
theorem dX4_addLetter_20 : decode cX4_addLetter 20 = .ok (.dup, 1) := by decide +kernel
theorem dX4_addLetter_21 : decode cX4_addLetter 21 = .ok (.getfield 22, 3) := by decide +kernel
theorem dX4_addLetter_24 : decode cX4_addLetter 24 = .ok (.iconst 1, 1) := by decide +kernel
theorem dX4_addLetter_25 : decode cX4_addLetter 25 = .ok (.iadd, 1) := by decide +kernel
theorem dX4_addLetter_26 : decode cX4_addLetter 26 = .ok (.putfield 22, 3) := by decide +kernel
theorem dX4_addLetter_29 : decode cX4_addLetter 29 = .ok (.aload_n 0, 1) := by decide +kernel
theorem dX4_addLetter_30 : decode cX4_addLetter 30 = .ok (.getfield 22, 3) := by decide +kernel
theorem dX4_addLetter_33 : decode cX4_addLetter 33 = .ok (.iconst 1, 1) := by decide +kernel
theorem dX4_addLetter_34 : decode cX4_addLetter 34 = .ok (.isub, 1) := by decide +kernel
theorem dX4_addLetter_35 : decode cX4_addLetter 35 = .ok (.ireturn, 1) := by decide +kernel
theorem dX4_cellsOf_0 : decode cX4_cellsOf 0 = .ok (.aload_n 0, 1) := by decide +kernel
theorem dX4_cellsOf_1 : decode cX4_cellsOf 1 = .ok (.iload_n 1, 1) := by decide +kernel
theorem dX4_cellsOf_2 : decode cX4_cellsOf 2 = .ok (.invokevirtual 59, 3) := by decide +kernel
theorem dX4_cellsOf_5 : decode cX4_cellsOf 5 = .ok (.ifCond .eq 12, 3) := by decide +kernel
theorem dX4_cellsOf_8 : decode cX4_cellsOf 8 = .ok (.aload_n 0, 1) := by decide +kernel
theorem dX4_cellsOf_9 : decode cX4_cellsOf 9 = .ok (.getfield 9, 3) := by decide +kernel
theorem dX4_cellsOf_12 : decode cX4_cellsOf 12 = .ok (.iload_n 1, 1) := by decide +kernel
theorem dX4_cellsOf_13 : decode cX4_cellsOf 13 = .ok (.iaload, 1) := by decide +kernel
theorem dX4_cellsOf_14 : decode cX4_cellsOf 14 = .ok (.goto 4, 3) := by decide +kernel
theorem dX4_cellsOf_17 : decode cX4_cellsOf 17 = .ok (.iconst 0, 1) := by decide +kernel
theorem dX4_cellsOf_18 : decode cX4_cellsOf 18 = .ok (.ireturn, 1) := by decide +kernel
theorem dX4_paneAt_0 : decode cX4_paneAt 0 = .ok (.iload_n 1, 1) := by decide +kernel
theorem dX4_paneAt_1 : decode cX4_paneAt 1 = .ok (.ifCond .lt 29, 3) := by decide +kernel
theorem dX4_paneAt_4 : decode cX4_paneAt 4 = .ok (.iload_n 1, 1) := by decide +kernel
theorem dX4_paneAt_5 : decode cX4_paneAt 5 = .ok (.aload_n 0, 1) := by decide +kernel
theorem dX4_paneAt_6 : decode cX4_paneAt 6 = .ok (.getfield 26, 3) := by decide +kernel
theorem dX4_paneAt_9 : decode cX4_paneAt 9 = .ok (.if_icmp .ge 21, 3) := by decide +kernel
theorem dX4_paneAt_12 : decode cX4_paneAt 12 = .ok (.iload_n 1, 1) := by decide +kernel
theorem dX4_paneAt_13 : decode cX4_paneAt 13 = .ok (.aload_n 0, 1) := by decide +kernel
theorem dX4_paneAt_14 : decode cX4_paneAt 14 = .ok (.getfield 17, 3) := by decide +kernel
theorem dX4_paneAt_17 : decode cX4_paneAt 17 = .ok (.arraylength, 1) := by decide +kernel
theorem dX4_paneAt_18 : decode cX4_paneAt 18 = .ok (.if_icmp .ge 12, 3) := by decide +kernel
theorem dX4_paneAt_21 : decode cX4_paneAt 21 = .ok (.aload_n 0, 1) := by decide +kernel
theorem dX4_paneAt_22 : decode cX4_paneAt 22 = .ok (.getfield 17, 3) := by decide +kernel
theorem dX4_paneAt_25 : decode cX4_paneAt 25 = .ok (.iload_n 1, 1) := by decide +kernel
theorem dX4_paneAt_26 : decode cX4_paneAt 26 = .ok (.aaload, 1) := by decide +kernel
theorem dX4_paneAt_27 : decode cX4_paneAt 27 = .ok (.goto 4, 3) := by decide +kernel
theorem dX4_paneAt_30 : decode cX4_paneAt 30 = .ok (.aconst_null, 1) := by decide +kernel
theorem dX4_paneAt_31 : decode cX4_paneAt 31 = .ok (.areturn, 1) := by decide +kernel
theorem dX4_hasPaneRoom_0 : decode cX4_hasPaneRoom 0 = .ok (.aload_n 0, 1) := by decide +kernel
theorem dX4_hasPaneRoom_1 : decode cX4_hasPaneRoom 1 = .ok (.getfield 26, 3) := by decide +kernel
theorem dX4_hasPaneRoom_4 : decode cX4_hasPaneRoom 4 = .ok (.ifCond .lt 19, 3) := by decide +kernel
theorem dX4_hasPaneRoom_7 : decode cX4_hasPaneRoom 7 = .ok (.aload_n 0, 1) := by decide +kernel
theorem dX4_hasPaneRoom_8 : decode cX4_hasPaneRoom 8 = .ok (.getfield 26, 3) := by decide +kernel
theorem dX4_hasPaneRoom_11 : decode cX4_hasPaneRoom 11 = .ok (.aload_n 0, 1) := by decide +kernel
theorem dX4_hasPaneRoom_12 : decode cX4_hasPaneRoom 12 = .ok (.getfield 17, 3) := by decide +kernel
theorem dX4_hasPaneRoom_15 : decode cX4_hasPaneRoom 15 = .ok (.arraylength, 1) := by decide +kernel
theorem dX4_hasPaneRoom_16 : decode cX4_hasPaneRoom 16 = .ok (.if_icmp .ge 7, 3) := by decide +kernel
theorem dX4_hasPaneRoom_19 : decode cX4_hasPaneRoom 19 = .ok (.iconst 1, 1) := by decide +kernel
theorem dX4_hasPaneRoom_20 : decode cX4_hasPaneRoom 20 = .ok (.goto 4, 3) := by decide +kernel
theorem dX4_hasPaneRoom_23 : decode cX4_hasPaneRoom 23 = .ok (.iconst 0, 1) := by decide +kernel
theorem dX4_hasPaneRoom_24 : decode cX4_hasPaneRoom 24 = .ok (.ireturn, 1) := by decide +kernel
theorem dX4_addPane_0 : decode cX4_addPane 0 = .ok (.aload_n 0, 1) := by decide +kernel
theorem dX4_addPane_1 : decode cX4_addPane 1 = .ok (.dup, 1) := by decide +kernel
theorem dX4_addPane_2 : decode cX4_addPane 2 = .ok (.getfield 26, 3) := by decide +kernel
theorem dX4_addPane_5 : decode cX4_addPane 5 = .ok (.iconst 1, 1) := by decide +kernel
theorem dX4_addPane_6 : decode cX4_addPane 6 = .ok (.iadd, 1) := by decide +kernel
theorem dX4_addPane_7 : decode cX4_addPane 7 = .ok (.putfield 26, 3) := by decide +kernel
theorem dX4_addPane_10 : decode cX4_addPane 10 = .ok (.aload_n 0, 1) := by decide +kernel
theorem dX4_addPane_11 : decode cX4_addPane 11 = .ok (.aload_n 0, 1) := by decide +kernel
theorem dX4_addPane_12 : decode cX4_addPane 12 = .ok (.getfield 26, 3) := by decide +kernel
theorem dX4_addPane_15 : decode cX4_addPane 15 = .ok (.iconst 1, 1) := by decide +kernel
theorem dX4_addPane_16 : decode cX4_addPane 16 = .ok (.isub, 1) := by decide +kernel
theorem dX4_addPane_17 : decode cX4_addPane 17 = .ok (.invokevirtual 51, 3) := by decide +kernel
theorem dX4_addPane_20 : decode cX4_addPane 20 = .ok (.astore 4, 2) := by decide +kernel
theorem dX4_addPane_22 : decode cX4_addPane 22 = .ok (.aload 4, 2) := by decide +kernel
theorem dX4_addPane_24 : decode cX4_addPane 24 = .ok (.ifnonnull 15, 3) := by decide +kernel
theorem dX4_addPane_27 : decode cX4_addPane 27 = .ok (.aload_n 0, 1) := by decide +kernel
theorem dX4_addPane_28 : decode cX4_addPane 28 = .ok (.dup, 1) := by decide +kernel
theorem dX4_addPane_29 : decode cX4_addPane 29 = .ok (.getfield 26, 3) := by decide +kernel
theorem dX4_addPane_32 : decode cX4_addPane 32 = .ok (.iconst 1, 1) := by decide +kernel
theorem dX4_addPane_33 : decode cX4_addPane 33 = .ok (.isub, 1) := by decide +kernel
theorem dX4_addPane_34 : decode cX4_addPane 34 = .ok (.putfield 26, 3) := by decide +kernel
theorem dX4_addPane_37 : decode cX4_addPane 37 = .ok (.iconst (-1), 1) := by decide +kernel
theorem dX4_addPane_38 : decode cX4_addPane 38 = .ok (.ireturn, 1) := by decide +kernel
theorem dX4_addPane_39 : decode cX4_addPane 39 = .ok (.aload 4, 2) := by decide +kernel
theorem dX4_addPane_41 : decode cX4_addPane 41 = .ok (.iload_n 1, 1) := by decide +kernel
theorem dX4_addPane_42 : decode cX4_addPane 42 = .ok (.iload_n 2, 1) := by decide +kernel
theorem dX4_addPane_43 : decode cX4_addPane 43 = .ok (.iload_n 3, 1) := by decide +kernel
theorem dX4_addPane_44 : decode cX4_addPane 44 = .ok (.invokevirtual 67, 3) := by decide +kernel
theorem dX4_addPane_47 : decode cX4_addPane 47 = .ok (.aload_n 0, 1) := by decide +kernel
theorem dX4_addPane_48 : decode cX4_addPane 48 = .ok (.getfield 26, 3) := by decide +kernel
theorem dX4_addPane_51 : decode cX4_addPane 51 = .ok (.iconst 1, 1) := by decide +kernel
theorem dX4_addPane_52 : decode cX4_addPane 52 = .ok (.isub, 1) := by decide +kernel
theorem dX4_addPane_53 : decode cX4_addPane 53 = .ok (.ireturn, 1) := by decide +kernel
theorem dX4_mostOf_0 : decode cX4_mostOf 0 = .ok (.iload_n 0, 1) := by decide +kernel
theorem dX4_mostOf_1 : decode cX4_mostOf 1 = .ok (.tableswitch 36 0 2 #[27, 30, 33], 27) := by decide +kernel
theorem dX4_mostOf_28 : decode cX4_mostOf 28 = .ok (.bipush 40, 2) := by decide +kernel
theorem dX4_mostOf_30 : decode cX4_mostOf 30 = .ok (.ireturn, 1) := by decide +kernel
theorem dX4_mostOf_31 : decode cX4_mostOf 31 = .ok (.bipush 9, 2) := by decide +kernel
theorem dX4_mostOf_33 : decode cX4_mostOf 33 = .ok (.ireturn, 1) := by decide +kernel
theorem dX4_mostOf_34 : decode cX4_mostOf 34 = .ok (.bipush 9, 2) := by decide +kernel
theorem dX4_mostOf_36 : decode cX4_mostOf 36 = .ok (.ireturn, 1) := by decide +kernel
theorem dX4_mostOf_37 : decode cX4_mostOf 37 = .ok (.iconst (-1), 1) := by decide +kernel
theorem dX4_mostOf_38 : decode cX4_mostOf 38 = .ok (.ireturn, 1) := by decide +kernel
theorem dX4_mayBecome_0 : decode cX4_mayBecome 0 = .ok (.iload_n 1, 1) := by decide +kernel
theorem dX4_mayBecome_1 : decode cX4_mayBecome 1 = .ok (.ifCond .lt 15, 3) := by decide +kernel
theorem dX4_mayBecome_4 : decode cX4_mayBecome 4 = .ok (.iload_n 1, 1) := by decide +kernel
theorem dX4_mayBecome_5 : decode cX4_mayBecome 5 = .ok (.iload_n 0, 1) := by decide +kernel
theorem dX4_mayBecome_6 : decode cX4_mayBecome 6 = .ok (.invokestatic 71, 3) := by decide +kernel
theorem dX4_mayBecome_9 : decode cX4_mayBecome 9 = .ok (.if_icmp .gt 7, 3) := by decide +kernel
theorem dX4_mayBecome_12 : decode cX4_mayBecome 12 = .ok (.iconst 1, 1) := by decide +kernel
theorem dX4_mayBecome_13 : decode cX4_mayBecome 13 = .ok (.goto 4, 3) := by decide +kernel
theorem dX4_mayBecome_16 : decode cX4_mayBecome 16 = .ok (.iconst 0, 1) := by decide +kernel
theorem dX4_mayBecome_17 : decode cX4_mayBecome 17 = .ok (.ireturn, 1) := by decide +kernel
theorem dX4_changeWeather_0 : decode cX4_changeWeather 0 = .ok (.iload_n 1, 1) := by decide +kernel
theorem dX4_changeWeather_1 : decode cX4_changeWeather 1 = .ok (.tableswitch 63 0 2 #[27, 39, 51], 27) := by decide +kernel
theorem dX4_changeWeather_28 : decode cX4_changeWeather 28 = .ok (.aload_n 0, 1) := by decide +kernel
theorem dX4_changeWeather_29 : decode cX4_changeWeather 29 = .ok (.getfield 29, 3) := by decide +kernel
theorem dX4_changeWeather_32 : decode cX4_changeWeather 32 = .ok (.istore_n 3, 1) := by decide +kernel
theorem dX4_changeWeather_33 : decode cX4_changeWeather 33 = .ok (.aload_n 0, 1) := by decide +kernel
theorem dX4_changeWeather_34 : decode cX4_changeWeather 34 = .ok (.iload_n 2, 1) := by decide +kernel
theorem dX4_changeWeather_35 : decode cX4_changeWeather 35 = .ok (.putfield 29, 3) := by decide +kernel
theorem dX4_changeWeather_38 : decode cX4_changeWeather 38 = .ok (.iload_n 3, 1) := by decide +kernel
theorem dX4_changeWeather_39 : decode cX4_changeWeather 39 = .ok (.ireturn, 1) := by decide +kernel
theorem dX4_changeWeather_40 : decode cX4_changeWeather 40 = .ok (.aload_n 0, 1) := by decide +kernel
theorem dX4_changeWeather_41 : decode cX4_changeWeather 41 = .ok (.getfield 32, 3) := by decide +kernel
theorem dX4_changeWeather_44 : decode cX4_changeWeather 44 = .ok (.istore_n 3, 1) := by decide +kernel
theorem dX4_changeWeather_45 : decode cX4_changeWeather 45 = .ok (.aload_n 0, 1) := by decide +kernel
theorem dX4_changeWeather_46 : decode cX4_changeWeather 46 = .ok (.iload_n 2, 1) := by decide +kernel
theorem dX4_changeWeather_47 : decode cX4_changeWeather 47 = .ok (.putfield 32, 3) := by decide +kernel
theorem dX4_changeWeather_50 : decode cX4_changeWeather 50 = .ok (.iload_n 3, 1) := by decide +kernel
theorem dX4_changeWeather_51 : decode cX4_changeWeather 51 = .ok (.ireturn, 1) := by decide +kernel
theorem dX4_changeWeather_52 : decode cX4_changeWeather 52 = .ok (.aload_n 0, 1) := by decide +kernel
theorem dX4_changeWeather_53 : decode cX4_changeWeather 53 = .ok (.getfield 35, 3) := by decide +kernel
theorem dX4_changeWeather_56 : decode cX4_changeWeather 56 = .ok (.istore_n 3, 1) := by decide +kernel
theorem dX4_changeWeather_57 : decode cX4_changeWeather 57 = .ok (.aload_n 0, 1) := by decide +kernel
theorem dX4_changeWeather_58 : decode cX4_changeWeather 58 = .ok (.iload_n 2, 1) := by decide +kernel
theorem dX4_changeWeather_59 : decode cX4_changeWeather 59 = .ok (.putfield 35, 3) := by decide +kernel
theorem dX4_changeWeather_62 : decode cX4_changeWeather 62 = .ok (.iload_n 3, 1) := by decide +kernel
theorem dX4_changeWeather_63 : decode cX4_changeWeather 63 = .ok (.ireturn, 1) := by decide +kernel
theorem dX4_changeWeather_64 : decode cX4_changeWeather 64 = .ok (.iconst (-1), 1) := by decide +kernel
theorem dX4_changeWeather_65 : decode cX4_changeWeather 65 = .ok (.ireturn, 1) := by decide +kernel
theorem dX4_readingOf_0 : decode cX4_readingOf 0 = .ok (.iconst (-1), 1) := by decide +kernel
theorem dX4_readingOf_1 : decode cX4_readingOf 1 = .ok (.istore_n 2, 1) := by decide +kernel
theorem dX4_readingOf_2 : decode cX4_readingOf 2 = .ok (.iconst 5, 1) := by decide +kernel
theorem dX4_readingOf_3 : decode cX4_readingOf 3 = .ok (.istore_n 3, 1) := by decide +kernel
theorem dX4_readingOf_4 : decode cX4_readingOf 4 = .ok (.iconst 0, 1) := by decide +kernel
theorem dX4_readingOf_5 : decode cX4_readingOf 5 = .ok (.istore 4, 2) := by decide +kernel
theorem dX4_readingOf_7 : decode cX4_readingOf 7 = .ok (.iload 4, 2) := by decide +kernel
theorem dX4_readingOf_9 : decode cX4_readingOf 9 = .ok (.aload_n 0, 1) := by decide +kernel
theorem dX4_readingOf_10 : decode cX4_readingOf 10 = .ok (.getfield 22, 3) := by decide +kernel
theorem dX4_readingOf_13 : decode cX4_readingOf 13 = .ok (.if_icmp .ge 45, 3) := by decide +kernel
theorem dX4_readingOf_16 : decode cX4_readingOf 16 = .ok (.aload_n 0, 1) := by decide +kernel
theorem dX4_readingOf_17 : decode cX4_readingOf 17 = .ok (.iload 4, 2) := by decide +kernel
theorem dX4_readingOf_19 : decode cX4_readingOf 19 = .ok (.invokevirtual 47, 3) := by decide +kernel
theorem dX4_readingOf_22 : decode cX4_readingOf 22 = .ok (.iload_n 1, 1) := by decide +kernel
theorem dX4_readingOf_23 : decode cX4_readingOf 23 = .ok (.ixor, 1) := by decide +kernel
theorem dX4_readingOf_24 : decode cX4_readingOf 24 = .ok (.invokestatic 74, 3) := by decide +kernel
theorem dX4_readingOf_27 : decode cX4_readingOf 27 = .ok (.istore 5, 2) := by decide +kernel
theorem dX4_readingOf_29 : decode cX4_readingOf 29 = .ok (.iload 5, 2) := by decide +kernel
theorem dX4_readingOf_31 : decode cX4_readingOf 31 = .ok (.iload_n 3, 1) := by decide +kernel
theorem dX4_readingOf_32 : decode cX4_readingOf 32 = .ok (.if_icmp .ge 12, 3) := by decide +kernel
theorem dX4_readingOf_35 : decode cX4_readingOf 35 = .ok (.iload 5, 2) := by decide +kernel
theorem dX4_readingOf_37 : decode cX4_readingOf 37 = .ok (.istore_n 3, 1) := by decide +kernel
theorem dX4_readingOf_38 : decode cX4_readingOf 38 = .ok (.iload 4, 2) := by decide +kernel
theorem dX4_readingOf_40 : decode cX4_readingOf 40 = .ok (.istore_n 2, 1) := by decide +kernel
theorem dX4_readingOf_41 : decode cX4_readingOf 41 = .ok (.goto 11, 3) := by decide +kernel
theorem dX4_readingOf_44 : decode cX4_readingOf 44 = .ok (.iload 5, 2) := by decide +kernel
theorem dX4_readingOf_46 : decode cX4_readingOf 46 = .ok (.iload_n 3, 1) := by decide +kernel
theorem dX4_readingOf_47 : decode cX4_readingOf 47 = .ok (.if_icmp .ne 5, 3) := by decide +kernel
theorem dX4_readingOf_50 : decode cX4_readingOf 50 = .ok (.iconst (-1), 1) := by decide +kernel
theorem dX4_readingOf_51 : decode cX4_readingOf 51 = .ok (.istore_n 2, 1) := by decide +kernel
theorem dX4_readingOf_52 : decode cX4_readingOf 52 = .ok (.iinc 4 1, 3) := by decide +kernel
theorem dX4_readingOf_55 : decode cX4_readingOf 55 = .ok (.goto (-48), 3) := by decide +kernel
theorem dX4_readingOf_58 : decode cX4_readingOf 58 = .ok (.iload_n 2, 1) := by decide +kernel
theorem dX4_readingOf_59 : decode cX4_readingOf 59 = .ok (.ireturn, 1) := by decide +kernel
theorem dX4_cellsUnlike_0 : decode cX4_cellsUnlike 0 = .ok (.aload_n 0, 1) := by decide +kernel
theorem dX4_cellsUnlike_1 : decode cX4_cellsUnlike 1 = .ok (.iload_n 1, 1) := by decide +kernel
theorem dX4_cellsUnlike_2 : decode cX4_cellsUnlike 2 = .ok (.invokevirtual 47, 3) := by decide +kernel
theorem dX4_cellsUnlike_5 : decode cX4_cellsUnlike 5 = .ok (.aload_n 0, 1) := by decide +kernel
theorem dX4_cellsUnlike_6 : decode cX4_cellsUnlike 6 = .ok (.iload_n 2, 1) := by decide +kernel
theorem dX4_cellsUnlike_7 : decode cX4_cellsUnlike 7 = .ok (.invokevirtual 47, 3) := by decide +kernel
theorem dX4_cellsUnlike_10 : decode cX4_cellsUnlike 10 = .ok (.ixor, 1) := by decide +kernel
theorem dX4_cellsUnlike_11 : decode cX4_cellsUnlike 11 = .ok (.invokestatic 74, 3) := by decide +kernel
theorem dX4_cellsUnlike_14 : decode cX4_cellsUnlike 14 = .ok (.ireturn, 1) := by decide +kernel
theorem dX4_nearestPair_0 : decode cX4_nearestPair 0 = .ok (.iconst (-1), 1) := by decide +kernel
theorem dX4_nearestPair_1 : decode cX4_nearestPair 1 = .ok (.istore_n 1, 1) := by decide +kernel
theorem dX4_nearestPair_2 : decode cX4_nearestPair 2 = .ok (.bipush 17, 2) := by decide +kernel
theorem dX4_nearestPair_4 : decode cX4_nearestPair 4 = .ok (.istore_n 2, 1) := by decide +kernel
theorem dX4_nearestPair_5 : decode cX4_nearestPair 5 = .ok (.iconst 0, 1) := by decide +kernel
theorem dX4_nearestPair_6 : decode cX4_nearestPair 6 = .ok (.istore_n 3, 1) := by decide +kernel
theorem dX4_nearestPair_7 : decode cX4_nearestPair 7 = .ok (.iload_n 3, 1) := by decide +kernel
theorem dX4_nearestPair_8 : decode cX4_nearestPair 8 = .ok (.aload_n 0, 1) := by decide +kernel
theorem dX4_nearestPair_9 : decode cX4_nearestPair 9 = .ok (.getfield 22, 3) := by decide +kernel
theorem dX4_nearestPair_12 : decode cX4_nearestPair 12 = .ok (.if_icmp .ge 55, 3) := by decide +kernel
theorem dX4_nearestPair_15 : decode cX4_nearestPair 15 = .ok (.iload_n 3, 1) := by decide +kernel
theorem dX4_nearestPair_16 : decode cX4_nearestPair 16 = .ok (.iconst 1, 1) := by decide +kernel
theorem dX4_nearestPair_17 : decode cX4_nearestPair 17 = .ok (.iadd, 1) := by decide +kernel
theorem dX4_nearestPair_18 : decode cX4_nearestPair 18 = .ok (.istore 4, 2) := by decide +kernel
theorem dX4_nearestPair_20 : decode cX4_nearestPair 20 = .ok (.iload 4, 2) := by decide +kernel
theorem dX4_nearestPair_22 : decode cX4_nearestPair 22 = .ok (.aload_n 0, 1) := by decide +kernel
theorem dX4_nearestPair_23 : decode cX4_nearestPair 23 = .ok (.getfield 22, 3) := by decide +kernel
theorem dX4_nearestPair_26 : decode cX4_nearestPair 26 = .ok (.if_icmp .ge 35, 3) := by decide +kernel
theorem dX4_nearestPair_29 : decode cX4_nearestPair 29 = .ok (.aload_n 0, 1) := by decide +kernel
theorem dX4_nearestPair_30 : decode cX4_nearestPair 30 = .ok (.iload_n 3, 1) := by decide +kernel
theorem dX4_nearestPair_31 : decode cX4_nearestPair 31 = .ok (.iload 4, 2) := by decide +kernel
theorem dX4_nearestPair_33 : decode cX4_nearestPair 33 = .ok (.invokevirtual 79, 3) := by decide +kernel
theorem dX4_nearestPair_36 : decode cX4_nearestPair 36 = .ok (.istore 5, 2) := by decide +kernel
theorem dX4_nearestPair_38 : decode cX4_nearestPair 38 = .ok (.iload 5, 2) := by decide +kernel
theorem dX4_nearestPair_40 : decode cX4_nearestPair 40 = .ok (.iload_n 2, 1) := by decide +kernel
theorem dX4_nearestPair_41 : decode cX4_nearestPair 41 = .ok (.if_icmp .ge 14, 3) := by decide +kernel
theorem dX4_nearestPair_44 : decode cX4_nearestPair 44 = .ok (.iload 5, 2) := by decide +kernel
theorem dX4_nearestPair_46 : decode cX4_nearestPair 46 = .ok (.istore_n 2, 1) := by decide +kernel
theorem dX4_nearestPair_47 : decode cX4_nearestPair 47 = .ok (.bipush 10, 2) := by decide +kernel
theorem dX4_nearestPair_49 : decode cX4_nearestPair 49 = .ok (.iload_n 3, 1) := by decide +kernel
theorem dX4_nearestPair_50 : decode cX4_nearestPair 50 = .ok (.imul, 1) := by decide +kernel
theorem dX4_nearestPair_51 : decode cX4_nearestPair 51 = .ok (.iload 4, 2) := by decide +kernel
theorem dX4_nearestPair_53 : decode cX4_nearestPair 53 = .ok (.iadd, 1) := by decide +kernel
theorem dX4_nearestPair_54 : decode cX4_nearestPair 54 = .ok (.istore_n 1, 1) := by decide +kernel
theorem dX4_nearestPair_55 : decode cX4_nearestPair 55 = .ok (.iinc 4 1, 3) := by decide +kernel
theorem dX4_nearestPair_58 : decode cX4_nearestPair 58 = .ok (.goto (-38), 3) := by decide +kernel
theorem dX4_nearestPair_61 : decode cX4_nearestPair 61 = .ok (.iinc 3 1, 3) := by decide +kernel
theorem dX4_nearestPair_64 : decode cX4_nearestPair 64 = .ok (.goto (-57), 3) := by decide +kernel
theorem dX4_nearestPair_67 : decode cX4_nearestPair 67 = .ok (.iload_n 1, 1) := by decide +kernel
theorem dX4_nearestPair_68 : decode cX4_nearestPair 68 = .ok (.ireturn, 1) := by decide +kernel
theorem dX4_bestChange_0 : decode cX4_bestChange 0 = .ok (.iconst (-1), 1) := by decide +kernel
theorem dX4_bestChange_1 : decode cX4_bestChange 1 = .ok (.istore_n 2, 1) := by decide +kernel
theorem dX4_bestChange_2 : decode cX4_bestChange 2 = .ok (.iconst (-1), 1) := by decide +kernel
theorem dX4_bestChange_3 : decode cX4_bestChange 3 = .ok (.istore_n 3, 1) := by decide +kernel
theorem dX4_bestChange_4 : decode cX4_bestChange 4 = .ok (.iconst 0, 1) := by decide +kernel
theorem dX4_bestChange_5 : decode cX4_bestChange 5 = .ok (.istore 4, 2) := by decide +kernel
theorem dX4_bestChange_7 : decode cX4_bestChange 7 = .ok (.iload 4, 2) := by decide +kernel
theorem dX4_bestChange_9 : decode cX4_bestChange 9 = .ok (.bipush 16, 2) := by decide +kernel
theorem dX4_bestChange_11 : decode cX4_bestChange 11 = .ok (.if_icmp .ge 38, 3) := by decide +kernel
theorem dX4_bestChange_14 : decode cX4_bestChange 14 = .ok (.aload_n 0, 1) := by decide +kernel
theorem dX4_bestChange_15 : decode cX4_bestChange 15 = .ok (.aload_n 0, 1) := by decide +kernel
theorem dX4_bestChange_16 : decode cX4_bestChange 16 = .ok (.iload_n 1, 1) := by decide +kernel
theorem dX4_bestChange_17 : decode cX4_bestChange 17 = .ok (.invokevirtual 47, 3) := by decide +kernel
theorem dX4_bestChange_20 : decode cX4_bestChange 20 = .ok (.iconst 1, 1) := by decide +kernel
theorem dX4_bestChange_21 : decode cX4_bestChange 21 = .ok (.iload 4, 2) := by decide +kernel
theorem dX4_bestChange_23 : decode cX4_bestChange 23 = .ok (.ishl, 1) := by decide +kernel
theorem dX4_bestChange_24 : decode cX4_bestChange 24 = .ok (.ixor, 1) := by decide +kernel
theorem dX4_bestChange_25 : decode cX4_bestChange 25 = .ok (.iload_n 1, 1) := by decide +kernel
theorem dX4_bestChange_26 : decode cX4_bestChange 26 = .ok (.invokevirtual 83, 3) := by decide +kernel
theorem dX4_bestChange_29 : decode cX4_bestChange 29 = .ok (.istore 5, 2) := by decide +kernel
theorem dX4_bestChange_31 : decode cX4_bestChange 31 = .ok (.iload 5, 2) := by decide +kernel
theorem dX4_bestChange_33 : decode cX4_bestChange 33 = .ok (.iload_n 3, 1) := by decide +kernel
theorem dX4_bestChange_34 : decode cX4_bestChange 34 = .ok (.if_icmp .le 9, 3) := by decide +kernel
theorem dX4_bestChange_37 : decode cX4_bestChange 37 = .ok (.iload 5, 2) := by decide +kernel
theorem dX4_bestChange_39 : decode cX4_bestChange 39 = .ok (.istore_n 3, 1) := by decide +kernel
theorem dX4_bestChange_40 : decode cX4_bestChange 40 = .ok (.iload 4, 2) := by decide +kernel
theorem dX4_bestChange_42 : decode cX4_bestChange 42 = .ok (.istore_n 2, 1) := by decide +kernel
theorem dX4_bestChange_43 : decode cX4_bestChange 43 = .ok (.iinc 4 1, 3) := by decide +kernel
theorem dX4_bestChange_46 : decode cX4_bestChange 46 = .ok (.goto (-39), 3) := by decide +kernel
theorem dX4_bestChange_49 : decode cX4_bestChange 49 = .ok (.iload_n 2, 1) := by decide +kernel
theorem dX4_bestChange_50 : decode cX4_bestChange 50 = .ok (.ireturn, 1) := by decide +kernel
theorem dX4_fewestUnlike_0 : decode cX4_fewestUnlike 0 = .ok (.bipush 17, 2) := by decide +kernel
theorem dX4_fewestUnlike_2 : decode cX4_fewestUnlike 2 = .ok (.istore_n 3, 1) := by decide +kernel
theorem dX4_fewestUnlike_3 : decode cX4_fewestUnlike 3 = .ok (.iconst 0, 1) := by decide +kernel
theorem dX4_fewestUnlike_4 : decode cX4_fewestUnlike 4 = .ok (.istore 4, 2) := by decide +kernel
theorem dX4_fewestUnlike_6 : decode cX4_fewestUnlike 6 = .ok (.iload 4, 2) := by decide +kernel
theorem dX4_fewestUnlike_8 : decode cX4_fewestUnlike 8 = .ok (.aload_n 0, 1) := by decide +kernel
theorem dX4_fewestUnlike_9 : decode cX4_fewestUnlike 9 = .ok (.getfield 22, 3) := by decide +kernel
theorem dX4_fewestUnlike_12 : decode cX4_fewestUnlike 12 = .ok (.if_icmp .ge 31, 3) := by decide +kernel
theorem dX4_fewestUnlike_15 : decode cX4_fewestUnlike 15 = .ok (.iload 4, 2) := by decide +kernel
theorem dX4_fewestUnlike_17 : decode cX4_fewestUnlike 17 = .ok (.iload_n 2, 1) := by decide +kernel
theorem dX4_fewestUnlike_18 : decode cX4_fewestUnlike 18 = .ok (.if_icmp .eq 19, 3) := by decide +kernel
theorem dX4_fewestUnlike_21 : decode cX4_fewestUnlike 21 = .ok (.iload_n 3, 1) := by decide +kernel
theorem dX4_fewestUnlike_22 : decode cX4_fewestUnlike 22 = .ok (.aload_n 0, 1) := by decide +kernel
theorem dX4_fewestUnlike_23 : decode cX4_fewestUnlike 23 = .ok (.iload 4, 2) := by decide +kernel
theorem dX4_fewestUnlike_25 : decode cX4_fewestUnlike 25 = .ok (.invokevirtual 47, 3) := by decide +kernel
theorem dX4_fewestUnlike_28 : decode cX4_fewestUnlike 28 = .ok (.iload_n 1, 1) := by decide +kernel
theorem dX4_fewestUnlike_29 : decode cX4_fewestUnlike 29 = .ok (.ixor, 1) := by decide +kernel
theorem dX4_fewestUnlike_30 : decode cX4_fewestUnlike 30 = .ok (.invokestatic 74, 3) := by decide +kernel
theorem dX4_fewestUnlike_33 : decode cX4_fewestUnlike 33 = .ok (.invokestatic 86, 3) := by decide +kernel
theorem dX4_fewestUnlike_36 : decode cX4_fewestUnlike 36 = .ok (.istore_n 3, 1) := by decide +kernel
theorem dX4_fewestUnlike_37 : decode cX4_fewestUnlike 37 = .ok (.iinc 4 1, 3) := by decide +kernel
theorem dX4_fewestUnlike_40 : decode cX4_fewestUnlike 40 = .ok (.goto (-34), 3) := by decide +kernel
theorem dX4_fewestUnlike_43 : decode cX4_fewestUnlike 43 = .ok (.iload_n 3, 1) := by decide +kernel
theorem dX4_fewestUnlike_44 : decode cX4_fewestUnlike 44 = .ok (.ireturn, 1) := by decide +kernel
theorem dX4_passNight_0 : decode cX4_passNight 0 = .ok (.iconst 0, 1) := by decide +kernel
theorem dX4_passNight_1 : decode cX4_passNight 1 = .ok (.istore_n 1, 1) := by decide +kernel
theorem dX4_passNight_2 : decode cX4_passNight 2 = .ok (.iconst 0, 1) := by decide +kernel
theorem dX4_passNight_3 : decode cX4_passNight 3 = .ok (.istore_n 2, 1) := by decide +kernel
theorem dX4_passNight_4 : decode cX4_passNight 4 = .ok (.iload_n 2, 1) := by decide +kernel
theorem dX4_passNight_5 : decode cX4_passNight 5 = .ok (.aload_n 0, 1) := by decide +kernel
theorem dX4_passNight_6 : decode cX4_passNight 6 = .ok (.getfield 26, 3) := by decide +kernel
theorem dX4_passNight_9 : decode cX4_passNight 9 = .ok (.if_icmp .ge 65, 3) := by decide +kernel
theorem dX4_passNight_12 : decode cX4_passNight 12 = .ok (.aload_n 0, 1) := by decide +kernel
theorem dX4_passNight_13 : decode cX4_passNight 13 = .ok (.iload_n 2, 1) := by decide +kernel
theorem dX4_passNight_14 : decode cX4_passNight 14 = .ok (.invokevirtual 51, 3) := by decide +kernel
theorem dX4_passNight_17 : decode cX4_passNight 17 = .ok (.astore_n 3, 1) := by decide +kernel
theorem dX4_passNight_18 : decode cX4_passNight 18 = .ok (.aload_n 3, 1) := by decide +kernel
theorem dX4_passNight_19 : decode cX4_passNight 19 = .ok (.ifnull 49, 3) := by decide +kernel
theorem dX4_passNight_22 : decode cX4_passNight 22 = .ok (.aload_n 3, 1) := by decide +kernel
theorem dX4_passNight_23 : decode cX4_passNight 23 = .ok (.aload_n 0, 1) := by decide +kernel
theorem dX4_passNight_24 : decode cX4_passNight 24 = .ok (.aload_n 3, 1) := by decide +kernel
theorem dX4_passNight_25 : decode cX4_passNight 25 = .ok (.getfield 91, 3) := by decide +kernel
theorem dX4_passNight_28 : decode cX4_passNight 28 = .ok (.invokevirtual 47, 3) := by decide +kernel
theorem dX4_passNight_31 : decode cX4_passNight 31 = .ok (.aload_n 3, 1) := by decide +kernel
theorem dX4_passNight_32 : decode cX4_passNight 32 = .ok (.aload_n 0, 1) := by decide +kernel
theorem dX4_passNight_33 : decode cX4_passNight 33 = .ok (.getfield 29, 3) := by decide +kernel
theorem dX4_passNight_36 : decode cX4_passNight 36 = .ok (.aload_n 0, 1) := by decide +kernel
theorem dX4_passNight_37 : decode cX4_passNight 37 = .ok (.getfield 32, 3) := by decide +kernel
theorem dX4_passNight_40 : decode cX4_passNight 40 = .ok (.invokevirtual 94, 3) := by decide +kernel
theorem dX4_passNight_43 : decode cX4_passNight 43 = .ok (.aload_n 0, 1) := by decide +kernel
theorem dX4_passNight_44 : decode cX4_passNight 44 = .ok (.getfield 32, 3) := by decide +kernel
theorem dX4_passNight_47 : decode cX4_passNight 47 = .ok (.invokevirtual 97, 3) := by decide +kernel
theorem dX4_passNight_50 : decode cX4_passNight 50 = .ok (.iload_n 1, 1) := by decide +kernel
theorem dX4_passNight_51 : decode cX4_passNight 51 = .ok (.aload_n 0, 1) := by decide +kernel
theorem dX4_passNight_52 : decode cX4_passNight 52 = .ok (.aload_n 3, 1) := by decide +kernel
theorem dX4_passNight_53 : decode cX4_passNight 53 = .ok (.invokevirtual 100, 3) := by decide +kernel
theorem dX4_passNight_56 : decode cX4_passNight 56 = .ok (.ifCond .eq 9, 3) := by decide +kernel
theorem dX4_passNight_59 : decode cX4_passNight 59 = .ok (.iconst 1, 1) := by decide +kernel
theorem dX4_passNight_60 : decode cX4_passNight 60 = .ok (.iload_n 2, 1) := by decide +kernel
theorem dX4_passNight_61 : decode cX4_passNight 61 = .ok (.ishl, 1) := by decide +kernel
theorem dX4_passNight_62 : decode cX4_passNight 62 = .ok (.goto 4, 3) := by decide +kernel
theorem dX4_passNight_65 : decode cX4_passNight 65 = .ok (.iconst 0, 1) := by decide +kernel
theorem dX4_passNight_66 : decode cX4_passNight 66 = .ok (.ior, 1) := by decide +kernel
theorem dX4_passNight_67 : decode cX4_passNight 67 = .ok (.istore_n 1, 1) := by decide +kernel
theorem dX4_passNight_68 : decode cX4_passNight 68 = .ok (.iinc 2 1, 3) := by decide +kernel
theorem dX4_passNight_71 : decode cX4_passNight 71 = .ok (.goto (-67), 3) := by decide +kernel
theorem dX4_passNight_74 : decode cX4_passNight 74 = .ok (.aload_n 0, 1) := by decide +kernel
theorem dX4_passNight_75 : decode cX4_passNight 75 = .ok (.iconst 0, 1) := by decide +kernel
theorem dX4_passNight_76 : decode cX4_passNight 76 = .ok (.putfield 38, 3) := by decide +kernel
theorem dX4_passNight_79 : decode cX4_passNight 79 = .ok (.aload_n 0, 1) := by decide +kernel
theorem dX4_passNight_80 : decode cX4_passNight 80 = .ok (.dup, 1) := by decide +kernel
theorem dX4_passNight_81 : decode cX4_passNight 81 = .ok (.getfield 41, 3) := by decide +kernel
theorem dX4_passNight_84 : decode cX4_passNight 84 = .ok (.iload_n 1, 1) := by decide +kernel
theorem dX4_passNight_85 : decode cX4_passNight 85 = .ok (.ifCond .ne 7, 3) := by decide +kernel
theorem dX4_passNight_88 : decode cX4_passNight 88 = .ok (.iconst 0, 1) := by decide +kernel
theorem dX4_passNight_89 : decode cX4_passNight 89 = .ok (.goto 4, 3) := by decide +kernel
theorem dX4_passNight_92 : decode cX4_passNight 92 = .ok (.iconst 1, 1) := by decide +kernel
theorem dX4_passNight_93 : decode cX4_passNight 93 = .ok (.iadd, 1) := by decide +kernel
theorem dX4_passNight_94 : decode cX4_passNight 94 = .ok (.putfield 41, 3) := by decide +kernel
theorem dX4_passNight_97 : decode cX4_passNight 97 = .ok (.iload_n 1, 1) := by decide +kernel
theorem dX4_passNight_98 : decode cX4_passNight 98 = .ok (.ireturn, 1) := by decide +kernel
theorem dX4_isReadRight_0 : decode cX4_isReadRight 0 = .ok (.aload_n 1, 1) := by decide +kernel
theorem dX4_isReadRight_1 : decode cX4_isReadRight 1 = .ok (.getfield 91, 3) := by decide +kernel
theorem dX4_isReadRight_4 : decode cX4_isReadRight 4 = .ok (.iconst (-1), 1) := by decide +kernel
theorem dX4_isReadRight_5 : decode cX4_isReadRight 5 = .ok (.if_icmp .eq 22, 3) := by decide +kernel
theorem dX4_isReadRight_8 : decode cX4_isReadRight 8 = .ok (.aload_n 0, 1) := by decide +kernel
theorem dX4_isReadRight_9 : decode cX4_isReadRight 9 = .ok (.aload_n 1, 1) := by decide +kernel
theorem dX4_isReadRight_10 : decode cX4_isReadRight 10 = .ok (.invokevirtual 104, 3) := by decide +kernel
theorem dX4_isReadRight_13 : decode cX4_isReadRight 13 = .ok (.invokevirtual 108, 3) := by decide +kernel
theorem dX4_isReadRight_16 : decode cX4_isReadRight 16 = .ok (.aload_n 1, 1) := by decide +kernel
theorem dX4_isReadRight_17 : decode cX4_isReadRight 17 = .ok (.getfield 91, 3) := by decide +kernel
theorem dX4_isReadRight_20 : decode cX4_isReadRight 20 = .ok (.if_icmp .ne 7, 3) := by decide +kernel
theorem dX4_isReadRight_23 : decode cX4_isReadRight 23 = .ok (.iconst 1, 1) := by decide +kernel
theorem dX4_isReadRight_24 : decode cX4_isReadRight 24 = .ok (.goto 4, 3) := by decide +kernel
theorem dX4_isReadRight_27 : decode cX4_isReadRight 27 = .ok (.iconst 0, 1) := by decide +kernel
theorem dX4_isReadRight_28 : decode cX4_isReadRight 28 = .ok (.ireturn, 1) := by decide +kernel
theorem dX4_passHours_0 : decode cX4_passHours 0 = .ok (.iconst 0, 1) := by decide +kernel
theorem dX4_passHours_1 : decode cX4_passHours 1 = .ok (.istore_n 2, 1) := by decide +kernel
theorem dX4_passHours_2 : decode cX4_passHours 2 = .ok (.iload_n 2, 1) := by decide +kernel
theorem dX4_passHours_3 : decode cX4_passHours 3 = .ok (.aload_n 0, 1) := by decide +kernel
theorem dX4_passHours_4 : decode cX4_passHours 4 = .ok (.getfield 26, 3) := by decide +kernel
theorem dX4_passHours_7 : decode cX4_passHours 7 = .ok (.if_icmp .ge 37, 3) := by decide +kernel
theorem dX4_passHours_10 : decode cX4_passHours 10 = .ok (.aload_n 0, 1) := by decide +kernel
theorem dX4_passHours_11 : decode cX4_passHours 11 = .ok (.iload_n 2, 1) := by decide +kernel
theorem dX4_passHours_12 : decode cX4_passHours 12 = .ok (.invokevirtual 51, 3) := by decide +kernel
theorem dX4_passHours_15 : decode cX4_passHours 15 = .ok (.astore_n 3, 1) := by decide +kernel
theorem dX4_passHours_16 : decode cX4_passHours 16 = .ok (.aload_n 3, 1) := by decide +kernel
theorem dX4_passHours_17 : decode cX4_passHours 17 = .ok (.ifnull 21, 3) := by decide +kernel
theorem dX4_passHours_20 : decode cX4_passHours 20 = .ok (.aload_n 3, 1) := by decide +kernel
theorem dX4_passHours_21 : decode cX4_passHours 21 = .ok (.aload_n 0, 1) := by decide +kernel
theorem dX4_passHours_22 : decode cX4_passHours 22 = .ok (.getfield 38, 3) := by decide +kernel
theorem dX4_passHours_25 : decode cX4_passHours 25 = .ok (.aload_n 0, 1) := by decide +kernel
theorem dX4_passHours_26 : decode cX4_passHours 26 = .ok (.getfield 38, 3) := by decide +kernel
theorem dX4_passHours_29 : decode cX4_passHours 29 = .ok (.iload_n 1, 1) := by decide +kernel
theorem dX4_passHours_30 : decode cX4_passHours 30 = .ok (.iadd, 1) := by decide +kernel
theorem dX4_passHours_31 : decode cX4_passHours 31 = .ok (.aload_n 0, 1) := by decide +kernel
theorem dX4_passHours_32 : decode cX4_passHours 32 = .ok (.getfield 35, 3) := by decide +kernel
theorem dX4_passHours_35 : decode cX4_passHours 35 = .ok (.invokevirtual 111, 3) := by decide +kernel
theorem dX4_passHours_38 : decode cX4_passHours 38 = .ok (.iinc 2 1, 3) := by decide +kernel
theorem dX4_passHours_41 : decode cX4_passHours 41 = .ok (.goto (-39), 3) := by decide +kernel
theorem dX4_passHours_44 : decode cX4_passHours 44 = .ok (.aload_n 0, 1) := by decide +kernel
theorem dX4_passHours_45 : decode cX4_passHours 45 = .ok (.dup, 1) := by decide +kernel
theorem dX4_passHours_46 : decode cX4_passHours 46 = .ok (.getfield 38, 3) := by decide +kernel
theorem dX4_passHours_49 : decode cX4_passHours 49 = .ok (.iload_n 1, 1) := by decide +kernel
theorem dX4_passHours_50 : decode cX4_passHours 50 = .ok (.iadd, 1) := by decide +kernel
theorem dX4_passHours_51 : decode cX4_passHours 51 = .ok (.putfield 38, 3) := by decide +kernel
theorem dX4_passHours_54 : decode cX4_passHours 54 = .ok (.aload_n 0, 1) := by decide +kernel
theorem dX4_passHours_55 : decode cX4_passHours 55 = .ok (.getfield 38, 3) := by decide +kernel
theorem dX4_passHours_58 : decode cX4_passHours 58 = .ok (.ireturn, 1) := by decide +kernel
theorem dX4_passWinter_0 : decode cX4_passWinter 0 = .ok (.iconst 0, 1) := by decide +kernel
theorem dX4_passWinter_1 : decode cX4_passWinter 1 = .ok (.istore_n 2, 1) := by decide +kernel
theorem dX4_passWinter_2 : decode cX4_passWinter 2 = .ok (.iconst 0, 1) := by decide +kernel
theorem dX4_passWinter_3 : decode cX4_passWinter 3 = .ok (.istore_n 3, 1) := by decide +kernel
theorem dX4_passWinter_4 : decode cX4_passWinter 4 = .ok (.iload_n 3, 1) := by decide +kernel
theorem dX4_passWinter_5 : decode cX4_passWinter 5 = .ok (.iload_n 1, 1) := by decide +kernel
theorem dX4_passWinter_6 : decode cX4_passWinter 6 = .ok (.if_icmp .ge 44, 3) := by decide +kernel
theorem dX4_passWinter_9 : decode cX4_passWinter 9 = .ok (.aload_n 0, 1) := by decide +kernel
theorem dX4_passWinter_10 : decode cX4_passWinter 10 = .ok (.aload_n 0, 1) := by decide +kernel
theorem dX4_passWinter_11 : decode cX4_passWinter 11 = .ok (.bipush 41, 2) := by decide +kernel
theorem dX4_passWinter_13 : decode cX4_passWinter 13 = .ok (.invokevirtual 114, 3) := by decide +kernel
theorem dX4_passWinter_16 : decode cX4_passWinter 16 = .ok (.putfield 29, 3) := by decide +kernel
theorem dX4_passWinter_19 : decode cX4_passWinter 19 = .ok (.aload_n 0, 1) := by decide +kernel
theorem dX4_passWinter_20 : decode cX4_passWinter 20 = .ok (.aload_n 0, 1) := by decide +kernel
theorem dX4_passWinter_21 : decode cX4_passWinter 21 = .ok (.bipush 10, 2) := by decide +kernel
theorem dX4_passWinter_23 : decode cX4_passWinter 23 = .ok (.invokevirtual 114, 3) := by decide +kernel
theorem dX4_passWinter_26 : decode cX4_passWinter 26 = .ok (.putfield 32, 3) := by decide +kernel
theorem dX4_passWinter_29 : decode cX4_passWinter 29 = .ok (.iload_n 2, 1) := by decide +kernel
theorem dX4_passWinter_30 : decode cX4_passWinter 30 = .ok (.aload_n 0, 1) := by decide +kernel
theorem dX4_passWinter_31 : decode cX4_passWinter 31 = .ok (.invokevirtual 117, 3) := by decide +kernel
theorem dX4_passWinter_34 : decode cX4_passWinter 34 = .ok (.ifCond .ne 7, 3) := by decide +kernel
theorem dX4_passWinter_37 : decode cX4_passWinter 37 = .ok (.iconst 0, 1) := by decide +kernel
theorem dX4_passWinter_38 : decode cX4_passWinter 38 = .ok (.goto 4, 3) := by decide +kernel
theorem dX4_passWinter_41 : decode cX4_passWinter 41 = .ok (.iconst 1, 1) := by decide +kernel
theorem dX4_passWinter_42 : decode cX4_passWinter 42 = .ok (.iadd, 1) := by decide +kernel
theorem dX4_passWinter_43 : decode cX4_passWinter 43 = .ok (.istore_n 2, 1) := by decide +kernel
theorem dX4_passWinter_44 : decode cX4_passWinter 44 = .ok (.iinc 3 1, 3) := by decide +kernel
theorem dX4_passWinter_47 : decode cX4_passWinter 47 = .ok (.goto (-43), 3) := by decide +kernel
theorem dX4_passWinter_50 : decode cX4_passWinter 50 = .ok (.iload_n 2, 1) := by decide +kernel
theorem dX4_passWinter_51 : decode cX4_passWinter 51 = .ok (.ireturn, 1) := by decide +kernel
theorem dX4_drawBelow_0 : decode cX4_drawBelow 0 = .ok (.aload_n 0, 1) := by decide +kernel
theorem dX4_drawBelow_1 : decode cX4_drawBelow 1 = .ok (.aload_n 0, 1) := by decide +kernel
theorem dX4_drawBelow_2 : decode cX4_drawBelow 2 = .ok (.getfield 44, 3) := by decide +kernel
theorem dX4_drawBelow_5 : decode cX4_drawBelow 5 = .ok (.ldc 120, 2) := by decide +kernel
theorem dX4_drawBelow_7 : decode cX4_drawBelow 7 = .ok (.imul, 1) := by decide +kernel
theorem dX4_drawBelow_8 : decode cX4_drawBelow 8 = .ok (.sipush 12345, 3) := by decide +kernel
theorem dX4_drawBelow_11 : decode cX4_drawBelow 11 = .ok (.iadd, 1) := by decide +kernel
theorem dX4_drawBelow_12 : decode cX4_drawBelow 12 = .ok (.putfield 44, 3) := by decide +kernel
theorem dX4_drawBelow_15 : decode cX4_drawBelow 15 = .ok (.iload_n 1, 1) := by decide +kernel
theorem dX4_drawBelow_16 : decode cX4_drawBelow 16 = .ok (.ifCond .le 15, 3) := by decide +kernel
theorem dX4_drawBelow_19 : decode cX4_drawBelow 19 = .ok (.aload_n 0, 1) := by decide +kernel
theorem dX4_drawBelow_20 : decode cX4_drawBelow 20 = .ok (.getfield 44, 3) := by decide +kernel
theorem dX4_drawBelow_23 : decode cX4_drawBelow 23 = .ok (.bipush 16, 2) := by decide +kernel
theorem dX4_drawBelow_25 : decode cX4_drawBelow 25 = .ok (.iushr, 1) := by decide +kernel
theorem dX4_drawBelow_26 : decode cX4_drawBelow 26 = .ok (.iload_n 1, 1) := by decide +kernel
theorem dX4_drawBelow_27 : decode cX4_drawBelow 27 = .ok (.irem, 1) := by decide +kernel
theorem dX4_drawBelow_28 : decode cX4_drawBelow 28 = .ok (.goto 4, 3) := by decide +kernel
theorem dX4_drawBelow_31 : decode cX4_drawBelow 31 = .ok (.iconst 0, 1) := by decide +kernel
theorem dX4_drawBelow_32 : decode cX4_drawBelow 32 = .ok (.ireturn, 1) := by decide +kernel
theorem dX5_init_0 : decode cX5_init 0 = .ok (.aload_n 0, 1) := by decide +kernel
theorem dX5_init_1 : decode cX5_init 1 = .ok (.invokespecial 3, 3) := by decide +kernel
theorem dX5_init_4 : decode cX5_init 4 = .ok (.aload_n 0, 1) := by decide +kernel
theorem dX5_init_5 : decode cX5_init 5 = .ok (.aload_n 1, 1) := by decide +kernel
theorem dX5_init_6 : decode cX5_init 6 = .ok (.putfield 9, 3) := by decide +kernel
theorem dX5_init_9 : decode cX5_init 9 = .ok (.aload_n 0, 1) := by decide +kernel
theorem dX5_init_10 : decode cX5_init 10 = .ok (.new 15, 3) := by decide +kernel
theorem dX5_init_13 : decode cX5_init 13 = .ok (.dup, 1) := by decide +kernel
theorem dX5_init_14 : decode cX5_init 14 = .ok (.invokespecial 17, 3) := by decide +kernel
theorem dX5_init_17 : decode cX5_init 17 = .ok (.putfield 18, 3) := by decide +kernel
theorem dX5_init_20 : decode cX5_init 20 = .ok (.aload_n 0, 1) := by decide +kernel
theorem dX5_init_21 : decode cX5_init 21 = .ok (.bipush 25, 2) := by decide +kernel
theorem dX5_init_23 : decode cX5_init 23 = .ok (.newarray .int, 2) := by decide +kernel
theorem dX5_init_25 : decode cX5_init 25 = .ok (.putfield 22, 3) := by decide +kernel
theorem dX5_init_28 : decode cX5_init 28 = .ok (.aload_n 0, 1) := by decide +kernel
theorem dX5_init_29 : decode cX5_init 29 = .ok (.bipush 8, 2) := by decide +kernel
theorem dX5_init_31 : decode cX5_init 31 = .ok (.newarray .int, 2) := by decide +kernel
theorem dX5_init_33 : decode cX5_init 33 = .ok (.putfield 26, 3) := by decide +kernel
theorem dX5_init_36 : decode cX5_init 36 = .ok (.aload_n 0, 1) := by decide +kernel
theorem dX5_init_37 : decode cX5_init 37 = .ok (.bipush 8, 2) := by decide +kernel
theorem dX5_init_39 : decode cX5_init 39 = .ok (.newarray .int, 2) := by decide +kernel
theorem dX5_init_41 : decode cX5_init 41 = .ok (.putfield 29, 3) := by decide +kernel
theorem dX5_init_44 : decode cX5_init 44 = .ok (.aload_n 0, 1) := by decide +kernel
theorem dX5_init_45 : decode cX5_init 45 = .ok (.iconst 0, 1) := by decide +kernel
theorem dX5_init_46 : decode cX5_init 46 = .ok (.putfield 32, 3) := by decide +kernel
theorem dX5_init_49 : decode cX5_init 49 = .ok (.aload_n 0, 1) := by decide +kernel
theorem dX5_init_50 : decode cX5_init 50 = .ok (.iconst 0, 1) := by decide +kernel
theorem dX5_init_51 : decode cX5_init 51 = .ok (.putfield 36, 3) := by decide +kernel
theorem dX5_init_54 : decode cX5_init 54 = .ok (.return_, 1) := by decide +kernel
theorem dX5_iceAt_0 : decode cX5_iceAt 0 = .ok (.aload_n 0, 1) := by decide +kernel
theorem dX5_iceAt_1 : decode cX5_iceAt 1 = .ok (.aload_n 1, 1) := by decide +kernel
theorem dX5_iceAt_2 : decode cX5_iceAt 2 = .ok (.iload_n 2, 1) := by decide +kernel
theorem dX5_iceAt_3 : decode cX5_iceAt 3 = .ok (.iload_n 3, 1) := by decide +kernel
theorem dX5_iceAt_4 : decode cX5_iceAt 4 = .ok (.invokevirtual 39, 3) := by decide +kernel
theorem dX5_iceAt_7 : decode cX5_iceAt 7 = .ok (.pop, 1) := by decide +kernel
theorem dX5_iceAt_8 : decode cX5_iceAt 8 = .ok (.aload_n 0, 1) := by decide +kernel
theorem dX5_iceAt_9 : decode cX5_iceAt 9 = .ok (.getfield 18, 3) := by decide +kernel
theorem dX5_iceAt_12 : decode cX5_iceAt 12 = .ok (.iload 4, 2) := by decide +kernel
theorem dX5_iceAt_14 : decode cX5_iceAt 14 = .ok (.invokevirtual 43, 3) := by decide +kernel
theorem dX5_iceAt_17 : decode cX5_iceAt 17 = .ok (.ireturn, 1) := by decide +kernel
theorem dX5_shapeAt_0 : decode cX5_shapeAt 0 = .ok (.aload_n 0, 1) := by decide +kernel
theorem dX5_shapeAt_1 : decode cX5_shapeAt 1 = .ok (.getfield 18, 3) := by decide +kernel
theorem dX5_shapeAt_4 : decode cX5_shapeAt 4 = .ok (.aload_n 1, 1) := by decide +kernel
theorem dX5_shapeAt_5 : decode cX5_shapeAt 5 = .ok (.invokevirtual 47, 3) := by decide +kernel
theorem dX5_shapeAt_8 : decode cX5_shapeAt 8 = .ok (.aload_n 0, 1) := by decide +kernel
theorem dX5_shapeAt_9 : decode cX5_shapeAt 9 = .ok (.iload_n 2, 1) := by decide +kernel
theorem dX5_shapeAt_10 : decode cX5_shapeAt 10 = .ok (.iload_n 3, 1) := by decide +kernel
theorem dX5_shapeAt_11 : decode cX5_shapeAt 11 = .ok (.aload_n 0, 1) := by decide +kernel
theorem dX5_shapeAt_12 : decode cX5_shapeAt 12 = .ok (.getfield 9, 3) := by decide +kernel
theorem dX5_shapeAt_15 : decode cX5_shapeAt 15 = .ok (.getfield 51, 3) := by decide +kernel
theorem dX5_shapeAt_18 : decode cX5_shapeAt 18 = .ok (.invokevirtual 56, 3) := by decide +kernel
theorem dX5_shapeAt_21 : decode cX5_shapeAt 21 = .ok (.ireturn, 1) := by decide +kernel
theorem dX5_shapeOnGlass_0 : decode cX5_shapeOnGlass 0 = .ok (.aload_n 0, 1) := by decide +kernel
theorem dX5_shapeOnGlass_1 : decode cX5_shapeOnGlass 1 = .ok (.getfield 18, 3) := by decide +kernel
theorem dX5_shapeOnGlass_4 : decode cX5_shapeOnGlass 4 = .ok (.iload_n 3, 1) := by decide +kernel
theorem dX5_shapeOnGlass_5 : decode cX5_shapeOnGlass 5 = .ok (.aload_n 0, 1) := by decide +kernel
theorem dX5_shapeOnGlass_6 : decode cX5_shapeOnGlass 6 = .ok (.getfield 9, 3) := by decide +kernel
theorem dX5_shapeOnGlass_9 : decode cX5_shapeOnGlass 9 = .ok (.getfield 60, 3) := by decide +kernel
theorem dX5_shapeOnGlass_12 : decode cX5_shapeOnGlass 12 = .ok (.invokevirtual 63, 3) := by decide +kernel
theorem dX5_shapeOnGlass_15 : decode cX5_shapeOnGlass 15 = .ok (.istore 4, 2) := by decide +kernel
theorem dX5_shapeOnGlass_17 : decode cX5_shapeOnGlass 17 = .ok (.aload_n 0, 1) := by decide +kernel
theorem dX5_shapeOnGlass_18 : decode cX5_shapeOnGlass 18 = .ok (.getfield 18, 3) := by decide +kernel
theorem dX5_shapeOnGlass_21 : decode cX5_shapeOnGlass 21 = .ok (.aload_n 0, 1) := by decide +kernel
theorem dX5_shapeOnGlass_22 : decode cX5_shapeOnGlass 22 = .ok (.getfield 9, 3) := by decide +kernel
theorem dX5_shapeOnGlass_25 : decode cX5_shapeOnGlass 25 = .ok (.iload_n 1, 1) := by decide +kernel
theorem dX5_shapeOnGlass_26 : decode cX5_shapeOnGlass 26 = .ok (.invokevirtual 67, 3) := by decide +kernel
theorem dX5_shapeOnGlass_29 : decode cX5_shapeOnGlass 29 = .ok (.iload 4, 2) := by decide +kernel
theorem dX5_shapeOnGlass_31 : decode cX5_shapeOnGlass 31 = .ok (.aload_n 0, 1) := by decide +kernel
theorem dX5_shapeOnGlass_32 : decode cX5_shapeOnGlass 32 = .ok (.getfield 9, 3) := by decide +kernel
theorem dX5_shapeOnGlass_35 : decode cX5_shapeOnGlass 35 = .ok (.getfield 60, 3) := by decide +kernel
theorem dX5_shapeOnGlass_38 : decode cX5_shapeOnGlass 38 = .ok (.invokevirtual 70, 3) := by decide +kernel
theorem dX5_shapeOnGlass_41 : decode cX5_shapeOnGlass 41 = .ok (.aload_n 0, 1) := by decide +kernel
theorem dX5_shapeOnGlass_42 : decode cX5_shapeOnGlass 42 = .ok (.getfield 18, 3) := by decide +kernel
theorem dX5_shapeOnGlass_45 : decode cX5_shapeOnGlass 45 = .ok (.iconst 0, 1) := by decide +kernel
theorem dX5_shapeOnGlass_46 : decode cX5_shapeOnGlass 46 = .ok (.iload_n 2, 1) := by decide +kernel
theorem dX5_shapeOnGlass_47 : decode cX5_shapeOnGlass 47 = .ok (.aload_n 0, 1) := by decide +kernel
theorem dX5_shapeOnGlass_48 : decode cX5_shapeOnGlass 48 = .ok (.getfield 9, 3) := by decide +kernel
theorem dX5_shapeOnGlass_51 : decode cX5_shapeOnGlass 51 = .ok (.getfield 74, 3) := by decide +kernel
theorem dX5_shapeOnGlass_54 : decode cX5_shapeOnGlass 54 = .ok (.invokevirtual 77, 3) := by decide +kernel
theorem dX5_shapeOnGlass_57 : decode cX5_shapeOnGlass 57 = .ok (.aload_n 0, 1) := by decide +kernel
theorem dX5_shapeOnGlass_58 : decode cX5_shapeOnGlass 58 = .ok (.getfield 18, 3) := by decide +kernel
theorem dX5_shapeOnGlass_61 : decode cX5_shapeOnGlass 61 = .ok (.invokevirtual 80, 3) := by decide +kernel
theorem dX5_shapeOnGlass_64 : decode cX5_shapeOnGlass 64 = .ok (.ireturn, 1) := by decide +kernel
theorem dX5_readAllHours_0 : decode cX5_readAllHours 0 = .ok (.aload_n 0, 1) := by decide +kernel
theorem dX5_readAllHours_1 : decode cX5_readAllHours 1 = .ok (.getfield 18, 3) := by decide +kernel
theorem dX5_readAllHours_4 : decode cX5_readAllHours 4 = .ok (.aload_n 1, 1) := by decide +kernel
theorem dX5_readAllHours_5 : decode cX5_readAllHours 5 = .ok (.invokevirtual 47, 3) := by decide +kernel
theorem dX5_readAllHours_8 : decode cX5_readAllHours 8 = .ok (.aload_n 0, 1) := by decide +kernel
theorem dX5_readAllHours_9 : decode cX5_readAllHours 9 = .ok (.getfield 18, 3) := by decide +kernel
theorem dX5_readAllHours_12 : decode cX5_readAllHours 12 = .ok (.aload_n 0, 1) := by decide +kernel
theorem dX5_readAllHours_13 : decode cX5_readAllHours 13 = .ok (.getfield 9, 3) := by decide +kernel
theorem dX5_readAllHours_16 : decode cX5_readAllHours 16 = .ok (.getfield 51, 3) := by decide +kernel
theorem dX5_readAllHours_19 : decode cX5_readAllHours 19 = .ok (.aload_n 0, 1) := by decide +kernel
theorem dX5_readAllHours_20 : decode cX5_readAllHours 20 = .ok (.getfield 9, 3) := by decide +kernel
theorem dX5_readAllHours_23 : decode cX5_readAllHours 23 = .ok (.getfield 60, 3) := by decide +kernel
theorem dX5_readAllHours_26 : decode cX5_readAllHours 26 = .ok (.invokevirtual 63, 3) := by decide +kernel
theorem dX5_readAllHours_29 : decode cX5_readAllHours 29 = .ok (.istore_n 3, 1) := by decide +kernel
theorem dX5_readAllHours_30 : decode cX5_readAllHours 30 = .ok (.aload_n 0, 1) := by decide +kernel
theorem dX5_readAllHours_31 : decode cX5_readAllHours 31 = .ok (.getfield 18, 3) := by decide +kernel
theorem dX5_readAllHours_34 : decode cX5_readAllHours 34 = .ok (.aload_n 0, 1) := by decide +kernel
theorem dX5_readAllHours_35 : decode cX5_readAllHours 35 = .ok (.getfield 9, 3) := by decide +kernel
theorem dX5_readAllHours_38 : decode cX5_readAllHours 38 = .ok (.iload_n 2, 1) := by decide +kernel
theorem dX5_readAllHours_39 : decode cX5_readAllHours 39 = .ok (.invokevirtual 67, 3) := by decide +kernel
theorem dX5_readAllHours_42 : decode cX5_readAllHours 42 = .ok (.iload_n 3, 1) := by decide +kernel
theorem dX5_readAllHours_43 : decode cX5_readAllHours 43 = .ok (.aload_n 0, 1) := by decide +kernel
theorem dX5_readAllHours_44 : decode cX5_readAllHours 44 = .ok (.getfield 9, 3) := by decide +kernel
theorem dX5_readAllHours_47 : decode cX5_readAllHours 47 = .ok (.getfield 60, 3) := by decide +kernel
theorem dX5_readAllHours_50 : decode cX5_readAllHours 50 = .ok (.invokevirtual 70, 3) := by decide +kernel
theorem dX5_readAllHours_53 : decode cX5_readAllHours 53 = .ok (.iconst 0, 1) := by decide +kernel
theorem dX5_readAllHours_54 : decode cX5_readAllHours 54 = .ok (.istore 4, 2) := by decide +kernel
theorem dX5_readAllHours_56 : decode cX5_readAllHours 56 = .ok (.iload 4, 2) := by decide +kernel
theorem dX5_readAllHours_58 : decode cX5_readAllHours 58 = .ok (.aload_n 0, 1) := by decide +kernel
theorem dX5_readAllHours_59 : decode cX5_readAllHours 59 = .ok (.getfield 22, 3) := by decide +kernel
theorem dX5_readAllHours_62 : decode cX5_readAllHours 62 = .ok (.arraylength, 1) := by decide +kernel
theorem dX5_readAllHours_63 : decode cX5_readAllHours 63 = .ok (.if_icmp .ge 53, 3) := by decide +kernel
theorem dX5_readAllHours_66 : decode cX5_readAllHours 66 = .ok (.aload_n 0, 1) := by decide +kernel
theorem dX5_readAllHours_67 : decode cX5_readAllHours 67 = .ok (.getfield 22, 3) := by decide +kernel
theorem dX5_readAllHours_70 : decode cX5_readAllHours 70 = .ok (.iload 4, 2) := by decide +kernel
theorem dX5_readAllHours_72 : decode cX5_readAllHours 72 = .ok (.aload_n 0, 1) := by decide +kernel
theorem dX5_readAllHours_73 : decode cX5_readAllHours 73 = .ok (.getfield 9, 3) := by decide +kernel
theorem dX5_readAllHours_76 : decode cX5_readAllHours 76 = .ok (.aload_n 0, 1) := by decide +kernel
theorem dX5_readAllHours_77 : decode cX5_readAllHours 77 = .ok (.getfield 18, 3) := by decide +kernel
theorem dX5_readAllHours_80 : decode cX5_readAllHours 80 = .ok (.invokevirtual 80, 3) := by decide +kernel
theorem dX5_readAllHours_83 : decode cX5_readAllHours 83 = .ok (.invokevirtual 84, 3) := by decide +kernel
theorem dX5_readAllHours_86 : decode cX5_readAllHours 86 = .ok (.iastore, 1) := by decide +kernel
theorem dX5_readAllHours_87 : decode cX5_readAllHours 87 = .ok (.aload_n 0, 1) := by decide +kernel
theorem dX5_readAllHours_88 : decode cX5_readAllHours 88 = .ok (.getfield 18, 3) := by decide +kernel
theorem dX5_readAllHours_91 : decode cX5_readAllHours 91 = .ok (.aload_n 0, 1) := by decide +kernel
theorem dX5_readAllHours_92 : decode cX5_readAllHours 92 = .ok (.getfield 18, 3) := by decide +kernel
theorem dX5_readAllHours_95 : decode cX5_readAllHours 95 = .ok (.iload 4, 2) := by decide +kernel
theorem dX5_readAllHours_97 : decode cX5_readAllHours 97 = .ok (.aload_n 0, 1) := by decide +kernel
theorem dX5_readAllHours_98 : decode cX5_readAllHours 98 = .ok (.getfield 9, 3) := by decide +kernel
theorem dX5_readAllHours_101 : decode cX5_readAllHours 101 = .ok (.getfield 74, 3) := by decide +kernel
theorem dX5_readAllHours_104 : decode cX5_readAllHours 104 = .ok (.invokevirtual 87, 3) := by decide +kernel
theorem dX5_readAllHours_107 : decode cX5_readAllHours 107 = .ok (.invokevirtual 90, 3) := by decide +kernel
theorem dX5_readAllHours_110 : decode cX5_readAllHours 110 = .ok (.iinc 4 1, 3) := by decide +kernel
theorem dX5_readAllHours_113 : decode cX5_readAllHours 113 = .ok (.goto (-57), 3) := by decide +kernel
theorem dX5_readAllHours_116 : decode cX5_readAllHours 116 = .ok (.return_, 1) := by decide +kernel
theorem dX5_lastHour_0 : decode cX5_lastHour 0 = .ok (.aload_n 0, 1) := by decide +kernel
theorem dX5_lastHour_1 : decode cX5_lastHour 1 = .ok (.aload_n 1, 1) := by decide +kernel
theorem dX5_lastHour_2 : decode cX5_lastHour 2 = .ok (.iload_n 2, 1) := by decide +kernel
theorem dX5_lastHour_3 : decode cX5_lastHour 3 = .ok (.invokevirtual 94, 3) := by decide +kernel
theorem dX5_lastHour_6 : decode cX5_lastHour 6 = .ok (.iconst (-1), 1) := by decide +kernel
theorem dX5_lastHour_7 : decode cX5_lastHour 7 = .ok (.istore_n 3, 1) := by decide +kernel
theorem dX5_lastHour_8 : decode cX5_lastHour 8 = .ok (.iconst 0, 1) := by decide +kernel
theorem dX5_lastHour_9 : decode cX5_lastHour 9 = .ok (.istore 4, 2) := by decide +kernel
theorem dX5_lastHour_11 : decode cX5_lastHour 11 = .ok (.iload 4, 2) := by decide +kernel
theorem dX5_lastHour_13 : decode cX5_lastHour 13 = .ok (.aload_n 0, 1) := by decide +kernel
theorem dX5_lastHour_14 : decode cX5_lastHour 14 = .ok (.getfield 22, 3) := by decide +kernel
theorem dX5_lastHour_17 : decode cX5_lastHour 17 = .ok (.arraylength, 1) := by decide +kernel
theorem dX5_lastHour_18 : decode cX5_lastHour 18 = .ok (.if_icmp .ge 23, 3) := by decide +kernel
theorem dX5_lastHour_21 : decode cX5_lastHour 21 = .ok (.aload_n 0, 1) := by decide +kernel
theorem dX5_lastHour_22 : decode cX5_lastHour 22 = .ok (.getfield 22, 3) := by decide +kernel
theorem dX5_lastHour_25 : decode cX5_lastHour 25 = .ok (.iload 4, 2) := by decide +kernel
theorem dX5_lastHour_27 : decode cX5_lastHour 27 = .ok (.iaload, 1) := by decide +kernel
theorem dX5_lastHour_28 : decode cX5_lastHour 28 = .ok (.iload_n 2, 1) := by decide +kernel
theorem dX5_lastHour_29 : decode cX5_lastHour 29 = .ok (.if_icmp .ne 12, 3) := by decide +kernel
theorem dX5_lastHour_32 : decode cX5_lastHour 32 = .ok (.iload 4, 2) := by decide +kernel
theorem dX5_lastHour_34 : decode cX5_lastHour 34 = .ok (.istore_n 3, 1) := by decide +kernel
theorem dX5_lastHour_35 : decode cX5_lastHour 35 = .ok (.iinc 4 1, 3) := by decide +kernel
theorem dX5_lastHour_38 : decode cX5_lastHour 38 = .ok (.goto (-27), 3) := by decide +kernel
theorem dX5_lastHour_41 : decode cX5_lastHour 41 = .ok (.iload_n 3, 1) := by decide +kernel
theorem dX5_lastHour_42 : decode cX5_lastHour 42 = .ok (.ireturn, 1) := by decide +kernel
theorem dX5_firstHourAs_0 : decode cX5_firstHourAs 0 = .ok (.aload_n 0, 1) := by decide +kernel
theorem dX5_firstHourAs_1 : decode cX5_firstHourAs 1 = .ok (.aload_n 1, 1) := by decide +kernel
theorem dX5_firstHourAs_2 : decode cX5_firstHourAs 2 = .ok (.iload_n 2, 1) := by decide +kernel
theorem dX5_firstHourAs_3 : decode cX5_firstHourAs 3 = .ok (.invokevirtual 94, 3) := by decide +kernel
theorem dX5_firstHourAs_6 : decode cX5_firstHourAs 6 = .ok (.iconst 0, 1) := by decide +kernel
theorem dX5_firstHourAs_7 : decode cX5_firstHourAs 7 = .ok (.istore 4, 2) := by decide +kernel
theorem dX5_firstHourAs_9 : decode cX5_firstHourAs 9 = .ok (.iload 4, 2) := by decide +kernel
theorem dX5_firstHourAs_11 : decode cX5_firstHourAs 11 = .ok (.aload_n 0, 1) := by decide +kernel
theorem dX5_firstHourAs_12 : decode cX5_firstHourAs 12 = .ok (.getfield 22, 3) := by decide +kernel
theorem dX5_firstHourAs_15 : decode cX5_firstHourAs 15 = .ok (.arraylength, 1) := by decide +kernel
theorem dX5_firstHourAs_16 : decode cX5_firstHourAs 16 = .ok (.if_icmp .ge 23, 3) := by decide +kernel
theorem dX5_firstHourAs_19 : decode cX5_firstHourAs 19 = .ok (.aload_n 0, 1) := by decide +kernel
theorem dX5_firstHourAs_20 : decode cX5_firstHourAs 20 = .ok (.getfield 22, 3) := by decide +kernel
theorem dX5_firstHourAs_23 : decode cX5_firstHourAs 23 = .ok (.iload 4, 2) := by decide +kernel
theorem dX5_firstHourAs_25 : decode cX5_firstHourAs 25 = .ok (.iaload, 1) := by decide +kernel
theorem dX5_firstHourAs_26 : decode cX5_firstHourAs 26 = .ok (.iload_n 3, 1) := by decide +kernel
theorem dX5_firstHourAs_27 : decode cX5_firstHourAs 27 = .ok (.if_icmp .ne 6, 3) := by decide +kernel
theorem dX5_firstHourAs_30 : decode cX5_firstHourAs 30 = .ok (.iload 4, 2) := by decide +kernel
theorem dX5_firstHourAs_32 : decode cX5_firstHourAs 32 = .ok (.ireturn, 1) := by decide +kernel
theorem dX5_firstHourAs_33 : decode cX5_firstHourAs 33 = .ok (.iinc 4 1, 3) := by decide +kernel
theorem dX5_firstHourAs_36 : decode cX5_firstHourAs 36 = .ok (.goto (-27), 3) := by decide +kernel
theorem dX5_firstHourAs_39 : decode cX5_firstHourAs 39 = .ok (.iconst (-1), 1) := by decide +kernel
theorem dX5_firstHourAs_40 : decode cX5_firstHourAs 40 = .ok (.ireturn, 1) := by decide +kernel
theorem dX5_othersReadFor_0 : decode cX5_othersReadFor 0 = .ok (.iconst 0, 1) := by decide +kernel
theorem dX5_othersReadFor_1 : decode cX5_othersReadFor 1 = .ok (.istore_n 2, 1) := by decide +kernel
theorem dX5_othersReadFor_2 : decode cX5_othersReadFor 2 = .ok (.iconst 0, 1) := by decide +kernel
theorem dX5_othersReadFor_3 : decode cX5_othersReadFor 3 = .ok (.istore_n 3, 1) := by decide +kernel
theorem dX5_othersReadFor_4 : decode cX5_othersReadFor 4 = .ok (.iload_n 3, 1) := by decide +kernel
theorem dX5_othersReadFor_5 : decode cX5_othersReadFor 5 = .ok (.aload_n 0, 1) := by decide +kernel
theorem dX5_othersReadFor_6 : decode cX5_othersReadFor 6 = .ok (.getfield 9, 3) := by decide +kernel
theorem dX5_othersReadFor_9 : decode cX5_othersReadFor 9 = .ok (.getfield 98, 3) := by decide +kernel
theorem dX5_othersReadFor_12 : decode cX5_othersReadFor 12 = .ok (.if_icmp .ge 38, 3) := by decide +kernel
theorem dX5_othersReadFor_15 : decode cX5_othersReadFor 15 = .ok (.aload_n 0, 1) := by decide +kernel
theorem dX5_othersReadFor_16 : decode cX5_othersReadFor 16 = .ok (.getfield 9, 3) := by decide +kernel
theorem dX5_othersReadFor_19 : decode cX5_othersReadFor 19 = .ok (.iload_n 3, 1) := by decide +kernel
theorem dX5_othersReadFor_20 : decode cX5_othersReadFor 20 = .ok (.invokevirtual 101, 3) := by decide +kernel
theorem dX5_othersReadFor_23 : decode cX5_othersReadFor 23 = .ok (.astore 4, 2) := by decide +kernel
theorem dX5_othersReadFor_25 : decode cX5_othersReadFor 25 = .ok (.aload 4, 2) := by decide +kernel
theorem dX5_othersReadFor_27 : decode cX5_othersReadFor 27 = .ok (.ifnull 17, 3) := by decide +kernel
theorem dX5_othersReadFor_30 : decode cX5_othersReadFor 30 = .ok (.aload_n 0, 1) := by decide +kernel
theorem dX5_othersReadFor_31 : decode cX5_othersReadFor 31 = .ok (.aload 4, 2) := by decide +kernel
theorem dX5_othersReadFor_33 : decode cX5_othersReadFor 33 = .ok (.iload_n 1, 1) := by decide +kernel
theorem dX5_othersReadFor_34 : decode cX5_othersReadFor 34 = .ok (.invokevirtual 94, 3) := by decide +kernel
theorem dX5_othersReadFor_37 : decode cX5_othersReadFor 37 = .ok (.iload_n 2, 1) := by decide +kernel
theorem dX5_othersReadFor_38 : decode cX5_othersReadFor 38 = .ok (.aload_n 0, 1) := by decide +kernel
theorem dX5_othersReadFor_39 : decode cX5_othersReadFor 39 = .ok (.invokevirtual 105, 3) := by decide +kernel
theorem dX5_othersReadFor_42 : decode cX5_othersReadFor 42 = .ok (.ior, 1) := by decide +kernel
theorem dX5_othersReadFor_43 : decode cX5_othersReadFor 43 = .ok (.istore_n 2, 1) := by decide +kernel
theorem dX5_othersReadFor_44 : decode cX5_othersReadFor 44 = .ok (.iinc 3 1, 3) := by decide +kernel
theorem dX5_othersReadFor_47 : decode cX5_othersReadFor 47 = .ok (.goto (-43), 3) := by decide +kernel
theorem dX5_othersReadFor_50 : decode cX5_othersReadFor 50 = .ok (.iload_n 2, 1) := by decide +kernel
theorem dX5_othersReadFor_51 : decode cX5_othersReadFor 51 = .ok (.iconst 1, 1) := by decide +kernel
theorem dX5_othersReadFor_52 : decode cX5_othersReadFor 52 = .ok (.iload_n 1, 1) := by decide +kernel
theorem dX5_othersReadFor_53 : decode cX5_othersReadFor 53 = .ok (.ishl, 1) := by decide +kernel
theorem dX5_othersReadFor_54 : decode cX5_othersReadFor 54 = .ok (.iconst (-1), 1) := by decide +kernel
theorem dX5_othersReadFor_55 : decode cX5_othersReadFor 55 = .ok (.ixor, 1) := by decide +kernel
theorem dX5_othersReadFor_56 : decode cX5_othersReadFor 56 = .ok (.iand, 1) := by decide +kernel
theorem dX5_othersReadFor_57 : decode cX5_othersReadFor 57 = .ok (.ireturn, 1) := by decide +kernel
theorem dX5_lettersAmongReadings_0 : decode cX5_lettersAmongReadings 0 = .ok (.iconst 0, 1) := by decide +kernel
theorem dX5_lettersAmongReadings_1 : decode cX5_lettersAmongReadings 1 = .ok (.istore_n 1, 1) := by decide +kernel
theorem dX5_lettersAmongReadings_2 : decode cX5_lettersAmongReadings 2 = .ok (.iconst 0, 1) := by decide +kernel
theorem dX5_lettersAmongReadings_3 : decode cX5_lettersAmongReadings 3 = .ok (.istore_n 2, 1) := by decide +kernel
theorem dX5_lettersAmongReadings_4 : decode cX5_lettersAmongReadings 4 = .ok (.iload_n 2, 1) := by decide +kernel
theorem dX5_lettersAmongReadings_5 : decode cX5_lettersAmongReadings 5 = .ok (.aload_n 0, 1) := by decide +kernel
theorem dX5_lettersAmongReadings_6 : decode cX5_lettersAmongReadings 6 = .ok (.getfield 22, 3) := by decide +kernel
theorem dX5_lettersAmongReadings_9 : decode cX5_lettersAmongReadings 9 = .ok (.arraylength, 1) := by decide +kernel
theorem dX5_lettersAmongReadings_10 : decode cX5_lettersAmongReadings 10 = .ok (.if_icmp .ge 29, 3) := by decide +kernel
theorem dX5_lettersAmongReadings_13 : decode cX5_lettersAmongReadings 13 = .ok (.aload_n 0, 1) := by decide +kernel
theorem dX5_lettersAmongReadings_14 : decode cX5_lettersAmongReadings 14 = .ok (.getfield 22, 3) := by decide +kernel
theorem dX5_lettersAmongReadings_17 : decode cX5_lettersAmongReadings 17 = .ok (.iload_n 2, 1) := by decide +kernel
theorem dX5_lettersAmongReadings_18 : decode cX5_lettersAmongReadings 18 = .ok (.iaload, 1) := by decide +kernel
theorem dX5_lettersAmongReadings_19 : decode cX5_lettersAmongReadings 19 = .ok (.ifCond .lt 14, 3) := by decide +kernel
theorem dX5_lettersAmongReadings_22 : decode cX5_lettersAmongReadings 22 = .ok (.iload_n 1, 1) := by decide +kernel
theorem dX5_lettersAmongReadings_23 : decode cX5_lettersAmongReadings 23 = .ok (.iconst 1, 1) := by decide +kernel
theorem dX5_lettersAmongReadings_24 : decode cX5_lettersAmongReadings 24 = .ok (.aload_n 0, 1) := by decide +kernel
theorem dX5_lettersAmongReadings_25 : decode cX5_lettersAmongReadings 25 = .ok (.getfield 22, 3) := by decide +kernel
theorem dX5_lettersAmongReadings_28 : decode cX5_lettersAmongReadings 28 = .ok (.iload_n 2, 1) := by decide +kernel
theorem dX5_lettersAmongReadings_29 : decode cX5_lettersAmongReadings 29 = .ok (.iaload, 1) := by decide +kernel
theorem dX5_lettersAmongReadings_30 : decode cX5_lettersAmongReadings 30 = .ok (.ishl, 1) := by decide +kernel
theorem dX5_lettersAmongReadings_31 : decode cX5_lettersAmongReadings 31 = .ok (.ior, 1) := by decide +kernel
theorem dX5_lettersAmongReadings_32 : decode cX5_lettersAmongReadings 32 = .ok (.istore_n 1, 1) := by decide +kernel
theorem dX5_lettersAmongReadings_33 : decode cX5_lettersAmongReadings 33 = .ok (.iinc 2 1, 3) := by decide +kernel
theorem dX5_lettersAmongReadings_36 : decode cX5_lettersAmongReadings 36 = .ok (.goto (-32), 3) := by decide +kernel
theorem dX5_lettersAmongReadings_39 : decode cX5_lettersAmongReadings 39 = .ok (.iload_n 1, 1) := by decide +kernel
theorem dX5_lettersAmongReadings_40 : decode cX5_lettersAmongReadings 40 = .ok (.ireturn, 1) := by decide +kernel
theorem dX5_panesRight_0 : decode cX5_panesRight 0 = .ok (.iconst 0, 1) := by decide +kernel
theorem dX5_panesRight_1 : decode cX5_panesRight 1 = .ok (.istore_n 2, 1) := by decide +kernel
theorem dX5_panesRight_2 : decode cX5_panesRight 2 = .ok (.iconst 0, 1) := by decide +kernel
theorem dX5_panesRight_3 : decode cX5_panesRight 3 = .ok (.istore_n 3, 1) := by decide +kernel
theorem dX5_panesRight_4 : decode cX5_panesRight 4 = .ok (.iload_n 3, 1) := by decide +kernel
theorem dX5_panesRight_5 : decode cX5_panesRight 5 = .ok (.aload_n 0, 1) := by decide +kernel
theorem dX5_panesRight_6 : decode cX5_panesRight 6 = .ok (.getfield 9, 3) := by decide +kernel
theorem dX5_panesRight_9 : decode cX5_panesRight 9 = .ok (.getfield 98, 3) := by decide +kernel
theorem dX5_panesRight_12 : decode cX5_panesRight 12 = .ok (.if_icmp .ge 66, 3) := by decide +kernel
theorem dX5_panesRight_15 : decode cX5_panesRight 15 = .ok (.aload_n 0, 1) := by decide +kernel
theorem dX5_panesRight_16 : decode cX5_panesRight 16 = .ok (.getfield 9, 3) := by decide +kernel
theorem dX5_panesRight_19 : decode cX5_panesRight 19 = .ok (.iload_n 3, 1) := by decide +kernel
theorem dX5_panesRight_20 : decode cX5_panesRight 20 = .ok (.invokevirtual 101, 3) := by decide +kernel
theorem dX5_panesRight_23 : decode cX5_panesRight 23 = .ok (.astore 4, 2) := by decide +kernel
theorem dX5_panesRight_25 : decode cX5_panesRight 25 = .ok (.aload 4, 2) := by decide +kernel
theorem dX5_panesRight_27 : decode cX5_panesRight 27 = .ok (.ifnull 45, 3) := by decide +kernel
theorem dX5_panesRight_30 : decode cX5_panesRight 30 = .ok (.aload 4, 2) := by decide +kernel
theorem dX5_panesRight_32 : decode cX5_panesRight 32 = .ok (.getfield 108, 3) := by decide +kernel
theorem dX5_panesRight_35 : decode cX5_panesRight 35 = .ok (.iconst (-1), 1) := by decide +kernel
theorem dX5_panesRight_36 : decode cX5_panesRight 36 = .ok (.if_icmp .eq 36, 3) := by decide +kernel
theorem dX5_panesRight_39 : decode cX5_panesRight 39 = .ok (.aload_n 0, 1) := by decide +kernel
theorem dX5_panesRight_40 : decode cX5_panesRight 40 = .ok (.getfield 9, 3) := by decide +kernel
theorem dX5_panesRight_43 : decode cX5_panesRight 43 = .ok (.aload_n 0, 1) := by decide +kernel
theorem dX5_panesRight_44 : decode cX5_panesRight 44 = .ok (.aload 4, 2) := by decide +kernel
theorem dX5_panesRight_46 : decode cX5_panesRight 46 = .ok (.aload 4, 2) := by decide +kernel
theorem dX5_panesRight_48 : decode cX5_panesRight 48 = .ok (.getfield 108, 3) := by decide +kernel
theorem dX5_panesRight_51 : decode cX5_panesRight 51 = .ok (.iload_n 1, 1) := by decide +kernel
theorem dX5_panesRight_52 : decode cX5_panesRight 52 = .ok (.invokevirtual 39, 3) := by decide +kernel
theorem dX5_panesRight_55 : decode cX5_panesRight 55 = .ok (.invokevirtual 84, 3) := by decide +kernel
theorem dX5_panesRight_58 : decode cX5_panesRight 58 = .ok (.aload 4, 2) := by decide +kernel
theorem dX5_panesRight_60 : decode cX5_panesRight 60 = .ok (.getfield 108, 3) := by decide +kernel
theorem dX5_panesRight_63 : decode cX5_panesRight 63 = .ok (.if_icmp .ne 9, 3) := by decide +kernel
theorem dX5_panesRight_66 : decode cX5_panesRight 66 = .ok (.iload_n 2, 1) := by decide +kernel
theorem dX5_panesRight_67 : decode cX5_panesRight 67 = .ok (.iconst 1, 1) := by decide +kernel
theorem dX5_panesRight_68 : decode cX5_panesRight 68 = .ok (.iload_n 3, 1) := by decide +kernel
theorem dX5_panesRight_69 : decode cX5_panesRight 69 = .ok (.ishl, 1) := by decide +kernel
theorem dX5_panesRight_70 : decode cX5_panesRight 70 = .ok (.ior, 1) := by decide +kernel
theorem dX5_panesRight_71 : decode cX5_panesRight 71 = .ok (.istore_n 2, 1) := by decide +kernel
theorem dX5_panesRight_72 : decode cX5_panesRight 72 = .ok (.iinc 3 1, 3) := by decide +kernel
theorem dX5_panesRight_75 : decode cX5_panesRight 75 = .ok (.goto (-71), 3) := by decide +kernel
theorem dX5_panesRight_78 : decode cX5_panesRight 78 = .ok (.iload_n 2, 1) := by decide +kernel
theorem dX5_panesRight_79 : decode cX5_panesRight 79 = .ok (.ireturn, 1) := by decide +kernel
theorem dX5_lettersThatShow_0 : decode cX5_lettersThatShow 0 = .ok (.iconst 0, 1) := by decide +kernel
theorem dX5_lettersThatShow_1 : decode cX5_lettersThatShow 1 = .ok (.istore 4, 2) := by decide +kernel
theorem dX5_lettersThatShow_3 : decode cX5_lettersThatShow 3 = .ok (.iconst 0, 1) := by decide +kernel
theorem dX5_lettersThatShow_4 : decode cX5_lettersThatShow 4 = .ok (.istore 5, 2) := by decide +kernel
theorem dX5_lettersThatShow_6 : decode cX5_lettersThatShow 6 = .ok (.iload 5, 2) := by decide +kernel
theorem dX5_lettersThatShow_8 : decode cX5_lettersThatShow 8 = .ok (.aload_n 0, 1) := by decide +kernel
theorem dX5_lettersThatShow_9 : decode cX5_lettersThatShow 9 = .ok (.getfield 9, 3) := by decide +kernel
theorem dX5_lettersThatShow_12 : decode cX5_lettersThatShow 12 = .ok (.getfield 111, 3) := by decide +kernel
theorem dX5_lettersThatShow_15 : decode cX5_lettersThatShow 15 = .ok (.if_icmp .ge 30, 3) := by decide +kernel
theorem dX5_lettersThatShow_18 : decode cX5_lettersThatShow 18 = .ok (.aload_n 0, 1) := by decide +kernel
theorem dX5_lettersThatShow_19 : decode cX5_lettersThatShow 19 = .ok (.aload_n 1, 1) := by decide +kernel
theorem dX5_lettersThatShow_20 : decode cX5_lettersThatShow 20 = .ok (.iload 5, 2) := by decide +kernel
theorem dX5_lettersThatShow_22 : decode cX5_lettersThatShow 22 = .ok (.iload_n 3, 1) := by decide +kernel
theorem dX5_lettersThatShow_23 : decode cX5_lettersThatShow 23 = .ok (.invokevirtual 39, 3) := by decide +kernel
theorem dX5_lettersThatShow_26 : decode cX5_lettersThatShow 26 = .ok (.iload_n 2, 1) := by decide +kernel
theorem dX5_lettersThatShow_27 : decode cX5_lettersThatShow 27 = .ok (.if_icmp .ne 12, 3) := by decide +kernel
theorem dX5_lettersThatShow_30 : decode cX5_lettersThatShow 30 = .ok (.iload 4, 2) := by decide +kernel
theorem dX5_lettersThatShow_32 : decode cX5_lettersThatShow 32 = .ok (.iconst 1, 1) := by decide +kernel
theorem dX5_lettersThatShow_33 : decode cX5_lettersThatShow 33 = .ok (.iload 5, 2) := by decide +kernel
theorem dX5_lettersThatShow_35 : decode cX5_lettersThatShow 35 = .ok (.ishl, 1) := by decide +kernel
theorem dX5_lettersThatShow_36 : decode cX5_lettersThatShow 36 = .ok (.ior, 1) := by decide +kernel
theorem dX5_lettersThatShow_37 : decode cX5_lettersThatShow 37 = .ok (.istore 4, 2) := by decide +kernel
theorem dX5_lettersThatShow_39 : decode cX5_lettersThatShow 39 = .ok (.iinc 5 1, 3) := by decide +kernel
theorem dX5_lettersThatShow_42 : decode cX5_lettersThatShow 42 = .ok (.goto (-36), 3) := by decide +kernel
theorem dX5_lettersThatShow_45 : decode cX5_lettersThatShow 45 = .ok (.aload_n 0, 1) := by decide +kernel
theorem dX5_lettersThatShow_46 : decode cX5_lettersThatShow 46 = .ok (.aload_n 1, 1) := by decide +kernel
theorem dX5_lettersThatShow_47 : decode cX5_lettersThatShow 47 = .ok (.iconst (-1), 1) := by decide +kernel
theorem dX5_lettersThatShow_48 : decode cX5_lettersThatShow 48 = .ok (.iload_n 3, 1) := by decide +kernel
theorem dX5_lettersThatShow_49 : decode cX5_lettersThatShow 49 = .ok (.invokevirtual 39, 3) := by decide +kernel
theorem dX5_lettersThatShow_52 : decode cX5_lettersThatShow 52 = .ok (.iload_n 2, 1) := by decide +kernel
theorem dX5_lettersThatShow_53 : decode cX5_lettersThatShow 53 = .ok (.if_icmp .ne 12, 3) := by decide +kernel
theorem dX5_lettersThatShow_56 : decode cX5_lettersThatShow 56 = .ok (.iload 4, 2) := by decide +kernel
theorem dX5_lettersThatShow_58 : decode cX5_lettersThatShow 58 = .ok (.sipush 256, 3) := by decide +kernel
theorem dX5_lettersThatShow_61 : decode cX5_lettersThatShow 61 = .ok (.ior, 1) := by decide +kernel
theorem dX5_lettersThatShow_62 : decode cX5_lettersThatShow 62 = .ok (.goto 5, 3) := by decide +kernel
theorem dX5_lettersThatShow_65 : decode cX5_lettersThatShow 65 = .ok (.iload 4, 2) := by decide +kernel
theorem dX5_lettersThatShow_67 : decode cX5_lettersThatShow 67 = .ok (.ireturn, 1) := by decide +kernel
theorem dX5_warmestRoom_0 : decode cX5_warmestRoom 0 = .ok (.aload_n 0, 1) := by decide +kernel
theorem dX5_warmestRoom_1 : decode cX5_warmestRoom 1 = .ok (.getfield 18, 3) := by decide +kernel
theorem dX5_warmestRoom_4 : decode cX5_warmestRoom 4 = .ok (.aload_n 1, 1) := by decide +kernel
theorem dX5_warmestRoom_5 : decode cX5_warmestRoom 5 = .ok (.invokevirtual 47, 3) := by decide +kernel
theorem dX5_warmestRoom_8 : decode cX5_warmestRoom 8 = .ok (.bipush 9, 2) := by decide +kernel
theorem dX5_warmestRoom_10 : decode cX5_warmestRoom 10 = .ok (.istore 4, 2) := by decide +kernel
theorem dX5_warmestRoom_12 : decode cX5_warmestRoom 12 = .ok (.iload 4, 2) := by decide +kernel
theorem dX5_warmestRoom_14 : decode cX5_warmestRoom 14 = .ok (.ifCond .lt 45, 3) := by decide +kernel
theorem dX5_warmestRoom_17 : decode cX5_warmestRoom 17 = .ok (.aload_n 0, 1) := by decide +kernel
theorem dX5_warmestRoom_18 : decode cX5_warmestRoom 18 = .ok (.getfield 18, 3) := by decide +kernel
theorem dX5_warmestRoom_21 : decode cX5_warmestRoom 21 = .ok (.iload 4, 2) := by decide +kernel
theorem dX5_warmestRoom_23 : decode cX5_warmestRoom 23 = .ok (.putfield 114, 3) := by decide +kernel
theorem dX5_warmestRoom_26 : decode cX5_warmestRoom 26 = .ok (.aload_n 0, 1) := by decide +kernel
theorem dX5_warmestRoom_27 : decode cX5_warmestRoom 27 = .ok (.getfield 9, 3) := by decide +kernel
theorem dX5_warmestRoom_30 : decode cX5_warmestRoom 30 = .ok (.aload_n 0, 1) := by decide +kernel
theorem dX5_warmestRoom_31 : decode cX5_warmestRoom 31 = .ok (.iload_n 2, 1) := by decide +kernel
theorem dX5_warmestRoom_32 : decode cX5_warmestRoom 32 = .ok (.iload_n 3, 1) := by decide +kernel
theorem dX5_warmestRoom_33 : decode cX5_warmestRoom 33 = .ok (.aload_n 0, 1) := by decide +kernel
theorem dX5_warmestRoom_34 : decode cX5_warmestRoom 34 = .ok (.getfield 9, 3) := by decide +kernel
theorem dX5_warmestRoom_37 : decode cX5_warmestRoom 37 = .ok (.getfield 51, 3) := by decide +kernel
theorem dX5_warmestRoom_40 : decode cX5_warmestRoom 40 = .ok (.invokevirtual 56, 3) := by decide +kernel
theorem dX5_warmestRoom_43 : decode cX5_warmestRoom 43 = .ok (.invokevirtual 84, 3) := by decide +kernel
theorem dX5_warmestRoom_46 : decode cX5_warmestRoom 46 = .ok (.iload_n 2, 1) := by decide +kernel
theorem dX5_warmestRoom_47 : decode cX5_warmestRoom 47 = .ok (.if_icmp .ne 6, 3) := by decide +kernel
theorem dX5_warmestRoom_50 : decode cX5_warmestRoom 50 = .ok (.iload 4, 2) := by decide +kernel
theorem dX5_warmestRoom_52 : decode cX5_warmestRoom 52 = .ok (.ireturn, 1) := by decide +kernel
theorem dX5_warmestRoom_53 : decode cX5_warmestRoom 53 = .ok (.iinc 4 (-1), 3) := by decide +kernel
theorem dX5_warmestRoom_56 : decode cX5_warmestRoom 56 = .ok (.goto (-44), 3) := by decide +kernel
theorem dX5_warmestRoom_59 : decode cX5_warmestRoom 59 = .ok (.iconst (-1), 1) := by decide +kernel
theorem dX5_warmestRoom_60 : decode cX5_warmestRoom 60 = .ok (.ireturn, 1) := by decide +kernel
theorem dX5_leastCold_0 : decode cX5_leastCold 0 = .ok (.aload_n 0, 1) := by decide +kernel
theorem dX5_leastCold_1 : decode cX5_leastCold 1 = .ok (.getfield 18, 3) := by decide +kernel
theorem dX5_leastCold_4 : decode cX5_leastCold 4 = .ok (.aload_n 1, 1) := by decide +kernel
theorem dX5_leastCold_5 : decode cX5_leastCold 5 = .ok (.invokevirtual 47, 3) := by decide +kernel
theorem dX5_leastCold_8 : decode cX5_leastCold 8 = .ok (.iconst 0, 1) := by decide +kernel
theorem dX5_leastCold_9 : decode cX5_leastCold 9 = .ok (.istore 4, 2) := by decide +kernel
theorem dX5_leastCold_11 : decode cX5_leastCold 11 = .ok (.iload 4, 2) := by decide +kernel
theorem dX5_leastCold_13 : decode cX5_leastCold 13 = .ok (.bipush 40, 2) := by decide +kernel
theorem dX5_leastCold_15 : decode cX5_leastCold 15 = .ok (.if_icmp .gt 31, 3) := by decide +kernel
theorem dX5_leastCold_18 : decode cX5_leastCold 18 = .ok (.aload_n 0, 1) := by decide +kernel
theorem dX5_leastCold_19 : decode cX5_leastCold 19 = .ok (.getfield 9, 3) := by decide +kernel
theorem dX5_leastCold_22 : decode cX5_leastCold 22 = .ok (.aload_n 0, 1) := by decide +kernel
theorem dX5_leastCold_23 : decode cX5_leastCold 23 = .ok (.iload_n 2, 1) := by decide +kernel
theorem dX5_leastCold_24 : decode cX5_leastCold 24 = .ok (.iload_n 3, 1) := by decide +kernel
theorem dX5_leastCold_25 : decode cX5_leastCold 25 = .ok (.iload 4, 2) := by decide +kernel
theorem dX5_leastCold_27 : decode cX5_leastCold 27 = .ok (.invokevirtual 56, 3) := by decide +kernel
theorem dX5_leastCold_30 : decode cX5_leastCold 30 = .ok (.invokevirtual 84, 3) := by decide +kernel
theorem dX5_leastCold_33 : decode cX5_leastCold 33 = .ok (.iload_n 2, 1) := by decide +kernel
theorem dX5_leastCold_34 : decode cX5_leastCold 34 = .ok (.if_icmp .ne 6, 3) := by decide +kernel
theorem dX5_leastCold_37 : decode cX5_leastCold 37 = .ok (.iload 4, 2) := by decide +kernel
theorem dX5_leastCold_39 : decode cX5_leastCold 39 = .ok (.ireturn, 1) := by decide +kernel
theorem dX5_leastCold_40 : decode cX5_leastCold 40 = .ok (.iinc 4 1, 3) := by decide +kernel
theorem dX5_leastCold_43 : decode cX5_leastCold 43 = .ok (.goto (-32), 3) := by decide +kernel
theorem dX5_leastCold_46 : decode cX5_leastCold 46 = .ok (.iconst (-1), 1) := by decide +kernel
theorem dX5_leastCold_47 : decode cX5_leastCold 47 = .ok (.ireturn, 1) := by decide +kernel
theorem dX5_curtainsRead_0 : decode cX5_curtainsRead 0 = .ok (.iconst 0, 1) := by decide +kernel
theorem dX5_curtainsRead_1 : decode cX5_curtainsRead 1 = .ok (.istore_n 1, 1) := by decide +kernel
theorem dX5_curtainsRead_2 : decode cX5_curtainsRead 2 = .ok (.iconst 0, 1) := by decide +kernel
theorem dX5_curtainsRead_3 : decode cX5_curtainsRead 3 = .ok (.istore_n 2, 1) := by decide +kernel
theorem dX5_curtainsRead_4 : decode cX5_curtainsRead 4 = .ok (.iload_n 2, 1) := by decide +kernel
theorem dX5_curtainsRead_5 : decode cX5_curtainsRead 5 = .ok (.aload_n 0, 1) := by decide +kernel
theorem dX5_curtainsRead_6 : decode cX5_curtainsRead 6 = .ok (.getfield 9, 3) := by decide +kernel
theorem dX5_curtainsRead_9 : decode cX5_curtainsRead 9 = .ok (.getfield 98, 3) := by decide +kernel
theorem dX5_curtainsRead_12 : decode cX5_curtainsRead 12 = .ok (.if_icmp .ge 54, 3) := by decide +kernel
theorem dX5_curtainsRead_15 : decode cX5_curtainsRead 15 = .ok (.aload_n 0, 1) := by decide +kernel
theorem dX5_curtainsRead_16 : decode cX5_curtainsRead 16 = .ok (.getfield 9, 3) := by decide +kernel
theorem dX5_curtainsRead_19 : decode cX5_curtainsRead 19 = .ok (.iload_n 2, 1) := by decide +kernel
theorem dX5_curtainsRead_20 : decode cX5_curtainsRead 20 = .ok (.invokevirtual 101, 3) := by decide +kernel
theorem dX5_curtainsRead_23 : decode cX5_curtainsRead 23 = .ok (.astore_n 3, 1) := by decide +kernel
theorem dX5_curtainsRead_24 : decode cX5_curtainsRead 24 = .ok (.aload_n 3, 1) := by decide +kernel
theorem dX5_curtainsRead_25 : decode cX5_curtainsRead 25 = .ok (.ifnull 35, 3) := by decide +kernel
theorem dX5_curtainsRead_28 : decode cX5_curtainsRead 28 = .ok (.aload_n 3, 1) := by decide +kernel
theorem dX5_curtainsRead_29 : decode cX5_curtainsRead 29 = .ok (.getfield 108, 3) := by decide +kernel
theorem dX5_curtainsRead_32 : decode cX5_curtainsRead 32 = .ok (.iconst (-1), 1) := by decide +kernel
theorem dX5_curtainsRead_33 : decode cX5_curtainsRead 33 = .ok (.if_icmp .ne 27, 3) := by decide +kernel
theorem dX5_curtainsRead_36 : decode cX5_curtainsRead 36 = .ok (.aload_n 0, 1) := by decide +kernel
theorem dX5_curtainsRead_37 : decode cX5_curtainsRead 37 = .ok (.getfield 9, 3) := by decide +kernel
theorem dX5_curtainsRead_40 : decode cX5_curtainsRead 40 = .ok (.aload_n 0, 1) := by decide +kernel
theorem dX5_curtainsRead_41 : decode cX5_curtainsRead 41 = .ok (.aload_n 3, 1) := by decide +kernel
theorem dX5_curtainsRead_42 : decode cX5_curtainsRead 42 = .ok (.iconst (-1), 1) := by decide +kernel
theorem dX5_curtainsRead_43 : decode cX5_curtainsRead 43 = .ok (.iconst 0, 1) := by decide +kernel
theorem dX5_curtainsRead_44 : decode cX5_curtainsRead 44 = .ok (.invokevirtual 39, 3) := by decide +kernel
theorem dX5_curtainsRead_47 : decode cX5_curtainsRead 47 = .ok (.invokevirtual 84, 3) := by decide +kernel
theorem dX5_curtainsRead_50 : decode cX5_curtainsRead 50 = .ok (.iconst (-1), 1) := by decide +kernel
theorem dX5_curtainsRead_51 : decode cX5_curtainsRead 51 = .ok (.if_icmp .eq 9, 3) := by decide +kernel
theorem dX5_curtainsRead_54 : decode cX5_curtainsRead 54 = .ok (.iload_n 1, 1) := by decide +kernel
theorem dX5_curtainsRead_55 : decode cX5_curtainsRead 55 = .ok (.iconst 1, 1) := by decide +kernel
theorem dX5_curtainsRead_56 : decode cX5_curtainsRead 56 = .ok (.iload_n 2, 1) := by decide +kernel
theorem dX5_curtainsRead_57 : decode cX5_curtainsRead 57 = .ok (.ishl, 1) := by decide +kernel
theorem dX5_curtainsRead_58 : decode cX5_curtainsRead 58 = .ok (.ior, 1) := by decide +kernel
theorem dX5_curtainsRead_59 : decode cX5_curtainsRead 59 = .ok (.istore_n 1, 1) := by decide +kernel
theorem dX5_curtainsRead_60 : decode cX5_curtainsRead 60 = .ok (.iinc 2 1, 3) := by decide +kernel
theorem dX5_curtainsRead_63 : decode cX5_curtainsRead 63 = .ok (.goto (-59), 3) := by decide +kernel
theorem dX5_curtainsRead_66 : decode cX5_curtainsRead 66 = .ok (.iload_n 1, 1) := by decide +kernel
theorem dX5_curtainsRead_67 : decode cX5_curtainsRead 67 = .ok (.ireturn, 1) := by decide +kernel
theorem dX5_firstPaperLead_0 : decode cX5_firstPaperLead 0 = .ok (.iconst 0, 1) := by decide +kernel
theorem dX5_firstPaperLead_1 : decode cX5_firstPaperLead 1 = .ok (.istore_n 1, 1) := by decide +kernel
theorem dX5_firstPaperLead_2 : decode cX5_firstPaperLead 2 = .ok (.iload_n 1, 1) := by decide +kernel
theorem dX5_firstPaperLead_3 : decode cX5_firstPaperLead 3 = .ok (.aload_n 0, 1) := by decide +kernel
theorem dX5_firstPaperLead_4 : decode cX5_firstPaperLead 4 = .ok (.getfield 29, 3) := by decide +kernel
theorem dX5_firstPaperLead_7 : decode cX5_firstPaperLead 7 = .ok (.arraylength, 1) := by decide +kernel
theorem dX5_firstPaperLead_8 : decode cX5_firstPaperLead 8 = .ok (.if_icmp .ge 27, 3) := by decide +kernel
theorem dX5_firstPaperLead_11 : decode cX5_firstPaperLead 11 = .ok (.aload_n 0, 1) := by decide +kernel
theorem dX5_firstPaperLead_12 : decode cX5_firstPaperLead 12 = .ok (.getfield 29, 3) := by decide +kernel
theorem dX5_firstPaperLead_15 : decode cX5_firstPaperLead 15 = .ok (.iload_n 1, 1) := by decide +kernel
theorem dX5_firstPaperLead_16 : decode cX5_firstPaperLead 16 = .ok (.aload_n 0, 1) := by decide +kernel
theorem dX5_firstPaperLead_17 : decode cX5_firstPaperLead 17 = .ok (.aload_n 0, 1) := by decide +kernel
theorem dX5_firstPaperLead_18 : decode cX5_firstPaperLead 18 = .ok (.getfield 9, 3) := by decide +kernel
theorem dX5_firstPaperLead_21 : decode cX5_firstPaperLead 21 = .ok (.iload_n 1, 1) := by decide +kernel
theorem dX5_firstPaperLead_22 : decode cX5_firstPaperLead 22 = .ok (.invokevirtual 101, 3) := by decide +kernel
theorem dX5_firstPaperLead_25 : decode cX5_firstPaperLead 25 = .ok (.invokevirtual 117, 3) := by decide +kernel
theorem dX5_firstPaperLead_28 : decode cX5_firstPaperLead 28 = .ok (.iastore, 1) := by decide +kernel
theorem dX5_firstPaperLead_29 : decode cX5_firstPaperLead 29 = .ok (.iinc 1 1, 3) := by decide +kernel
theorem dX5_firstPaperLead_32 : decode cX5_firstPaperLead 32 = .ok (.goto (-30), 3) := by decide +kernel
theorem dX5_firstPaperLead_35 : decode cX5_firstPaperLead 35 = .ok (.iconst 0, 1) := by decide +kernel
theorem dX5_firstPaperLead_36 : decode cX5_firstPaperLead 36 = .ok (.istore_n 1, 1) := by decide +kernel
theorem dX5_firstPaperLead_37 : decode cX5_firstPaperLead 37 = .ok (.iconst 0, 1) := by decide +kernel
theorem dX5_firstPaperLead_38 : decode cX5_firstPaperLead 38 = .ok (.istore_n 2, 1) := by decide +kernel
theorem dX5_firstPaperLead_39 : decode cX5_firstPaperLead 39 = .ok (.iload_n 2, 1) := by decide +kernel
theorem dX5_firstPaperLead_40 : decode cX5_firstPaperLead 40 = .ok (.aload_n 0, 1) := by decide +kernel
theorem dX5_firstPaperLead_41 : decode cX5_firstPaperLead 41 = .ok (.getfield 29, 3) := by decide +kernel
theorem dX5_firstPaperLead_44 : decode cX5_firstPaperLead 44 = .ok (.arraylength, 1) := by decide +kernel
theorem dX5_firstPaperLead_45 : decode cX5_firstPaperLead 45 = .ok (.if_icmp .ge 29, 3) := by decide +kernel
theorem dX5_firstPaperLead_48 : decode cX5_firstPaperLead 48 = .ok (.aload_n 0, 1) := by decide +kernel
theorem dX5_firstPaperLead_49 : decode cX5_firstPaperLead 49 = .ok (.invokevirtual 121, 3) := by decide +kernel
theorem dX5_firstPaperLead_52 : decode cX5_firstPaperLead 52 = .ok (.istore_n 3, 1) := by decide +kernel
theorem dX5_firstPaperLead_53 : decode cX5_firstPaperLead 53 = .ok (.iload_n 1, 1) := by decide +kernel
theorem dX5_firstPaperLead_54 : decode cX5_firstPaperLead 54 = .ok (.iload_n 2, 1) := by decide +kernel
theorem dX5_firstPaperLead_55 : decode cX5_firstPaperLead 55 = .ok (.iconst 2, 1) := by decide +kernel
theorem dX5_firstPaperLead_56 : decode cX5_firstPaperLead 56 = .ok (.irem, 1) := by decide +kernel
theorem dX5_firstPaperLead_57 : decode cX5_firstPaperLead 57 = .ok (.ifCond .ne 7, 3) := by decide +kernel
theorem dX5_firstPaperLead_60 : decode cX5_firstPaperLead 60 = .ok (.iload_n 3, 1) := by decide +kernel
theorem dX5_firstPaperLead_61 : decode cX5_firstPaperLead 61 = .ok (.goto 5, 3) := by decide +kernel
theorem dX5_firstPaperLead_64 : decode cX5_firstPaperLead 64 = .ok (.iload_n 3, 1) := by decide +kernel
theorem dX5_firstPaperLead_65 : decode cX5_firstPaperLead 65 = .ok (.ineg, 1) := by decide +kernel
theorem dX5_firstPaperLead_66 : decode cX5_firstPaperLead 66 = .ok (.iadd, 1) := by decide +kernel
theorem dX5_firstPaperLead_67 : decode cX5_firstPaperLead 67 = .ok (.istore_n 1, 1) := by decide +kernel
theorem dX5_firstPaperLead_68 : decode cX5_firstPaperLead 68 = .ok (.iinc 2 1, 3) := by decide +kernel
theorem dX5_firstPaperLead_71 : decode cX5_firstPaperLead 71 = .ok (.goto (-32), 3) := by decide +kernel
theorem dX5_firstPaperLead_74 : decode cX5_firstPaperLead 74 = .ok (.iload_n 1, 1) := by decide +kernel
theorem dX5_firstPaperLead_75 : decode cX5_firstPaperLead 75 = .ok (.ireturn, 1) := by decide +kernel
theorem dX5_takeDearest_0 : decode cX5_takeDearest 0 = .ok (.iconst (-1), 1) := by decide +kernel
theorem dX5_takeDearest_1 : decode cX5_takeDearest 1 = .ok (.istore_n 1, 1) := by decide +kernel
theorem dX5_takeDearest_2 : decode cX5_takeDearest 2 = .ok (.iconst 0, 1) := by decide +kernel
theorem dX5_takeDearest_3 : decode cX5_takeDearest 3 = .ok (.istore_n 2, 1) := by decide +kernel
theorem dX5_takeDearest_4 : decode cX5_takeDearest 4 = .ok (.iconst 0, 1) := by decide +kernel
theorem dX5_takeDearest_5 : decode cX5_takeDearest 5 = .ok (.istore_n 3, 1) := by decide +kernel
theorem dX5_takeDearest_6 : decode cX5_takeDearest 6 = .ok (.iload_n 3, 1) := by decide +kernel
theorem dX5_takeDearest_7 : decode cX5_takeDearest 7 = .ok (.aload_n 0, 1) := by decide +kernel
theorem dX5_takeDearest_8 : decode cX5_takeDearest 8 = .ok (.getfield 29, 3) := by decide +kernel
theorem dX5_takeDearest_11 : decode cX5_takeDearest 11 = .ok (.arraylength, 1) := by decide +kernel
theorem dX5_takeDearest_12 : decode cX5_takeDearest 12 = .ok (.if_icmp .ge 28, 3) := by decide +kernel
theorem dX5_takeDearest_15 : decode cX5_takeDearest 15 = .ok (.aload_n 0, 1) := by decide +kernel
theorem dX5_takeDearest_16 : decode cX5_takeDearest 16 = .ok (.getfield 29, 3) := by decide +kernel
theorem dX5_takeDearest_19 : decode cX5_takeDearest 19 = .ok (.iload_n 3, 1) := by decide +kernel
theorem dX5_takeDearest_20 : decode cX5_takeDearest 20 = .ok (.iaload, 1) := by decide +kernel
theorem dX5_takeDearest_21 : decode cX5_takeDearest 21 = .ok (.iload_n 2, 1) := by decide +kernel
theorem dX5_takeDearest_22 : decode cX5_takeDearest 22 = .ok (.if_icmp .le 12, 3) := by decide +kernel
theorem dX5_takeDearest_25 : decode cX5_takeDearest 25 = .ok (.aload_n 0, 1) := by decide +kernel
theorem dX5_takeDearest_26 : decode cX5_takeDearest 26 = .ok (.getfield 29, 3) := by decide +kernel
theorem dX5_takeDearest_29 : decode cX5_takeDearest 29 = .ok (.iload_n 3, 1) := by decide +kernel
theorem dX5_takeDearest_30 : decode cX5_takeDearest 30 = .ok (.iaload, 1) := by decide +kernel
theorem dX5_takeDearest_31 : decode cX5_takeDearest 31 = .ok (.istore_n 2, 1) := by decide +kernel
theorem dX5_takeDearest_32 : decode cX5_takeDearest 32 = .ok (.iload_n 3, 1) := by decide +kernel
theorem dX5_takeDearest_33 : decode cX5_takeDearest 33 = .ok (.istore_n 1, 1) := by decide +kernel
theorem dX5_takeDearest_34 : decode cX5_takeDearest 34 = .ok (.iinc 3 1, 3) := by decide +kernel
theorem dX5_takeDearest_37 : decode cX5_takeDearest 37 = .ok (.goto (-31), 3) := by decide +kernel
theorem dX5_takeDearest_40 : decode cX5_takeDearest 40 = .ok (.iload_n 1, 1) := by decide +kernel
theorem dX5_takeDearest_41 : decode cX5_takeDearest 41 = .ok (.ifCond .lt 19, 3) := by decide +kernel
theorem dX5_takeDearest_44 : decode cX5_takeDearest 44 = .ok (.iload_n 1, 1) := by decide +kernel
theorem dX5_takeDearest_45 : decode cX5_takeDearest 45 = .ok (.aload_n 0, 1) := by decide +kernel
theorem dX5_takeDearest_46 : decode cX5_takeDearest 46 = .ok (.getfield 29, 3) := by decide +kernel
theorem dX5_takeDearest_49 : decode cX5_takeDearest 49 = .ok (.arraylength, 1) := by decide +kernel
theorem dX5_takeDearest_50 : decode cX5_takeDearest 50 = .ok (.if_icmp .ge 10, 3) := by decide +kernel
theorem dX5_takeDearest_53 : decode cX5_takeDearest 53 = .ok (.aload_n 0, 1) := by decide +kernel
theorem dX5_takeDearest_54 : decode cX5_takeDearest 54 = .ok (.getfield 29, 3) := by decide +kernel
theorem dX5_takeDearest_57 : decode cX5_takeDearest 57 = .ok (.iload_n 1, 1) := by decide +kernel
theorem dX5_takeDearest_58 : decode cX5_takeDearest 58 = .ok (.iconst 0, 1) := by decide +kernel
theorem dX5_takeDearest_59 : decode cX5_takeDearest 59 = .ok (.iastore, 1) := by decide +kernel
theorem dX5_takeDearest_60 : decode cX5_takeDearest 60 = .ok (.iload_n 2, 1) := by decide +kernel
theorem dX5_takeDearest_61 : decode cX5_takeDearest 61 = .ok (.ireturn, 1) := by decide +kernel
theorem dX5_worthOf_0 : decode cX5_worthOf 0 = .ok (.aload_n 1, 1) := by decide +kernel
theorem dX5_worthOf_1 : decode cX5_worthOf 1 = .ok (.ifnull 11, 3) := by decide +kernel
theorem dX5_worthOf_4 : decode cX5_worthOf 4 = .ok (.aload_n 1, 1) := by decide +kernel
theorem dX5_worthOf_5 : decode cX5_worthOf 5 = .ok (.getfield 108, 3) := by decide +kernel
theorem dX5_worthOf_8 : decode cX5_worthOf 8 = .ok (.iconst (-1), 1) := by decide +kernel
theorem dX5_worthOf_9 : decode cX5_worthOf 9 = .ok (.if_icmp .ne 5, 3) := by decide +kernel
theorem dX5_worthOf_12 : decode cX5_worthOf 12 = .ok (.iconst 0, 1) := by decide +kernel
theorem dX5_worthOf_13 : decode cX5_worthOf 13 = .ok (.ireturn, 1) := by decide +kernel
theorem dX5_worthOf_14 : decode cX5_worthOf 14 = .ok (.aload_n 0, 1) := by decide +kernel
theorem dX5_worthOf_15 : decode cX5_worthOf 15 = .ok (.aload_n 1, 1) := by decide +kernel
theorem dX5_worthOf_16 : decode cX5_worthOf 16 = .ok (.aload_n 1, 1) := by decide +kernel
theorem dX5_worthOf_17 : decode cX5_worthOf 17 = .ok (.getfield 108, 3) := by decide +kernel
theorem dX5_worthOf_20 : decode cX5_worthOf 20 = .ok (.invokevirtual 94, 3) := by decide +kernel
theorem dX5_worthOf_23 : decode cX5_worthOf 23 = .ok (.iconst 0, 1) := by decide +kernel
theorem dX5_worthOf_24 : decode cX5_worthOf 24 = .ok (.istore_n 2, 1) := by decide +kernel
theorem dX5_worthOf_25 : decode cX5_worthOf 25 = .ok (.iconst 0, 1) := by decide +kernel
theorem dX5_worthOf_26 : decode cX5_worthOf 26 = .ok (.istore_n 3, 1) := by decide +kernel
theorem dX5_worthOf_27 : decode cX5_worthOf 27 = .ok (.iload_n 3, 1) := by decide +kernel
theorem dX5_worthOf_28 : decode cX5_worthOf 28 = .ok (.aload_n 0, 1) := by decide +kernel
theorem dX5_worthOf_29 : decode cX5_worthOf 29 = .ok (.getfield 22, 3) := by decide +kernel
theorem dX5_worthOf_32 : decode cX5_worthOf 32 = .ok (.arraylength, 1) := by decide +kernel
theorem dX5_worthOf_33 : decode cX5_worthOf 33 = .ok (.if_icmp .ge 30, 3) := by decide +kernel
theorem dX5_worthOf_36 : decode cX5_worthOf 36 = .ok (.iload_n 2, 1) := by decide +kernel
theorem dX5_worthOf_37 : decode cX5_worthOf 37 = .ok (.aload_n 0, 1) := by decide +kernel
theorem dX5_worthOf_38 : decode cX5_worthOf 38 = .ok (.getfield 22, 3) := by decide +kernel
theorem dX5_worthOf_41 : decode cX5_worthOf 41 = .ok (.iload_n 3, 1) := by decide +kernel
theorem dX5_worthOf_42 : decode cX5_worthOf 42 = .ok (.iaload, 1) := by decide +kernel
theorem dX5_worthOf_43 : decode cX5_worthOf 43 = .ok (.aload_n 1, 1) := by decide +kernel
theorem dX5_worthOf_44 : decode cX5_worthOf 44 = .ok (.getfield 108, 3) := by decide +kernel
theorem dX5_worthOf_47 : decode cX5_worthOf 47 = .ok (.if_icmp .ne 7, 3) := by decide +kernel
theorem dX5_worthOf_50 : decode cX5_worthOf 50 = .ok (.iconst 1, 1) := by decide +kernel
theorem dX5_worthOf_51 : decode cX5_worthOf 51 = .ok (.goto 4, 3) := by decide +kernel
theorem dX5_worthOf_54 : decode cX5_worthOf 54 = .ok (.iconst 0, 1) := by decide +kernel
theorem dX5_worthOf_55 : decode cX5_worthOf 55 = .ok (.iadd, 1) := by decide +kernel
theorem dX5_worthOf_56 : decode cX5_worthOf 56 = .ok (.istore_n 2, 1) := by decide +kernel
theorem dX5_worthOf_57 : decode cX5_worthOf 57 = .ok (.iinc 3 1, 3) := by decide +kernel
theorem dX5_worthOf_60 : decode cX5_worthOf 60 = .ok (.goto (-33), 3) := by decide +kernel
theorem dX5_worthOf_63 : decode cX5_worthOf 63 = .ok (.iload_n 2, 1) := by decide +kernel
theorem dX5_worthOf_64 : decode cX5_worthOf 64 = .ok (.ireturn, 1) := by decide +kernel
theorem dX6_init_0 : decode cX6_init 0 = .ok (.aload_n 0, 1) := by decide +kernel
theorem dX6_init_1 : decode cX6_init 1 = .ok (.invokespecial 1, 3) := by decide +kernel
theorem dX6_init_4 : decode cX6_init 4 = .ok (.aload_n 0, 1) := by decide +kernel
theorem dX6_init_5 : decode cX6_init 5 = .ok (.new 7, 3) := by decide +kernel
theorem dX6_init_8 : decode cX6_init 8 = .ok (.dup, 1) := by decide +kernel
theorem dX6_init_9 : decode cX6_init 9 = .ok (.invokespecial 9, 3) := by decide +kernel
theorem dX6_init_12 : decode cX6_init 12 = .ok (.putfield 10, 3) := by decide +kernel
theorem dX6_init_15 : decode cX6_init 15 = .ok (.aload_n 0, 1) := by decide +kernel
theorem dX6_init_16 : decode cX6_init 16 = .ok (.new 7, 3) := by decide +kernel
theorem dX6_init_19 : decode cX6_init 19 = .ok (.dup, 1) := by decide +kernel
theorem dX6_init_20 : decode cX6_init 20 = .ok (.invokespecial 9, 3) := by decide +kernel
theorem dX6_init_23 : decode cX6_init 23 = .ok (.putfield 16, 3) := by decide +kernel
theorem dX6_init_26 : decode cX6_init 26 = .ok (.aload_n 0, 1) := by decide +kernel
theorem dX6_init_27 : decode cX6_init 27 = .ok (.new 7, 3) := by decide +kernel
theorem dX6_init_30 : decode cX6_init 30 = .ok (.dup, 1) := by decide +kernel
theorem dX6_init_31 : decode cX6_init 31 = .ok (.invokespecial 9, 3) := by decide +kernel
theorem dX6_init_34 : decode cX6_init 34 = .ok (.putfield 19, 3) := by decide +kernel
theorem dX6_init_37 : decode cX6_init 37 = .ok (.aload_n 0, 1) := by decide +kernel
theorem dX6_init_38 : decode cX6_init 38 = .ok (.new 22, 3) := by decide +kernel
theorem dX6_init_41 : decode cX6_init 41 = .ok (.dup, 1) := by decide +kernel
theorem dX6_init_42 : decode cX6_init 42 = .ok (.aload_n 0, 1) := by decide +kernel
theorem dX6_init_43 : decode cX6_init 43 = .ok (.getfield 10, 3) := by decide +kernel
theorem dX6_init_46 : decode cX6_init 46 = .ok (.invokespecial 24, 3) := by decide +kernel
theorem dX6_init_49 : decode cX6_init 49 = .ok (.putfield 27, 3) := by decide +kernel
theorem dX6_init_52 : decode cX6_init 52 = .ok (.aload_n 0, 1) := by decide +kernel
theorem dX6_init_53 : decode cX6_init 53 = .ok (.bipush 8, 2) := by decide +kernel
theorem dX6_init_55 : decode cX6_init 55 = .ok (.anewarray 31, 3) := by decide +kernel
theorem dX6_init_58 : decode cX6_init 58 = .ok (.putfield 33, 3) := by decide +kernel
theorem dX6_init_61 : decode cX6_init 61 = .ok (.iconst 0, 1) := by decide +kernel
theorem dX6_init_62 : decode cX6_init 62 = .ok (.istore_n 1, 1) := by decide +kernel
theorem dX6_init_63 : decode cX6_init 63 = .ok (.iload_n 1, 1) := by decide +kernel
theorem dX6_init_64 : decode cX6_init 64 = .ok (.aload_n 0, 1) := by decide +kernel
theorem dX6_init_65 : decode cX6_init 65 = .ok (.getfield 33, 3) := by decide +kernel
theorem dX6_init_68 : decode cX6_init 68 = .ok (.arraylength, 1) := by decide +kernel
theorem dX6_init_69 : decode cX6_init 69 = .ok (.if_icmp .ge 22, 3) := by decide +kernel
theorem dX6_init_72 : decode cX6_init 72 = .ok (.aload_n 0, 1) := by decide +kernel
theorem dX6_init_73 : decode cX6_init 73 = .ok (.getfield 33, 3) := by decide +kernel
theorem dX6_init_76 : decode cX6_init 76 = .ok (.iload_n 1, 1) := by decide +kernel
theorem dX6_init_77 : decode cX6_init 77 = .ok (.new 31, 3) := by decide +kernel
theorem dX6_init_80 : decode cX6_init 80 = .ok (.dup, 1) := by decide +kernel
theorem dX6_init_81 : decode cX6_init 81 = .ok (.invokespecial 37, 3) := by decide +kernel
theorem dX6_init_84 : decode cX6_init 84 = .ok (.aastore, 1) := by decide +kernel
theorem dX6_init_85 : decode cX6_init 85 = .ok (.iinc 1 1, 3) := by decide +kernel
theorem dX6_init_88 : decode cX6_init 88 = .ok (.goto (-25), 3) := by decide +kernel
theorem dX6_init_91 : decode cX6_init 91 = .ok (.aload_n 0, 1) := by decide +kernel
theorem dX6_init_92 : decode cX6_init 92 = .ok (.new 38, 3) := by decide +kernel
theorem dX6_init_95 : decode cX6_init 95 = .ok (.dup, 1) := by decide +kernel
theorem dX6_init_96 : decode cX6_init 96 = .ok (.invokespecial 40, 3) := by decide +kernel
theorem dX6_init_99 : decode cX6_init 99 = .ok (.putfield 41, 3) := by decide +kernel
theorem dX6_init_102 : decode cX6_init 102 = .ok (.aload_n 0, 1) := by decide +kernel
theorem dX6_init_103 : decode cX6_init 103 = .ok (.new 45, 3) := by decide +kernel
theorem dX6_init_106 : decode cX6_init 106 = .ok (.dup, 1) := by decide +kernel
theorem dX6_init_107 : decode cX6_init 107 = .ok (.invokespecial 47, 3) := by decide +kernel
theorem dX6_init_110 : decode cX6_init 110 = .ok (.putfield 48, 3) := by decide +kernel
theorem dX6_init_113 : decode cX6_init 113 = .ok (.aload_n 0, 1) := by decide +kernel
theorem dX6_init_114 : decode cX6_init 114 = .ok (.bipush 8, 2) := by decide +kernel
theorem dX6_init_116 : decode cX6_init 116 = .ok (.newarray .int, 2) := by decide +kernel
theorem dX6_init_118 : decode cX6_init 118 = .ok (.putfield 52, 3) := by decide +kernel
theorem dX6_init_121 : decode cX6_init 121 = .ok (.aload_n 0, 1) := by decide +kernel
theorem dX6_init_122 : decode cX6_init 122 = .ok (.iconst 0, 1) := by decide +kernel
theorem dX6_init_123 : decode cX6_init 123 = .ok (.putfield 56, 3) := by decide +kernel
theorem dX6_init_126 : decode cX6_init 126 = .ok (.return_, 1) := by decide +kernel
theorem dX6_row_0 : decode cX6_row 0 = .ok (.aload_n 0, 1) := by decide +kernel
theorem dX6_row_1 : decode cX6_row 1 = .ok (.iload_n 1, 1) := by decide +kernel
theorem dX6_row_2 : decode cX6_row 2 = .ok (.invokevirtual 60, 3) := by decide +kernel
theorem dX6_row_5 : decode cX6_row 5 = .ok (.astore 4, 2) := by decide +kernel
theorem dX6_row_7 : decode cX6_row 7 = .ok (.aload 4, 2) := by decide +kernel
theorem dX6_row_9 : decode cX6_row 9 = .ok (.ifnonnull 9, 3) := by decide +kernel
theorem dX6_row_12 : decode cX6_row 12 = .ok (.aload_n 0, 1) := by decide +kernel
theorem dX6_row_13 : decode cX6_row 13 = .ok (.iconst (-1), 1) := by decide +kernel
theorem dX6_row_14 : decode cX6_row 14 = .ok (.invokevirtual 64, 3) := by decide +kernel
theorem dX6_row_17 : decode cX6_row 17 = .ok (.ireturn, 1) := by decide +kernel
theorem dX6_row_18 : decode cX6_row 18 = .ok (.iload_n 3, 1) := by decide +kernel
theorem dX6_row_19 : decode cX6_row 19 = .ok (.ifCond .ge 10, 3) := by decide +kernel
theorem dX6_row_22 : decode cX6_row 22 = .ok (.aload_n 0, 1) := by decide +kernel
theorem dX6_row_23 : decode cX6_row 23 = .ok (.bipush (-4), 2) := by decide +kernel
theorem dX6_row_25 : decode cX6_row 25 = .ok (.invokevirtual 64, 3) := by decide +kernel
theorem dX6_row_28 : decode cX6_row 28 = .ok (.ireturn, 1) := by decide +kernel
theorem dX6_row_29 : decode cX6_row 29 = .ok (.iload_n 2, 1) := by decide +kernel
theorem dX6_row_30 : decode cX6_row 30 = .ok (.ifCond .lt 8, 3) := by decide +kernel
theorem dX6_row_33 : decode cX6_row 33 = .ok (.iload_n 2, 1) := by decide +kernel
theorem dX6_row_34 : decode cX6_row 34 = .ok (.iconst 3, 1) := by decide +kernel
theorem dX6_row_35 : decode cX6_row 35 = .ok (.if_icmp .le 10, 3) := by decide +kernel
theorem dX6_row_38 : decode cX6_row 38 = .ok (.aload_n 0, 1) := by decide +kernel
theorem dX6_row_39 : decode cX6_row 39 = .ok (.bipush (-6), 2) := by decide +kernel
theorem dX6_row_41 : decode cX6_row 41 = .ok (.invokevirtual 64, 3) := by decide +kernel
theorem dX6_row_44 : decode cX6_row 44 = .ok (.ireturn, 1) := by decide +kernel
theorem dX6_row_45 : decode cX6_row 45 = .ok (.iload_n 3, 1) := by decide +kernel
theorem dX6_row_46 : decode cX6_row 46 = .ok (.sipush 160, 3) := by decide +kernel
theorem dX6_row_49 : decode cX6_row 49 = .ok (.if_icmp .le 10, 3) := by decide +kernel
theorem dX6_row_52 : decode cX6_row 52 = .ok (.aload_n 0, 1) := by decide +kernel
theorem dX6_row_53 : decode cX6_row 53 = .ok (.bipush (-7), 2) := by decide +kernel
theorem dX6_row_55 : decode cX6_row 55 = .ok (.invokevirtual 64, 3) := by decide +kernel
theorem dX6_row_58 : decode cX6_row 58 = .ok (.ireturn, 1) := by decide +kernel
theorem dX6_row_59 : decode cX6_row 59 = .ok (.aload 4, 2) := by decide +kernel
theorem dX6_row_61 : decode cX6_row 61 = .ok (.iload_n 2, 1) := by decide +kernel
theorem dX6_row_62 : decode cX6_row 62 = .ok (.iload_n 3, 1) := by decide +kernel
theorem dX6_row_63 : decode cX6_row 63 = .ok (.invokevirtual 68, 3) := by decide +kernel
theorem dX6_row_66 : decode cX6_row 66 = .ok (.iconst 1, 1) := by decide +kernel
theorem dX6_row_67 : decode cX6_row 67 = .ok (.ireturn, 1) := by decide +kernel
theorem dX6_set_0 : decode cX6_set 0 = .ok (.aload_n 0, 1) := by decide +kernel
theorem dX6_set_1 : decode cX6_set 1 = .ok (.iload_n 1, 1) := by decide +kernel
theorem dX6_set_2 : decode cX6_set 2 = .ok (.invokevirtual 60, 3) := by decide +kernel
theorem dX6_set_5 : decode cX6_set 5 = .ok (.astore 5, 2) := by decide +kernel
theorem dX6_set_7 : decode cX6_set 7 = .ok (.aload 5, 2) := by decide +kernel
theorem dX6_set_9 : decode cX6_set 9 = .ok (.ifnull 11, 3) := by decide +kernel
theorem dX6_set_12 : decode cX6_set 12 = .ok (.aload 5, 2) := by decide +kernel
theorem dX6_set_14 : decode cX6_set 14 = .ok (.invokevirtual 72, 3) := by decide +kernel
theorem dX6_set_17 : decode cX6_set 17 = .ok (.ifCond .ne 13, 3) := by decide +kernel
theorem dX6_set_20 : decode cX6_set 20 = .ok (.aload_n 0, 1) := by decide +kernel
theorem dX6_set_21 : decode cX6_set 21 = .ok (.aload 5, 2) := by decide +kernel
theorem dX6_set_23 : decode cX6_set 23 = .ok (.invokestatic 76, 3) := by decide +kernel
theorem dX6_set_26 : decode cX6_set 26 = .ok (.invokevirtual 64, 3) := by decide +kernel
theorem dX6_set_29 : decode cX6_set 29 = .ok (.ireturn, 1) := by decide +kernel
theorem dX6_set_30 : decode cX6_set 30 = .ok (.iload_n 2, 1) := by decide +kernel
theorem dX6_set_31 : decode cX6_set 31 = .ok (.ifCond .lt 12, 3) := by decide +kernel
theorem dX6_set_34 : decode cX6_set 34 = .ok (.iload_n 2, 1) := by decide +kernel
theorem dX6_set_35 : decode cX6_set 35 = .ok (.aload 5, 2) := by decide +kernel
theorem dX6_set_37 : decode cX6_set 37 = .ok (.getfield 80, 3) := by decide +kernel
theorem dX6_set_40 : decode cX6_set 40 = .ok (.if_icmp .lt 10, 3) := by decide +kernel
theorem dX6_set_43 : decode cX6_set 43 = .ok (.aload_n 0, 1) := by decide +kernel
theorem dX6_set_44 : decode cX6_set 44 = .ok (.bipush (-5), 2) := by decide +kernel
theorem dX6_set_46 : decode cX6_set 46 = .ok (.invokevirtual 64, 3) := by decide +kernel
theorem dX6_set_49 : decode cX6_set 49 = .ok (.ireturn, 1) := by decide +kernel
theorem dX6_set_50 : decode cX6_set 50 = .ok (.aload 5, 2) := by decide +kernel
theorem dX6_set_52 : decode cX6_set 52 = .ok (.iload_n 2, 1) := by decide +kernel
theorem dX6_set_53 : decode cX6_set 53 = .ok (.lload_n 3, 1) := by decide +kernel
theorem dX6_set_54 : decode cX6_set 54 = .ok (.invokevirtual 84, 3) := by decide +kernel
theorem dX6_set_57 : decode cX6_set 57 = .ok (.iconst 1, 1) := by decide +kernel
theorem dX6_set_58 : decode cX6_set 58 = .ok (.ireturn, 1) := by decide +kernel
theorem dX6_element_0 : decode cX6_element 0 = .ok (.aload_n 0, 1) := by decide +kernel
theorem dX6_element_1 : decode cX6_element 1 = .ok (.iload_n 1, 1) := by decide +kernel
theorem dX6_element_2 : decode cX6_element 2 = .ok (.invokevirtual 60, 3) := by decide +kernel
theorem dX6_element_5 : decode cX6_element 5 = .ok (.astore_n 3, 1) := by decide +kernel
theorem dX6_element_6 : decode cX6_element 6 = .ok (.aload_n 3, 1) := by decide +kernel
theorem dX6_element_7 : decode cX6_element 7 = .ok (.ifnonnull 7, 3) := by decide +kernel
theorem dX6_element_10 : decode cX6_element 10 = .ok (.lconst 0, 1) := by decide +kernel
theorem dX6_element_11 : decode cX6_element 11 = .ok (.goto 8, 3) := by decide +kernel
theorem dX6_element_14 : decode cX6_element 14 = .ok (.aload_n 3, 1) := by decide +kernel
theorem dX6_element_15 : decode cX6_element 15 = .ok (.iload_n 2, 1) := by decide +kernel
theorem dX6_element_16 : decode cX6_element 16 = .ok (.invokevirtual 98, 3) := by decide +kernel
theorem dX6_element_19 : decode cX6_element 19 = .ok (.lreturn, 1) := by decide +kernel
theorem dX6_show_0 : decode cX6_show 0 = .ok (.aload_n 0, 1) := by decide +kernel
theorem dX6_show_1 : decode cX6_show 1 = .ok (.iload_n 1, 1) := by decide +kernel
theorem dX6_show_2 : decode cX6_show 2 = .ok (.invokevirtual 60, 3) := by decide +kernel
theorem dX6_show_5 : decode cX6_show 5 = .ok (.astore_n 3, 1) := by decide +kernel
theorem dX6_show_6 : decode cX6_show 6 = .ok (.aload_n 3, 1) := by decide +kernel
theorem dX6_show_7 : decode cX6_show 7 = .ok (.ifnull 19, 3) := by decide +kernel
theorem dX6_show_10 : decode cX6_show 10 = .ok (.iload_n 2, 1) := by decide +kernel
theorem dX6_show_11 : decode cX6_show 11 = .ok (.iconst (-1), 1) := by decide +kernel
theorem dX6_show_12 : decode cX6_show 12 = .ok (.if_icmp .eq 20, 3) := by decide +kernel
theorem dX6_show_15 : decode cX6_show 15 = .ok (.aload_n 0, 1) := by decide +kernel
theorem dX6_show_16 : decode cX6_show 16 = .ok (.getfield 10, 3) := by decide +kernel
theorem dX6_show_19 : decode cX6_show 19 = .ok (.iload_n 2, 1) := by decide +kernel
theorem dX6_show_20 : decode cX6_show 20 = .ok (.invokevirtual 102, 3) := by decide +kernel
theorem dX6_show_23 : decode cX6_show 23 = .ok (.ifnonnull 9, 3) := by decide +kernel
theorem dX6_show_26 : decode cX6_show 26 = .ok (.aload_n 0, 1) := by decide +kernel
theorem dX6_show_27 : decode cX6_show 27 = .ok (.iconst (-1), 1) := by decide +kernel
theorem dX6_show_28 : decode cX6_show 28 = .ok (.invokevirtual 64, 3) := by decide +kernel
theorem dX6_show_31 : decode cX6_show 31 = .ok (.ireturn, 1) := by decide +kernel
theorem dX6_show_32 : decode cX6_show 32 = .ok (.iload_n 2, 1) := by decide +kernel
theorem dX6_show_33 : decode cX6_show 33 = .ok (.iconst (-1), 1) := by decide +kernel
theorem dX6_show_34 : decode cX6_show 34 = .ok (.if_icmp .ne 9, 3) := by decide +kernel
theorem dX6_show_37 : decode cX6_show 37 = .ok (.aload_n 3, 1) := by decide +kernel
theorem dX6_show_38 : decode cX6_show 38 = .ok (.invokevirtual 106, 3) := by decide +kernel
theorem dX6_show_41 : decode cX6_show 41 = .ok (.iconst 0, 1) := by decide +kernel
theorem dX6_show_42 : decode cX6_show 42 = .ok (.ireturn, 1) := by decide +kernel
theorem dX6_show_43 : decode cX6_show 43 = .ok (.aload_n 3, 1) := by decide +kernel
theorem dX6_show_44 : decode cX6_show 44 = .ok (.iload_n 2, 1) := by decide +kernel
theorem dX6_show_45 : decode cX6_show 45 = .ok (.invokevirtual 109, 3) := by decide +kernel
theorem dX6_show_48 : decode cX6_show 48 = .ok (.iconst 1, 1) := by decide +kernel
theorem dX6_show_49 : decode cX6_show 49 = .ok (.ireturn, 1) := by decide +kernel
theorem dX6_holds_0 : decode cX6_holds 0 = .ok (.aload_n 0, 1) := by decide +kernel
theorem dX6_holds_1 : decode cX6_holds 1 = .ok (.iload_n 1, 1) := by decide +kernel
theorem dX6_holds_2 : decode cX6_holds 2 = .ok (.invokevirtual 60, 3) := by decide +kernel
theorem dX6_holds_5 : decode cX6_holds 5 = .ok (.astore_n 2, 1) := by decide +kernel
theorem dX6_holds_6 : decode cX6_holds 6 = .ok (.aload_n 2, 1) := by decide +kernel
theorem dX6_holds_7 : decode cX6_holds 7 = .ok (.ifnonnull 7, 3) := by decide +kernel
theorem dX6_holds_10 : decode cX6_holds 10 = .ok (.iconst (-1), 1) := by decide +kernel
theorem dX6_holds_11 : decode cX6_holds 11 = .ok (.goto 7, 3) := by decide +kernel
theorem dX6_holds_14 : decode cX6_holds 14 = .ok (.aload_n 2, 1) := by decide +kernel
theorem dX6_holds_15 : decode cX6_holds 15 = .ok (.invokevirtual 113, 3) := by decide +kernel
theorem dX6_holds_18 : decode cX6_holds 18 = .ok (.ireturn, 1) := by decide +kernel
theorem dX6_shelfAt_0 : decode cX6_shelfAt 0 = .ok (.iload_n 1, 1) := by decide +kernel
theorem dX6_shelfAt_1 : decode cX6_shelfAt 1 = .ok (.ifCond .lt 21, 3) := by decide +kernel
theorem dX6_shelfAt_4 : decode cX6_shelfAt 4 = .ok (.iload_n 1, 1) := by decide +kernel
theorem dX6_shelfAt_5 : decode cX6_shelfAt 5 = .ok (.aload_n 0, 1) := by decide +kernel
theorem dX6_shelfAt_6 : decode cX6_shelfAt 6 = .ok (.getfield 33, 3) := by decide +kernel
theorem dX6_shelfAt_9 : decode cX6_shelfAt 9 = .ok (.arraylength, 1) := by decide +kernel
theorem dX6_shelfAt_10 : decode cX6_shelfAt 10 = .ok (.if_icmp .ge 12, 3) := by decide +kernel
theorem dX6_shelfAt_13 : decode cX6_shelfAt 13 = .ok (.aload_n 0, 1) := by decide +kernel
theorem dX6_shelfAt_14 : decode cX6_shelfAt 14 = .ok (.getfield 33, 3) := by decide +kernel
theorem dX6_shelfAt_17 : decode cX6_shelfAt 17 = .ok (.iload_n 1, 1) := by decide +kernel
theorem dX6_shelfAt_18 : decode cX6_shelfAt 18 = .ok (.aaload, 1) := by decide +kernel
theorem dX6_shelfAt_19 : decode cX6_shelfAt 19 = .ok (.goto 4, 3) := by decide +kernel
theorem dX6_shelfAt_22 : decode cX6_shelfAt 22 = .ok (.aconst_null, 1) := by decide +kernel
theorem dX6_shelfAt_23 : decode cX6_shelfAt 23 = .ok (.areturn, 1) := by decide +kernel
theorem dX6_lackOfRow_0 : decode cX6_lackOfRow 0 = .ok (.aload_n 0, 1) := by decide +kernel
theorem dX6_lackOfRow_1 : decode cX6_lackOfRow 1 = .ok (.ifnonnull 5, 3) := by decide +kernel
theorem dX6_lackOfRow_4 : decode cX6_lackOfRow 4 = .ok (.iconst (-1), 1) := by decide +kernel
theorem dX6_lackOfRow_5 : decode cX6_lackOfRow 5 = .ok (.ireturn, 1) := by decide +kernel
theorem dX6_lackOfRow_6 : decode cX6_lackOfRow 6 = .ok (.aload_n 0, 1) := by decide +kernel
theorem dX6_lackOfRow_7 : decode cX6_lackOfRow 7 = .ok (.invokevirtual 88, 3) := by decide +kernel
theorem dX6_lackOfRow_10 : decode cX6_lackOfRow 10 = .ok (.ifCond .eq 8, 3) := by decide +kernel
theorem dX6_lackOfRow_13 : decode cX6_lackOfRow 13 = .ok (.bipush (-2), 2) := by decide +kernel
theorem dX6_lackOfRow_15 : decode cX6_lackOfRow 15 = .ok (.goto 5, 3) := by decide +kernel
theorem dX6_lackOfRow_18 : decode cX6_lackOfRow 18 = .ok (.bipush (-3), 2) := by decide +kernel
theorem dX6_lackOfRow_20 : decode cX6_lackOfRow 20 = .ok (.ireturn, 1) := by decide +kernel
theorem dX6_refuse_0 : decode cX6_refuse 0 = .ok (.iload_n 1, 1) := by decide +kernel
theorem dX6_refuse_1 : decode cX6_refuse 1 = .ok (.ineg, 1) := by decide +kernel
theorem dX6_refuse_2 : decode cX6_refuse 2 = .ok (.istore_n 2, 1) := by decide +kernel
theorem dX6_refuse_3 : decode cX6_refuse 3 = .ok (.iload_n 2, 1) := by decide +kernel
theorem dX6_refuse_4 : decode cX6_refuse 4 = .ok (.ifCond .lt 22, 3) := by decide +kernel
theorem dX6_refuse_7 : decode cX6_refuse 7 = .ok (.iload_n 2, 1) := by decide +kernel
theorem dX6_refuse_8 : decode cX6_refuse 8 = .ok (.aload_n 0, 1) := by decide +kernel
theorem dX6_refuse_9 : decode cX6_refuse 9 = .ok (.getfield 52, 3) := by decide +kernel
theorem dX6_refuse_12 : decode cX6_refuse 12 = .ok (.arraylength, 1) := by decide +kernel
theorem dX6_refuse_13 : decode cX6_refuse 13 = .ok (.if_icmp .ge 13, 3) := by decide +kernel
theorem dX6_refuse_16 : decode cX6_refuse 16 = .ok (.aload_n 0, 1) := by decide +kernel
theorem dX6_refuse_17 : decode cX6_refuse 17 = .ok (.getfield 52, 3) := by decide +kernel
theorem dX6_refuse_20 : decode cX6_refuse 20 = .ok (.iload_n 2, 1) := by decide +kernel
theorem dX6_refuse_21 : decode cX6_refuse 21 = .ok (.dup2, 1) := by decide +kernel
theorem dX6_refuse_22 : decode cX6_refuse 22 = .ok (.iaload, 1) := by decide +kernel
theorem dX6_refuse_23 : decode cX6_refuse 23 = .ok (.iconst 1, 1) := by decide +kernel
theorem dX6_refuse_24 : decode cX6_refuse 24 = .ok (.iadd, 1) := by decide +kernel
theorem dX6_refuse_25 : decode cX6_refuse 25 = .ok (.iastore, 1) := by decide +kernel
theorem dX6_refuse_26 : decode cX6_refuse 26 = .ok (.iload_n 1, 1) := by decide +kernel
theorem dX6_refuse_27 : decode cX6_refuse 27 = .ok (.ireturn, 1) := by decide +kernel
theorem dX6_refuseNobody_0 : decode cX6_refuseNobody 0 = .ok (.aload_n 0, 1) := by decide +kernel
theorem dX6_refuseNobody_1 : decode cX6_refuseNobody 1 = .ok (.iconst (-1), 1) := by decide +kernel
theorem dX6_refuseNobody_2 : decode cX6_refuseNobody 2 = .ok (.invokevirtual 64, 3) := by decide +kernel
theorem dX6_refuseNobody_5 : decode cX6_refuseNobody 5 = .ok (.pop, 1) := by decide +kernel
theorem dX6_refuseNobody_6 : decode cX6_refuseNobody 6 = .ok (.bipush (-11), 2) := by decide +kernel
theorem dX6_refuseNobody_8 : decode cX6_refuseNobody 8 = .ok (.ireturn, 1) := by decide +kernel
theorem dX6_refuseWrong_0 : decode cX6_refuseWrong 0 = .ok (.aload_n 0, 1) := by decide +kernel
theorem dX6_refuseWrong_1 : decode cX6_refuseWrong 1 = .ok (.bipush (-6), 2) := by decide +kernel
theorem dX6_refuseWrong_3 : decode cX6_refuseWrong 3 = .ok (.invokevirtual 64, 3) := by decide +kernel
theorem dX6_refuseWrong_6 : decode cX6_refuseWrong 6 = .ok (.pop, 1) := by decide +kernel
theorem dX6_refuseWrong_7 : decode cX6_refuseWrong 7 = .ok (.bipush (-16), 2) := by decide +kernel
theorem dX6_refuseWrong_9 : decode cX6_refuseWrong 9 = .ok (.ireturn, 1) := by decide +kernel
theorem dX6_isHour_0 : decode cX6_isHour 0 = .ok (.iload_n 0, 1) := by decide +kernel
theorem dX6_isHour_1 : decode cX6_isHour 1 = .ok (.ifCond .lt 13, 3) := by decide +kernel
theorem dX6_isHour_4 : decode cX6_isHour 4 = .ok (.iload_n 0, 1) := by decide +kernel
theorem dX6_isHour_5 : decode cX6_isHour 5 = .ok (.bipush 24, 2) := by decide +kernel
theorem dX6_isHour_7 : decode cX6_isHour 7 = .ok (.if_icmp .gt 7, 3) := by decide +kernel
theorem dX6_isHour_10 : decode cX6_isHour 10 = .ok (.iconst 1, 1) := by decide +kernel
theorem dX6_isHour_11 : decode cX6_isHour 11 = .ok (.goto 4, 3) := by decide +kernel
theorem dX6_isHour_14 : decode cX6_isHour 14 = .ok (.iconst 0, 1) := by decide +kernel
theorem dX6_isHour_15 : decode cX6_isHour 15 = .ok (.ireturn, 1) := by decide +kernel
theorem dX6_isCell_0 : decode cX6_isCell 0 = .ok (.iload_n 0, 1) := by decide +kernel
theorem dX6_isCell_1 : decode cX6_isCell 1 = .ok (.ifCond .lt 13, 3) := by decide +kernel
theorem dX6_isCell_4 : decode cX6_isCell 4 = .ok (.iload_n 0, 1) := by decide +kernel
theorem dX6_isCell_5 : decode cX6_isCell 5 = .ok (.bipush 16, 2) := by decide +kernel
theorem dX6_isCell_7 : decode cX6_isCell 7 = .ok (.if_icmp .ge 7, 3) := by decide +kernel
theorem dX6_isCell_10 : decode cX6_isCell 10 = .ok (.iconst 1, 1) := by decide +kernel
theorem dX6_isCell_11 : decode cX6_isCell 11 = .ok (.goto 4, 3) := by decide +kernel
theorem dX6_isCell_14 : decode cX6_isCell 14 = .ok (.iconst 0, 1) := by decide +kernel
theorem dX6_isCell_15 : decode cX6_isCell 15 = .ok (.ireturn, 1) := by decide +kernel
theorem dX6_isShape_0 : decode cX6_isShape 0 = .ok (.iload_n 0, 1) := by decide +kernel
theorem dX6_isShape_1 : decode cX6_isShape 1 = .ok (.ifCond .lt 13, 3) := by decide +kernel
theorem dX6_isShape_4 : decode cX6_isShape 4 = .ok (.iload_n 0, 1) := by decide +kernel
theorem dX6_isShape_5 : decode cX6_isShape 5 = .ok (.ldc 161, 2) := by decide +kernel
theorem dX6_isShape_7 : decode cX6_isShape 7 = .ok (.if_icmp .gt 7, 3) := by decide +kernel
theorem dX6_isShape_10 : decode cX6_isShape 10 = .ok (.iconst 1, 1) := by decide +kernel
theorem dX6_isShape_11 : decode cX6_isShape 11 = .ok (.goto 4, 3) := by decide +kernel
theorem dX6_isShape_14 : decode cX6_isShape 14 = .ok (.iconst 0, 1) := by decide +kernel
theorem dX6_isShape_15 : decode cX6_isShape 15 = .ok (.ireturn, 1) := by decide +kernel
theorem dX6_form_0 : decode cX6_form 0 = .ok (.iload_n 1, 1) := by decide +kernel
theorem dX6_form_1 : decode cX6_form 1 = .ok (.invokestatic 162, 3) := by decide +kernel
theorem dX6_form_4 : decode cX6_form 4 = .ok (.ifCond .ne 10, 3) := by decide +kernel
theorem dX6_form_7 : decode cX6_form 7 = .ok (.aload_n 0, 1) := by decide +kernel
theorem dX6_form_8 : decode cX6_form 8 = .ok (.bipush (-6), 2) := by decide +kernel
theorem dX6_form_10 : decode cX6_form 10 = .ok (.invokevirtual 64, 3) := by decide +kernel
theorem dX6_form_13 : decode cX6_form 13 = .ok (.ireturn, 1) := by decide +kernel
theorem dX6_form_14 : decode cX6_form 14 = .ok (.aload_n 0, 1) := by decide +kernel
theorem dX6_form_15 : decode cX6_form 15 = .ok (.getfield 10, 3) := by decide +kernel
theorem dX6_form_18 : decode cX6_form 18 = .ok (.invokevirtual 165, 3) := by decide +kernel
theorem dX6_form_21 : decode cX6_form 21 = .ok (.ifCond .ne 10, 3) := by decide +kernel
theorem dX6_form_24 : decode cX6_form 24 = .ok (.aload_n 0, 1) := by decide +kernel
theorem dX6_form_25 : decode cX6_form 25 = .ok (.bipush (-7), 2) := by decide +kernel
theorem dX6_form_27 : decode cX6_form 27 = .ok (.invokevirtual 64, 3) := by decide +kernel
theorem dX6_form_30 : decode cX6_form 30 = .ok (.ireturn, 1) := by decide +kernel
theorem dX6_form_31 : decode cX6_form 31 = .ok (.aload_n 0, 1) := by decide +kernel
theorem dX6_form_32 : decode cX6_form 32 = .ok (.getfield 10, 3) := by decide +kernel
theorem dX6_form_35 : decode cX6_form 35 = .ok (.iload_n 1, 1) := by decide +kernel
theorem dX6_form_36 : decode cX6_form 36 = .ok (.invokevirtual 168, 3) := by decide +kernel
theorem dX6_form_39 : decode cX6_form 39 = .ok (.ireturn, 1) := by decide +kernel
theorem dX6_formOf_0 : decode cX6_formOf 0 = .ok (.aload_n 0, 1) := by decide +kernel
theorem dX6_formOf_1 : decode cX6_formOf 1 = .ok (.getfield 10, 3) := by decide +kernel
theorem dX6_formOf_4 : decode cX6_formOf 4 = .ok (.iload_n 1, 1) := by decide +kernel
theorem dX6_formOf_5 : decode cX6_formOf 5 = .ok (.invokevirtual 171, 3) := by decide +kernel
theorem dX6_formOf_8 : decode cX6_formOf 8 = .ok (.ifCond .ne 9, 3) := by decide +kernel
theorem dX6_formOf_11 : decode cX6_formOf 11 = .ok (.aload_n 0, 1) := by decide +kernel
theorem dX6_formOf_12 : decode cX6_formOf 12 = .ok (.iconst (-1), 1) := by decide +kernel
theorem dX6_formOf_13 : decode cX6_formOf 13 = .ok (.invokevirtual 64, 3) := by decide +kernel
theorem dX6_formOf_16 : decode cX6_formOf 16 = .ok (.ireturn, 1) := by decide +kernel
theorem dX6_formOf_17 : decode cX6_formOf 17 = .ok (.aload_n 0, 1) := by decide +kernel
theorem dX6_formOf_18 : decode cX6_formOf 18 = .ok (.getfield 10, 3) := by decide +kernel
theorem dX6_formOf_21 : decode cX6_formOf 21 = .ok (.iload_n 1, 1) := by decide +kernel
theorem dX6_formOf_22 : decode cX6_formOf 22 = .ok (.invokevirtual 174, 3) := by decide +kernel
theorem dX6_formOf_25 : decode cX6_formOf 25 = .ok (.ireturn, 1) := by decide +kernel
theorem dX6_pane_0 : decode cX6_pane 0 = .ok (.iload_n 1, 1) := by decide +kernel
theorem dX6_pane_1 : decode cX6_pane 1 = .ok (.invokestatic 117, 3) := by decide +kernel
theorem dX6_pane_4 : decode cX6_pane 4 = .ok (.ifCond .ne 9, 3) := by decide +kernel
theorem dX6_pane_7 : decode cX6_pane 7 = .ok (.aload_n 0, 1) := by decide +kernel
theorem dX6_pane_8 : decode cX6_pane 8 = .ok (.iconst (-1), 1) := by decide +kernel
theorem dX6_pane_9 : decode cX6_pane 9 = .ok (.invokevirtual 64, 3) := by decide +kernel
theorem dX6_pane_12 : decode cX6_pane 12 = .ok (.ireturn, 1) := by decide +kernel
theorem dX6_pane_13 : decode cX6_pane 13 = .ok (.iload_n 2, 1) := by decide +kernel
theorem dX6_pane_14 : decode cX6_pane 14 = .ok (.ifCond .lt 19, 3) := by decide +kernel
theorem dX6_pane_17 : decode cX6_pane 17 = .ok (.iload_n 2, 1) := by decide +kernel
theorem dX6_pane_18 : decode cX6_pane 18 = .ok (.bipush 9, 2) := by decide +kernel
theorem dX6_pane_20 : decode cX6_pane 20 = .ok (.if_icmp .gt 13, 3) := by decide +kernel
theorem dX6_pane_23 : decode cX6_pane 23 = .ok (.iload_n 3, 1) := by decide +kernel
theorem dX6_pane_24 : decode cX6_pane 24 = .ok (.ifCond .lt 9, 3) := by decide +kernel
theorem dX6_pane_27 : decode cX6_pane 27 = .ok (.iload_n 3, 1) := by decide +kernel
theorem dX6_pane_28 : decode cX6_pane 28 = .ok (.bipush 9, 2) := by decide +kernel
theorem dX6_pane_30 : decode cX6_pane 30 = .ok (.if_icmp .le 10, 3) := by decide +kernel
theorem dX6_pane_33 : decode cX6_pane 33 = .ok (.aload_n 0, 1) := by decide +kernel
theorem dX6_pane_34 : decode cX6_pane 34 = .ok (.bipush (-6), 2) := by decide +kernel
theorem dX6_pane_36 : decode cX6_pane 36 = .ok (.invokevirtual 64, 3) := by decide +kernel
theorem dX6_pane_39 : decode cX6_pane 39 = .ok (.ireturn, 1) := by decide +kernel
theorem dX6_pane_40 : decode cX6_pane 40 = .ok (.aload_n 0, 1) := by decide +kernel
theorem dX6_pane_41 : decode cX6_pane 41 = .ok (.getfield 10, 3) := by decide +kernel
theorem dX6_pane_44 : decode cX6_pane 44 = .ok (.invokevirtual 177, 3) := by decide +kernel
theorem dX6_pane_47 : decode cX6_pane 47 = .ok (.ifCond .ne 10, 3) := by decide +kernel
theorem dX6_pane_50 : decode cX6_pane 50 = .ok (.aload_n 0, 1) := by decide +kernel
theorem dX6_pane_51 : decode cX6_pane 51 = .ok (.bipush (-7), 2) := by decide +kernel
theorem dX6_pane_53 : decode cX6_pane 53 = .ok (.invokevirtual 64, 3) := by decide +kernel
theorem dX6_pane_56 : decode cX6_pane 56 = .ok (.ireturn, 1) := by decide +kernel
theorem dX6_pane_57 : decode cX6_pane 57 = .ok (.aload_n 0, 1) := by decide +kernel
theorem dX6_pane_58 : decode cX6_pane 58 = .ok (.getfield 10, 3) := by decide +kernel
theorem dX6_pane_61 : decode cX6_pane 61 = .ok (.iload_n 1, 1) := by decide +kernel
theorem dX6_pane_62 : decode cX6_pane 62 = .ok (.iload_n 2, 1) := by decide +kernel
theorem dX6_pane_63 : decode cX6_pane 63 = .ok (.iload_n 3, 1) := by decide +kernel
theorem dX6_pane_64 : decode cX6_pane 64 = .ok (.invokevirtual 180, 3) := by decide +kernel
theorem dX6_pane_67 : decode cX6_pane 67 = .ok (.ireturn, 1) := by decide +kernel
theorem dX6_paneOf_0 : decode cX6_paneOf 0 = .ok (.aload_n 0, 1) := by decide +kernel
theorem dX6_paneOf_1 : decode cX6_paneOf 1 = .ok (.getfield 10, 3) := by decide +kernel
theorem dX6_paneOf_4 : decode cX6_paneOf 4 = .ok (.iload_n 1, 1) := by decide +kernel
theorem dX6_paneOf_5 : decode cX6_paneOf 5 = .ok (.invokevirtual 102, 3) := by decide +kernel
theorem dX6_paneOf_8 : decode cX6_paneOf 8 = .ok (.astore_n 3, 1) := by decide +kernel
theorem dX6_paneOf_9 : decode cX6_paneOf 9 = .ok (.aload_n 3, 1) := by decide +kernel
theorem dX6_paneOf_10 : decode cX6_paneOf 10 = .ok (.ifnonnull 10, 3) := by decide +kernel
theorem dX6_paneOf_13 : decode cX6_paneOf 13 = .ok (.aload_n 0, 1) := by decide +kernel
theorem dX6_paneOf_14 : decode cX6_paneOf 14 = .ok (.bipush (-5), 2) := by decide +kernel
theorem dX6_paneOf_16 : decode cX6_paneOf 16 = .ok (.invokevirtual 64, 3) := by decide +kernel
theorem dX6_paneOf_19 : decode cX6_paneOf 19 = .ok (.ireturn, 1) := by decide +kernel
theorem dX6_paneOf_20 : decode cX6_paneOf 20 = .ok (.iload_n 2, 1) := by decide +kernel
theorem dX6_paneOf_21 : decode cX6_paneOf 21 = .ok (.tableswitch 74 0 4 #[35, 40, 45, 50, 69], 35) := by decide +kernel
theorem dX6_paneOf_56 : decode cX6_paneOf 56 = .ok (.aload_n 3, 1) := by decide +kernel
theorem dX6_paneOf_57 : decode cX6_paneOf 57 = .ok (.getfield 184, 3) := by decide +kernel
theorem dX6_paneOf_60 : decode cX6_paneOf 60 = .ok (.ireturn, 1) := by decide +kernel
theorem dX6_paneOf_61 : decode cX6_paneOf 61 = .ok (.aload_n 3, 1) := by decide +kernel
theorem dX6_paneOf_62 : decode cX6_paneOf 62 = .ok (.getfield 142, 3) := by decide +kernel
theorem dX6_paneOf_65 : decode cX6_paneOf 65 = .ok (.ireturn, 1) := by decide +kernel
theorem dX6_paneOf_66 : decode cX6_paneOf 66 = .ok (.aload_n 3, 1) := by decide +kernel
theorem dX6_paneOf_67 : decode cX6_paneOf 67 = .ok (.getfield 133, 3) := by decide +kernel
theorem dX6_paneOf_70 : decode cX6_paneOf 70 = .ok (.ireturn, 1) := by decide +kernel
theorem dX6_paneOf_71 : decode cX6_paneOf 71 = .ok (.aload_n 3, 1) := by decide +kernel
theorem dX6_paneOf_72 : decode cX6_paneOf 72 = .ok (.aload_n 0, 1) := by decide +kernel
theorem dX6_paneOf_73 : decode cX6_paneOf 73 = .ok (.getfield 10, 3) := by decide +kernel
theorem dX6_paneOf_76 : decode cX6_paneOf 76 = .ok (.getfield 136, 3) := by decide +kernel
theorem dX6_paneOf_79 : decode cX6_paneOf 79 = .ok (.aload_n 0, 1) := by decide +kernel
theorem dX6_paneOf_80 : decode cX6_paneOf 80 = .ok (.getfield 10, 3) := by decide +kernel
theorem dX6_paneOf_83 : decode cX6_paneOf 83 = .ok (.getfield 155, 3) := by decide +kernel
theorem dX6_paneOf_86 : decode cX6_paneOf 86 = .ok (.invokevirtual 158, 3) := by decide +kernel
theorem dX6_paneOf_89 : decode cX6_paneOf 89 = .ok (.ireturn, 1) := by decide +kernel
theorem dX6_paneOf_90 : decode cX6_paneOf 90 = .ok (.aload_n 3, 1) := by decide +kernel
theorem dX6_paneOf_91 : decode cX6_paneOf 91 = .ok (.getfield 187, 3) := by decide +kernel
theorem dX6_paneOf_94 : decode cX6_paneOf 94 = .ok (.ireturn, 1) := by decide +kernel
theorem dX6_paneOf_95 : decode cX6_paneOf 95 = .ok (.aload_n 0, 1) := by decide +kernel
theorem dX6_paneOf_96 : decode cX6_paneOf 96 = .ok (.bipush (-5), 2) := by decide +kernel
theorem dX6_paneOf_98 : decode cX6_paneOf 98 = .ok (.invokevirtual 64, 3) := by decide +kernel
theorem dX6_paneOf_101 : decode cX6_paneOf 101 = .ok (.ireturn, 1) := by decide +kernel
theorem dX6_hang_0 : decode cX6_hang 0 = .ok (.aload_n 0, 1) := by decide +kernel
theorem dX6_hang_1 : decode cX6_hang 1 = .ok (.getfield 10, 3) := by decide +kernel
theorem dX6_hang_4 : decode cX6_hang 4 = .ok (.iload_n 1, 1) := by decide +kernel
theorem dX6_hang_5 : decode cX6_hang 5 = .ok (.invokevirtual 102, 3) := by decide +kernel
theorem dX6_hang_8 : decode cX6_hang 8 = .ok (.astore_n 3, 1) := by decide +kernel
theorem dX6_hang_9 : decode cX6_hang 9 = .ok (.aload_n 3, 1) := by decide +kernel
theorem dX6_hang_10 : decode cX6_hang 10 = .ok (.ifnull 14, 3) := by decide +kernel
theorem dX6_hang_13 : decode cX6_hang 13 = .ok (.aload_n 0, 1) := by decide +kernel
theorem dX6_hang_14 : decode cX6_hang 14 = .ok (.getfield 10, 3) := by decide +kernel
theorem dX6_hang_17 : decode cX6_hang 17 = .ok (.iload_n 2, 1) := by decide +kernel
theorem dX6_hang_18 : decode cX6_hang 18 = .ok (.invokevirtual 190, 3) := by decide +kernel
theorem dX6_hang_21 : decode cX6_hang 21 = .ok (.ifCond .ne 9, 3) := by decide +kernel
theorem dX6_hang_24 : decode cX6_hang 24 = .ok (.aload_n 0, 1) := by decide +kernel
theorem dX6_hang_25 : decode cX6_hang 25 = .ok (.iconst (-1), 1) := by decide +kernel
theorem dX6_hang_26 : decode cX6_hang 26 = .ok (.invokevirtual 64, 3) := by decide +kernel
theorem dX6_hang_29 : decode cX6_hang 29 = .ok (.ireturn, 1) := by decide +kernel
theorem dX6_hang_30 : decode cX6_hang 30 = .ok (.aload_n 3, 1) := by decide +kernel
theorem dX6_hang_31 : decode cX6_hang 31 = .ok (.iload_n 2, 1) := by decide +kernel
theorem dX6_hang_32 : decode cX6_hang 32 = .ok (.putfield 193, 3) := by decide +kernel
theorem dX6_hang_35 : decode cX6_hang 35 = .ok (.iload_n 2, 1) := by decide +kernel
theorem dX6_hang_36 : decode cX6_hang 36 = .ok (.iconst (-1), 1) := by decide +kernel
theorem dX6_hang_37 : decode cX6_hang 37 = .ok (.if_icmp .ne 7, 3) := by decide +kernel
theorem dX6_hang_40 : decode cX6_hang 40 = .ok (.iconst 0, 1) := by decide +kernel
theorem dX6_hang_41 : decode cX6_hang 41 = .ok (.goto 4, 3) := by decide +kernel
theorem dX6_hang_44 : decode cX6_hang 44 = .ok (.iconst 1, 1) := by decide +kernel
theorem dX6_hang_45 : decode cX6_hang 45 = .ok (.ireturn, 1) := by decide +kernel
theorem dX6_hangs_0 : decode cX6_hangs 0 = .ok (.aload_n 0, 1) := by decide +kernel
theorem dX6_hangs_1 : decode cX6_hangs 1 = .ok (.getfield 10, 3) := by decide +kernel
theorem dX6_hangs_4 : decode cX6_hangs 4 = .ok (.iload_n 1, 1) := by decide +kernel
theorem dX6_hangs_5 : decode cX6_hangs 5 = .ok (.invokevirtual 102, 3) := by decide +kernel
theorem dX6_hangs_8 : decode cX6_hangs 8 = .ok (.astore_n 2, 1) := by decide +kernel
theorem dX6_hangs_9 : decode cX6_hangs 9 = .ok (.aload_n 2, 1) := by decide +kernel
theorem dX6_hangs_10 : decode cX6_hangs 10 = .ok (.ifnonnull 10, 3) := by decide +kernel
theorem dX6_hangs_13 : decode cX6_hangs 13 = .ok (.aload_n 0, 1) := by decide +kernel
theorem dX6_hangs_14 : decode cX6_hangs 14 = .ok (.invokevirtual 196, 3) := by decide +kernel
theorem dX6_hangs_17 : decode cX6_hangs 17 = .ok (.goto 7, 3) := by decide +kernel
theorem dX6_hangs_20 : decode cX6_hangs 20 = .ok (.aload_n 2, 1) := by decide +kernel
theorem dX6_hangs_21 : decode cX6_hangs 21 = .ok (.getfield 193, 3) := by decide +kernel
theorem dX6_hangs_24 : decode cX6_hangs 24 = .ok (.ireturn, 1) := by decide +kernel
theorem dX6_ask_0 : decode cX6_ask 0 = .ok (.iload_n 1, 1) := by decide +kernel
theorem dX6_ask_1 : decode cX6_ask 1 = .ok (.iload_n 2, 1) := by decide +kernel
theorem dX6_ask_2 : decode cX6_ask 2 = .ok (.invokestatic 199, 3) := by decide +kernel
theorem dX6_ask_5 : decode cX6_ask 5 = .ok (.ifCond .ne 10, 3) := by decide +kernel
theorem dX6_ask_8 : decode cX6_ask 8 = .ok (.aload_n 0, 1) := by decide +kernel
theorem dX6_ask_9 : decode cX6_ask 9 = .ok (.bipush (-6), 2) := by decide +kernel
theorem dX6_ask_11 : decode cX6_ask 11 = .ok (.invokevirtual 64, 3) := by decide +kernel
theorem dX6_ask_14 : decode cX6_ask 14 = .ok (.ireturn, 1) := by decide +kernel
theorem dX6_ask_15 : decode cX6_ask 15 = .ok (.aload_n 0, 1) := by decide +kernel
theorem dX6_ask_16 : decode cX6_ask 16 = .ok (.getfield 10, 3) := by decide +kernel
theorem dX6_ask_19 : decode cX6_ask 19 = .ok (.iload_n 1, 1) := by decide +kernel
theorem dX6_ask_20 : decode cX6_ask 20 = .ok (.iload_n 2, 1) := by decide +kernel
theorem dX6_ask_21 : decode cX6_ask 21 = .ok (.invokevirtual 203, 3) := by decide +kernel
theorem dX6_ask_24 : decode cX6_ask 24 = .ok (.ireturn, 1) := by decide +kernel
theorem dX6_room_0 : decode cX6_room 0 = .ok (.aload_n 0, 1) := by decide +kernel
theorem dX6_room_1 : decode cX6_room 1 = .ok (.getfield 10, 3) := by decide +kernel
theorem dX6_room_4 : decode cX6_room 4 = .ok (.iload_n 1, 1) := by decide +kernel
theorem dX6_room_5 : decode cX6_room 5 = .ok (.invokevirtual 102, 3) := by decide +kernel
theorem dX6_room_8 : decode cX6_room 8 = .ok (.astore_n 3, 1) := by decide +kernel
theorem dX6_room_9 : decode cX6_room 9 = .ok (.aload_n 3, 1) := by decide +kernel
theorem dX6_room_10 : decode cX6_room 10 = .ok (.ifnonnull 9, 3) := by decide +kernel
theorem dX6_room_13 : decode cX6_room 13 = .ok (.aload_n 0, 1) := by decide +kernel
theorem dX6_room_14 : decode cX6_room 14 = .ok (.iconst (-1), 1) := by decide +kernel
theorem dX6_room_15 : decode cX6_room 15 = .ok (.invokevirtual 64, 3) := by decide +kernel
theorem dX6_room_18 : decode cX6_room 18 = .ok (.ireturn, 1) := by decide +kernel
theorem dX6_room_19 : decode cX6_room 19 = .ok (.iload_n 2, 1) := by decide +kernel
theorem dX6_room_20 : decode cX6_room 20 = .ok (.ifCond .lt 9, 3) := by decide +kernel
theorem dX6_room_23 : decode cX6_room 23 = .ok (.iload_n 2, 1) := by decide +kernel
theorem dX6_room_24 : decode cX6_room 24 = .ok (.bipush 9, 2) := by decide +kernel
theorem dX6_room_26 : decode cX6_room 26 = .ok (.if_icmp .le 10, 3) := by decide +kernel
theorem dX6_room_29 : decode cX6_room 29 = .ok (.aload_n 0, 1) := by decide +kernel
theorem dX6_room_30 : decode cX6_room 30 = .ok (.bipush (-6), 2) := by decide +kernel
theorem dX6_room_32 : decode cX6_room 32 = .ok (.invokevirtual 64, 3) := by decide +kernel
theorem dX6_room_35 : decode cX6_room 35 = .ok (.ireturn, 1) := by decide +kernel
theorem dX6_room_36 : decode cX6_room 36 = .ok (.aload_n 3, 1) := by decide +kernel
theorem dX6_room_37 : decode cX6_room 37 = .ok (.getfield 142, 3) := by decide +kernel
theorem dX6_room_40 : decode cX6_room 40 = .ok (.istore 4, 2) := by decide +kernel
theorem dX6_room_42 : decode cX6_room 42 = .ok (.aload_n 3, 1) := by decide +kernel
theorem dX6_room_43 : decode cX6_room 43 = .ok (.iload_n 2, 1) := by decide +kernel
theorem dX6_room_44 : decode cX6_room 44 = .ok (.putfield 142, 3) := by decide +kernel
theorem dX6_room_47 : decode cX6_room 47 = .ok (.iload 4, 2) := by decide +kernel
theorem dX6_room_49 : decode cX6_room 49 = .ok (.ireturn, 1) := by decide +kernel
theorem dX6_press_0 : decode cX6_press 0 = .ok (.aload_n 0, 1) := by decide +kernel
theorem dX6_press_1 : decode cX6_press 1 = .ok (.iload_n 1, 1) := by decide +kernel
theorem dX6_press_2 : decode cX6_press 2 = .ok (.invokevirtual 60, 3) := by decide +kernel
theorem dX6_press_5 : decode cX6_press 5 = .ok (.astore_n 2, 1) := by decide +kernel
theorem dX6_press_6 : decode cX6_press 6 = .ok (.aload_n 2, 1) := by decide +kernel
theorem dX6_press_7 : decode cX6_press 7 = .ok (.ifnull 10, 3) := by decide +kernel
theorem dX6_press_10 : decode cX6_press 10 = .ok (.aload_n 2, 1) := by decide +kernel
theorem dX6_press_11 : decode cX6_press 11 = .ok (.invokevirtual 72, 3) := by decide +kernel
theorem dX6_press_14 : decode cX6_press 14 = .ok (.ifCond .ne 12, 3) := by decide +kernel
theorem dX6_press_17 : decode cX6_press 17 = .ok (.aload_n 0, 1) := by decide +kernel
theorem dX6_press_18 : decode cX6_press 18 = .ok (.aload_n 2, 1) := by decide +kernel
theorem dX6_press_19 : decode cX6_press 19 = .ok (.invokestatic 76, 3) := by decide +kernel
theorem dX6_press_22 : decode cX6_press 22 = .ok (.invokevirtual 64, 3) := by decide +kernel
theorem dX6_press_25 : decode cX6_press 25 = .ok (.ireturn, 1) := by decide +kernel
theorem dX6_press_26 : decode cX6_press 26 = .ok (.aload_n 0, 1) := by decide +kernel
theorem dX6_press_27 : decode cX6_press 27 = .ok (.getfield 19, 3) := by decide +kernel
theorem dX6_press_30 : decode cX6_press 30 = .ok (.aload_n 0, 1) := by decide +kernel
theorem dX6_press_31 : decode cX6_press 31 = .ok (.getfield 10, 3) := by decide +kernel
theorem dX6_press_34 : decode cX6_press 34 = .ok (.invokevirtual 206, 3) := by decide +kernel
theorem dX6_press_37 : decode cX6_press 37 = .ok (.aload_n 0, 1) := by decide +kernel
theorem dX6_press_38 : decode cX6_press 38 = .ok (.getfield 41, 3) := by decide +kernel
theorem dX6_press_41 : decode cX6_press 41 = .ok (.aload_n 2, 1) := by decide +kernel
theorem dX6_press_42 : decode cX6_press 42 = .ok (.aload_n 0, 1) := by decide +kernel
theorem dX6_press_43 : decode cX6_press 43 = .ok (.getfield 19, 3) := by decide +kernel
theorem dX6_press_46 : decode cX6_press 46 = .ok (.invokevirtual 209, 3) := by decide +kernel
theorem dX6_press_49 : decode cX6_press 49 = .ok (.istore_n 3, 1) := by decide +kernel
theorem dX6_press_50 : decode cX6_press 50 = .ok (.iload_n 3, 1) := by decide +kernel
theorem dX6_press_51 : decode cX6_press 51 = .ok (.iconst (-1), 1) := by decide +kernel
theorem dX6_press_52 : decode cX6_press 52 = .ok (.if_icmp .ne 10, 3) := by decide +kernel
theorem dX6_press_55 : decode cX6_press 55 = .ok (.aload_n 0, 1) := by decide +kernel
theorem dX6_press_56 : decode cX6_press 56 = .ok (.bipush (-6), 2) := by decide +kernel
theorem dX6_press_58 : decode cX6_press 58 = .ok (.invokevirtual 64, 3) := by decide +kernel
theorem dX6_press_61 : decode cX6_press 61 = .ok (.ireturn, 1) := by decide +kernel
theorem dX6_press_62 : decode cX6_press 62 = .ok (.aload_n 0, 1) := by decide +kernel
theorem dX6_press_63 : decode cX6_press 63 = .ok (.getfield 10, 3) := by decide +kernel
theorem dX6_press_66 : decode cX6_press 66 = .ok (.aload_n 0, 1) := by decide +kernel
theorem dX6_press_67 : decode cX6_press 67 = .ok (.getfield 19, 3) := by decide +kernel
theorem dX6_press_70 : decode cX6_press 70 = .ok (.invokevirtual 206, 3) := by decide +kernel
theorem dX6_press_73 : decode cX6_press 73 = .ok (.iload_n 3, 1) := by decide +kernel
theorem dX6_press_74 : decode cX6_press 74 = .ok (.ireturn, 1) := by decide +kernel
theorem dX6_melt_0 : decode cX6_melt 0 = .ok (.aload_n 0, 1) := by decide +kernel
theorem dX6_melt_1 : decode cX6_melt 1 = .ok (.getfield 10, 3) := by decide +kernel
theorem dX6_melt_4 : decode cX6_melt 4 = .ok (.iload_n 1, 1) := by decide +kernel
theorem dX6_melt_5 : decode cX6_melt 5 = .ok (.invokevirtual 102, 3) := by decide +kernel
theorem dX6_melt_8 : decode cX6_melt 8 = .ok (.astore_n 3, 1) := by decide +kernel
theorem dX6_melt_9 : decode cX6_melt 9 = .ok (.aload_n 3, 1) := by decide +kernel
theorem dX6_melt_10 : decode cX6_melt 10 = .ok (.ifnonnull 9, 3) := by decide +kernel
theorem dX6_melt_13 : decode cX6_melt 13 = .ok (.aload_n 0, 1) := by decide +kernel
theorem dX6_melt_14 : decode cX6_melt 14 = .ok (.iconst (-1), 1) := by decide +kernel
theorem dX6_melt_15 : decode cX6_melt 15 = .ok (.invokevirtual 64, 3) := by decide +kernel
theorem dX6_melt_18 : decode cX6_melt 18 = .ok (.ireturn, 1) := by decide +kernel
theorem dX6_melt_19 : decode cX6_melt 19 = .ok (.iload_n 2, 1) := by decide +kernel
theorem dX6_melt_20 : decode cX6_melt 20 = .ok (.ifCond .lt 9, 3) := by decide +kernel
theorem dX6_melt_23 : decode cX6_melt 23 = .ok (.iload_n 2, 1) := by decide +kernel
theorem dX6_melt_24 : decode cX6_melt 24 = .ok (.bipush 24, 2) := by decide +kernel
theorem dX6_melt_26 : decode cX6_melt 26 = .ok (.if_icmp .lt 10, 3) := by decide +kernel
theorem dX6_melt_29 : decode cX6_melt 29 = .ok (.aload_n 0, 1) := by decide +kernel
theorem dX6_melt_30 : decode cX6_melt 30 = .ok (.bipush (-6), 2) := by decide +kernel
theorem dX6_melt_32 : decode cX6_melt 32 = .ok (.invokevirtual 64, 3) := by decide +kernel
theorem dX6_melt_35 : decode cX6_melt 35 = .ok (.ireturn, 1) := by decide +kernel
theorem dX6_melt_36 : decode cX6_melt 36 = .ok (.aload_n 3, 1) := by decide +kernel
theorem dX6_melt_37 : decode cX6_melt 37 = .ok (.iload_n 2, 1) := by decide +kernel
theorem dX6_melt_38 : decode cX6_melt 38 = .ok (.aload_n 0, 1) := by decide +kernel
theorem dX6_melt_39 : decode cX6_melt 39 = .ok (.getfield 10, 3) := by decide +kernel
theorem dX6_melt_42 : decode cX6_melt 42 = .ok (.getfield 145, 3) := by decide +kernel
theorem dX6_melt_45 : decode cX6_melt 45 = .ok (.invokevirtual 148, 3) := by decide +kernel
theorem dX6_melt_48 : decode cX6_melt 48 = .ok (.ireturn, 1) := by decide +kernel
theorem dX6_ice_0 : decode cX6_ice 0 = .ok (.aload_n 0, 1) := by decide +kernel
theorem dX6_ice_1 : decode cX6_ice 1 = .ok (.getfield 10, 3) := by decide +kernel
theorem dX6_ice_4 : decode cX6_ice 4 = .ok (.iload_n 1, 1) := by decide +kernel
theorem dX6_ice_5 : decode cX6_ice 5 = .ok (.invokevirtual 102, 3) := by decide +kernel
theorem dX6_ice_8 : decode cX6_ice 8 = .ok (.astore 5, 2) := by decide +kernel
theorem dX6_ice_10 : decode cX6_ice 10 = .ok (.aload 5, 2) := by decide +kernel
theorem dX6_ice_12 : decode cX6_ice 12 = .ok (.ifnull 14, 3) := by decide +kernel
theorem dX6_ice_15 : decode cX6_ice 15 = .ok (.aload_n 0, 1) := by decide +kernel
theorem dX6_ice_16 : decode cX6_ice 16 = .ok (.getfield 10, 3) := by decide +kernel
theorem dX6_ice_19 : decode cX6_ice 19 = .ok (.iload_n 2, 1) := by decide +kernel
theorem dX6_ice_20 : decode cX6_ice 20 = .ok (.invokevirtual 190, 3) := by decide +kernel
theorem dX6_ice_23 : decode cX6_ice 23 = .ok (.ifCond .ne 9, 3) := by decide +kernel
theorem dX6_ice_26 : decode cX6_ice 26 = .ok (.aload_n 0, 1) := by decide +kernel
theorem dX6_ice_27 : decode cX6_ice 27 = .ok (.iconst (-1), 1) := by decide +kernel
theorem dX6_ice_28 : decode cX6_ice 28 = .ok (.invokevirtual 64, 3) := by decide +kernel
theorem dX6_ice_31 : decode cX6_ice 31 = .ok (.ireturn, 1) := by decide +kernel
theorem dX6_ice_32 : decode cX6_ice 32 = .ok (.iload 4, 2) := by decide +kernel
theorem dX6_ice_34 : decode cX6_ice 34 = .ok (.invokestatic 216, 3) := by decide +kernel
theorem dX6_ice_37 : decode cX6_ice 37 = .ok (.ifCond .ne 10, 3) := by decide +kernel
theorem dX6_ice_40 : decode cX6_ice 40 = .ok (.aload_n 0, 1) := by decide +kernel
theorem dX6_ice_41 : decode cX6_ice 41 = .ok (.bipush (-5), 2) := by decide +kernel
theorem dX6_ice_43 : decode cX6_ice 43 = .ok (.invokevirtual 64, 3) := by decide +kernel
theorem dX6_ice_46 : decode cX6_ice 46 = .ok (.ireturn, 1) := by decide +kernel
theorem dX6_ice_47 : decode cX6_ice 47 = .ok (.iload_n 3, 1) := by decide +kernel
theorem dX6_ice_48 : decode cX6_ice 48 = .ok (.invokestatic 219, 3) := by decide +kernel
theorem dX6_ice_51 : decode cX6_ice 51 = .ok (.ifCond .ne 10, 3) := by decide +kernel
theorem dX6_ice_54 : decode cX6_ice 54 = .ok (.aload_n 0, 1) := by decide +kernel
theorem dX6_ice_55 : decode cX6_ice 55 = .ok (.bipush (-6), 2) := by decide +kernel
theorem dX6_ice_57 : decode cX6_ice 57 = .ok (.invokevirtual 64, 3) := by decide +kernel
theorem dX6_ice_60 : decode cX6_ice 60 = .ok (.ireturn, 1) := by decide +kernel
theorem dX6_ice_61 : decode cX6_ice 61 = .ok (.aload_n 0, 1) := by decide +kernel
theorem dX6_ice_62 : decode cX6_ice 62 = .ok (.getfield 27, 3) := by decide +kernel
theorem dX6_ice_65 : decode cX6_ice 65 = .ok (.aload 5, 2) := by decide +kernel
theorem dX6_ice_67 : decode cX6_ice 67 = .ok (.iload_n 2, 1) := by decide +kernel
theorem dX6_ice_68 : decode cX6_ice 68 = .ok (.iload_n 3, 1) := by decide +kernel
theorem dX6_ice_69 : decode cX6_ice 69 = .ok (.iload 4, 2) := by decide +kernel
theorem dX6_ice_71 : decode cX6_ice 71 = .ok (.invokevirtual 222, 3) := by decide +kernel
theorem dX6_ice_74 : decode cX6_ice 74 = .ok (.ireturn, 1) := by decide +kernel
theorem dX6_shape_0 : decode cX6_shape 0 = .ok (.aload_n 0, 1) := by decide +kernel
theorem dX6_shape_1 : decode cX6_shape 1 = .ok (.getfield 10, 3) := by decide +kernel
theorem dX6_shape_4 : decode cX6_shape 4 = .ok (.iload_n 1, 1) := by decide +kernel
theorem dX6_shape_5 : decode cX6_shape 5 = .ok (.invokevirtual 102, 3) := by decide +kernel
theorem dX6_shape_8 : decode cX6_shape 8 = .ok (.astore 4, 2) := by decide +kernel
theorem dX6_shape_10 : decode cX6_shape 10 = .ok (.aload 4, 2) := by decide +kernel
theorem dX6_shape_12 : decode cX6_shape 12 = .ok (.ifnull 14, 3) := by decide +kernel
theorem dX6_shape_15 : decode cX6_shape 15 = .ok (.aload_n 0, 1) := by decide +kernel
theorem dX6_shape_16 : decode cX6_shape 16 = .ok (.getfield 10, 3) := by decide +kernel
theorem dX6_shape_19 : decode cX6_shape 19 = .ok (.iload_n 2, 1) := by decide +kernel
theorem dX6_shape_20 : decode cX6_shape 20 = .ok (.invokevirtual 190, 3) := by decide +kernel
theorem dX6_shape_23 : decode cX6_shape 23 = .ok (.ifCond .ne 9, 3) := by decide +kernel
theorem dX6_shape_26 : decode cX6_shape 26 = .ok (.aload_n 0, 1) := by decide +kernel
theorem dX6_shape_27 : decode cX6_shape 27 = .ok (.iconst (-1), 1) := by decide +kernel
theorem dX6_shape_28 : decode cX6_shape 28 = .ok (.invokevirtual 64, 3) := by decide +kernel
theorem dX6_shape_31 : decode cX6_shape 31 = .ok (.ireturn, 1) := by decide +kernel
theorem dX6_shape_32 : decode cX6_shape 32 = .ok (.iload_n 3, 1) := by decide +kernel
theorem dX6_shape_33 : decode cX6_shape 33 = .ok (.invokestatic 219, 3) := by decide +kernel
theorem dX6_shape_36 : decode cX6_shape 36 = .ok (.ifCond .ne 10, 3) := by decide +kernel
theorem dX6_shape_39 : decode cX6_shape 39 = .ok (.aload_n 0, 1) := by decide +kernel
theorem dX6_shape_40 : decode cX6_shape 40 = .ok (.bipush (-6), 2) := by decide +kernel
theorem dX6_shape_42 : decode cX6_shape 42 = .ok (.invokevirtual 64, 3) := by decide +kernel
theorem dX6_shape_45 : decode cX6_shape 45 = .ok (.ireturn, 1) := by decide +kernel
theorem dX6_shape_46 : decode cX6_shape 46 = .ok (.aload_n 0, 1) := by decide +kernel
theorem dX6_shape_47 : decode cX6_shape 47 = .ok (.getfield 27, 3) := by decide +kernel
theorem dX6_shape_50 : decode cX6_shape 50 = .ok (.aload 4, 2) := by decide +kernel
theorem dX6_shape_52 : decode cX6_shape 52 = .ok (.iload_n 2, 1) := by decide +kernel
theorem dX6_shape_53 : decode cX6_shape 53 = .ok (.iload_n 3, 1) := by decide +kernel
theorem dX6_shape_54 : decode cX6_shape 54 = .ok (.invokevirtual 226, 3) := by decide +kernel
theorem dX6_shape_57 : decode cX6_shape 57 = .ok (.ireturn, 1) := by decide +kernel
theorem dX6_reads_0 : decode cX6_reads 0 = .ok (.iload_n 1, 1) := by decide +kernel
theorem dX6_reads_1 : decode cX6_reads 1 = .ok (.invokestatic 162, 3) := by decide +kernel
theorem dX6_reads_4 : decode cX6_reads 4 = .ok (.ifCond .ne 8, 3) := by decide +kernel
theorem dX6_reads_7 : decode cX6_reads 7 = .ok (.aload_n 0, 1) := by decide +kernel
theorem dX6_reads_8 : decode cX6_reads 8 = .ok (.invokevirtual 230, 3) := by decide +kernel
theorem dX6_reads_11 : decode cX6_reads 11 = .ok (.ireturn, 1) := by decide +kernel
theorem dX6_reads_12 : decode cX6_reads 12 = .ok (.aload_n 0, 1) := by decide +kernel
theorem dX6_reads_13 : decode cX6_reads 13 = .ok (.getfield 10, 3) := by decide +kernel
theorem dX6_reads_16 : decode cX6_reads 16 = .ok (.iload_n 1, 1) := by decide +kernel
theorem dX6_reads_17 : decode cX6_reads 17 = .ok (.invokevirtual 233, 3) := by decide +kernel
theorem dX6_reads_20 : decode cX6_reads 20 = .ok (.ireturn, 1) := by decide +kernel
theorem dX6_readsAs_0 : decode cX6_readsAs 0 = .ok (.aload_n 0, 1) := by decide +kernel
theorem dX6_readsAs_1 : decode cX6_readsAs 1 = .ok (.getfield 10, 3) := by decide +kernel
theorem dX6_readsAs_4 : decode cX6_readsAs 4 = .ok (.iload_n 1, 1) := by decide +kernel
theorem dX6_readsAs_5 : decode cX6_readsAs 5 = .ok (.invokevirtual 102, 3) := by decide +kernel
theorem dX6_readsAs_8 : decode cX6_readsAs 8 = .ok (.astore 4, 2) := by decide +kernel
theorem dX6_readsAs_10 : decode cX6_readsAs 10 = .ok (.aload 4, 2) := by decide +kernel
theorem dX6_readsAs_12 : decode cX6_readsAs 12 = .ok (.ifnull 14, 3) := by decide +kernel
theorem dX6_readsAs_15 : decode cX6_readsAs 15 = .ok (.aload_n 0, 1) := by decide +kernel
theorem dX6_readsAs_16 : decode cX6_readsAs 16 = .ok (.getfield 10, 3) := by decide +kernel
theorem dX6_readsAs_19 : decode cX6_readsAs 19 = .ok (.iload_n 2, 1) := by decide +kernel
theorem dX6_readsAs_20 : decode cX6_readsAs 20 = .ok (.invokevirtual 190, 3) := by decide +kernel
theorem dX6_readsAs_23 : decode cX6_readsAs 23 = .ok (.ifCond .ne 8, 3) := by decide +kernel
theorem dX6_readsAs_26 : decode cX6_readsAs 26 = .ok (.aload_n 0, 1) := by decide +kernel
theorem dX6_readsAs_27 : decode cX6_readsAs 27 = .ok (.invokevirtual 196, 3) := by decide +kernel
theorem dX6_readsAs_30 : decode cX6_readsAs 30 = .ok (.ireturn, 1) := by decide +kernel
theorem dX6_readsAs_31 : decode cX6_readsAs 31 = .ok (.iload_n 3, 1) := by decide +kernel
theorem dX6_readsAs_32 : decode cX6_readsAs 32 = .ok (.invokestatic 219, 3) := by decide +kernel
theorem dX6_readsAs_35 : decode cX6_readsAs 35 = .ok (.ifCond .ne 8, 3) := by decide +kernel
theorem dX6_readsAs_38 : decode cX6_readsAs 38 = .ok (.aload_n 0, 1) := by decide +kernel
theorem dX6_readsAs_39 : decode cX6_readsAs 39 = .ok (.invokevirtual 230, 3) := by decide +kernel
theorem dX6_readsAs_42 : decode cX6_readsAs 42 = .ok (.ireturn, 1) := by decide +kernel
theorem dX6_readsAs_43 : decode cX6_readsAs 43 = .ok (.aload_n 0, 1) := by decide +kernel
theorem dX6_readsAs_44 : decode cX6_readsAs 44 = .ok (.getfield 10, 3) := by decide +kernel
theorem dX6_readsAs_47 : decode cX6_readsAs 47 = .ok (.aload_n 0, 1) := by decide +kernel
theorem dX6_readsAs_48 : decode cX6_readsAs 48 = .ok (.getfield 27, 3) := by decide +kernel
theorem dX6_readsAs_51 : decode cX6_readsAs 51 = .ok (.aload 4, 2) := by decide +kernel
theorem dX6_readsAs_53 : decode cX6_readsAs 53 = .ok (.iload_n 2, 1) := by decide +kernel
theorem dX6_readsAs_54 : decode cX6_readsAs 54 = .ok (.iload_n 3, 1) := by decide +kernel
theorem dX6_readsAs_55 : decode cX6_readsAs 55 = .ok (.invokevirtual 226, 3) := by decide +kernel
theorem dX6_readsAs_58 : decode cX6_readsAs 58 = .ok (.invokevirtual 233, 3) := by decide +kernel
theorem dX6_readsAs_61 : decode cX6_readsAs 61 = .ok (.ireturn, 1) := by decide +kernel
theorem dX6_lasts_0 : decode cX6_lasts 0 = .ok (.aload_n 0, 1) := by decide +kernel
theorem dX6_lasts_1 : decode cX6_lasts 1 = .ok (.getfield 10, 3) := by decide +kernel
theorem dX6_lasts_4 : decode cX6_lasts 4 = .ok (.iload_n 1, 1) := by decide +kernel
theorem dX6_lasts_5 : decode cX6_lasts 5 = .ok (.invokevirtual 102, 3) := by decide +kernel
theorem dX6_lasts_8 : decode cX6_lasts 8 = .ok (.astore_n 3, 1) := by decide +kernel
theorem dX6_lasts_9 : decode cX6_lasts 9 = .ok (.aload_n 3, 1) := by decide +kernel
theorem dX6_lasts_10 : decode cX6_lasts 10 = .ok (.ifnull 14, 3) := by decide +kernel
theorem dX6_lasts_13 : decode cX6_lasts 13 = .ok (.aload_n 0, 1) := by decide +kernel
theorem dX6_lasts_14 : decode cX6_lasts 14 = .ok (.getfield 10, 3) := by decide +kernel
theorem dX6_lasts_17 : decode cX6_lasts 17 = .ok (.iload_n 2, 1) := by decide +kernel
theorem dX6_lasts_18 : decode cX6_lasts 18 = .ok (.invokevirtual 171, 3) := by decide +kernel
theorem dX6_lasts_21 : decode cX6_lasts 21 = .ok (.ifCond .ne 8, 3) := by decide +kernel
theorem dX6_lasts_24 : decode cX6_lasts 24 = .ok (.aload_n 0, 1) := by decide +kernel
theorem dX6_lasts_25 : decode cX6_lasts 25 = .ok (.invokevirtual 196, 3) := by decide +kernel
theorem dX6_lasts_28 : decode cX6_lasts 28 = .ok (.ireturn, 1) := by decide +kernel
theorem dX6_lasts_29 : decode cX6_lasts 29 = .ok (.aload_n 0, 1) := by decide +kernel
theorem dX6_lasts_30 : decode cX6_lasts 30 = .ok (.getfield 27, 3) := by decide +kernel
theorem dX6_lasts_33 : decode cX6_lasts 33 = .ok (.aload_n 3, 1) := by decide +kernel
theorem dX6_lasts_34 : decode cX6_lasts 34 = .ok (.iload_n 2, 1) := by decide +kernel
theorem dX6_lasts_35 : decode cX6_lasts 35 = .ok (.invokevirtual 236, 3) := by decide +kernel
theorem dX6_lasts_38 : decode cX6_lasts 38 = .ok (.ireturn, 1) := by decide +kernel
theorem dX6_page_0 : decode cX6_page 0 = .ok (.iload_n 1, 1) := by decide +kernel
theorem dX6_page_1 : decode cX6_page 1 = .ok (.invokestatic 219, 3) := by decide +kernel
theorem dX6_page_4 : decode cX6_page 4 = .ok (.ifCond .ne 10, 3) := by decide +kernel
theorem dX6_page_7 : decode cX6_page 7 = .ok (.aload_n 0, 1) := by decide +kernel
theorem dX6_page_8 : decode cX6_page 8 = .ok (.bipush (-6), 2) := by decide +kernel
theorem dX6_page_10 : decode cX6_page 10 = .ok (.invokevirtual 64, 3) := by decide +kernel
theorem dX6_page_13 : decode cX6_page 13 = .ok (.ireturn, 1) := by decide +kernel
theorem dX6_page_14 : decode cX6_page 14 = .ok (.aload_n 0, 1) := by decide +kernel
theorem dX6_page_15 : decode cX6_page 15 = .ok (.getfield 27, 3) := by decide +kernel
theorem dX6_page_18 : decode cX6_page 18 = .ok (.iload_n 1, 1) := by decide +kernel
theorem dX6_page_19 : decode cX6_page 19 = .ok (.invokevirtual 239, 3) := by decide +kernel
theorem dX6_page_22 : decode cX6_page 22 = .ok (.ireturn, 1) := by decide +kernel
theorem dX6_becomes_0 : decode cX6_becomes 0 = .ok (.aload_n 0, 1) := by decide +kernel
theorem dX6_becomes_1 : decode cX6_becomes 1 = .ok (.getfield 10, 3) := by decide +kernel
theorem dX6_becomes_4 : decode cX6_becomes 4 = .ok (.iload_n 1, 1) := by decide +kernel
theorem dX6_becomes_5 : decode cX6_becomes 5 = .ok (.invokevirtual 171, 3) := by decide +kernel
theorem dX6_becomes_8 : decode cX6_becomes 8 = .ok (.ifCond .ne 9, 3) := by decide +kernel
theorem dX6_becomes_11 : decode cX6_becomes 11 = .ok (.aload_n 0, 1) := by decide +kernel
theorem dX6_becomes_12 : decode cX6_becomes 12 = .ok (.iconst (-1), 1) := by decide +kernel
theorem dX6_becomes_13 : decode cX6_becomes 13 = .ok (.invokevirtual 64, 3) := by decide +kernel
theorem dX6_becomes_16 : decode cX6_becomes 16 = .ok (.ireturn, 1) := by decide +kernel
theorem dX6_becomes_17 : decode cX6_becomes 17 = .ok (.aload_n 0, 1) := by decide +kernel
theorem dX6_becomes_18 : decode cX6_becomes 18 = .ok (.getfield 27, 3) := by decide +kernel
theorem dX6_becomes_21 : decode cX6_becomes 21 = .ok (.iload_n 1, 1) := by decide +kernel
theorem dX6_becomes_22 : decode cX6_becomes 22 = .ok (.invokevirtual 266, 3) := by decide +kernel
theorem dX6_becomes_25 : decode cX6_becomes 25 = .ok (.ireturn, 1) := by decide +kernel
theorem dX6_turns_0 : decode cX6_turns 0 = .ok (.aload_n 0, 1) := by decide +kernel
theorem dX6_turns_1 : decode cX6_turns 1 = .ok (.getfield 10, 3) := by decide +kernel
theorem dX6_turns_4 : decode cX6_turns 4 = .ok (.iload_n 1, 1) := by decide +kernel
theorem dX6_turns_5 : decode cX6_turns 5 = .ok (.invokevirtual 102, 3) := by decide +kernel
theorem dX6_turns_8 : decode cX6_turns 8 = .ok (.astore 4, 2) := by decide +kernel
theorem dX6_turns_10 : decode cX6_turns 10 = .ok (.aload 4, 2) := by decide +kernel
theorem dX6_turns_12 : decode cX6_turns 12 = .ok (.ifnull 25, 3) := by decide +kernel
theorem dX6_turns_15 : decode cX6_turns 15 = .ok (.aload_n 0, 1) := by decide +kernel
theorem dX6_turns_16 : decode cX6_turns 16 = .ok (.getfield 10, 3) := by decide +kernel
theorem dX6_turns_19 : decode cX6_turns 19 = .ok (.iload_n 2, 1) := by decide +kernel
theorem dX6_turns_20 : decode cX6_turns 20 = .ok (.invokevirtual 171, 3) := by decide +kernel
theorem dX6_turns_23 : decode cX6_turns 23 = .ok (.ifCond .eq 14, 3) := by decide +kernel
theorem dX6_turns_26 : decode cX6_turns 26 = .ok (.aload_n 0, 1) := by decide +kernel
theorem dX6_turns_27 : decode cX6_turns 27 = .ok (.getfield 10, 3) := by decide +kernel
theorem dX6_turns_30 : decode cX6_turns 30 = .ok (.iload_n 3, 1) := by decide +kernel
theorem dX6_turns_31 : decode cX6_turns 31 = .ok (.invokevirtual 171, 3) := by decide +kernel
theorem dX6_turns_34 : decode cX6_turns 34 = .ok (.ifCond .ne 8, 3) := by decide +kernel
theorem dX6_turns_37 : decode cX6_turns 37 = .ok (.aload_n 0, 1) := by decide +kernel
theorem dX6_turns_38 : decode cX6_turns 38 = .ok (.invokevirtual 196, 3) := by decide +kernel
theorem dX6_turns_41 : decode cX6_turns 41 = .ok (.ireturn, 1) := by decide +kernel
theorem dX6_turns_42 : decode cX6_turns 42 = .ok (.aload_n 0, 1) := by decide +kernel
theorem dX6_turns_43 : decode cX6_turns 43 = .ok (.getfield 27, 3) := by decide +kernel
theorem dX6_turns_46 : decode cX6_turns 46 = .ok (.aload 4, 2) := by decide +kernel
theorem dX6_turns_48 : decode cX6_turns 48 = .ok (.iload_n 2, 1) := by decide +kernel
theorem dX6_turns_49 : decode cX6_turns 49 = .ok (.iload_n 3, 1) := by decide +kernel
theorem dX6_turns_50 : decode cX6_turns 50 = .ok (.invokevirtual 269, 3) := by decide +kernel
theorem dX6_turns_53 : decode cX6_turns 53 = .ok (.ireturn, 1) := by decide +kernel
theorem dX6_could_0 : decode cX6_could 0 = .ok (.aload_n 0, 1) := by decide +kernel
theorem dX6_could_1 : decode cX6_could 1 = .ok (.getfield 10, 3) := by decide +kernel
theorem dX6_could_4 : decode cX6_could 4 = .ok (.iload_n 1, 1) := by decide +kernel
theorem dX6_could_5 : decode cX6_could 5 = .ok (.invokevirtual 102, 3) := by decide +kernel
theorem dX6_could_8 : decode cX6_could 8 = .ok (.astore 4, 2) := by decide +kernel
theorem dX6_could_10 : decode cX6_could 10 = .ok (.aload 4, 2) := by decide +kernel
theorem dX6_could_12 : decode cX6_could 12 = .ok (.ifnonnull 9, 3) := by decide +kernel
theorem dX6_could_15 : decode cX6_could 15 = .ok (.aload_n 0, 1) := by decide +kernel
theorem dX6_could_16 : decode cX6_could 16 = .ok (.iconst (-1), 1) := by decide +kernel
theorem dX6_could_17 : decode cX6_could 17 = .ok (.invokevirtual 64, 3) := by decide +kernel
theorem dX6_could_20 : decode cX6_could 20 = .ok (.ireturn, 1) := by decide +kernel
theorem dX6_could_21 : decode cX6_could 21 = .ok (.iload_n 2, 1) := by decide +kernel
theorem dX6_could_22 : decode cX6_could 22 = .ok (.invokestatic 162, 3) := by decide +kernel
theorem dX6_could_25 : decode cX6_could 25 = .ok (.ifCond .eq 10, 3) := by decide +kernel
theorem dX6_could_28 : decode cX6_could 28 = .ok (.iload_n 3, 1) := by decide +kernel
theorem dX6_could_29 : decode cX6_could 29 = .ok (.invokestatic 219, 3) := by decide +kernel
theorem dX6_could_32 : decode cX6_could 32 = .ok (.ifCond .ne 10, 3) := by decide +kernel
theorem dX6_could_35 : decode cX6_could 35 = .ok (.aload_n 0, 1) := by decide +kernel
theorem dX6_could_36 : decode cX6_could 36 = .ok (.bipush (-6), 2) := by decide +kernel
theorem dX6_could_38 : decode cX6_could 38 = .ok (.invokevirtual 64, 3) := by decide +kernel
theorem dX6_could_41 : decode cX6_could 41 = .ok (.ireturn, 1) := by decide +kernel
theorem dX6_could_42 : decode cX6_could 42 = .ok (.aload_n 0, 1) := by decide +kernel
theorem dX6_could_43 : decode cX6_could 43 = .ok (.getfield 27, 3) := by decide +kernel
theorem dX6_could_46 : decode cX6_could 46 = .ok (.aload 4, 2) := by decide +kernel
theorem dX6_could_48 : decode cX6_could 48 = .ok (.iload_n 2, 1) := by decide +kernel
theorem dX6_could_49 : decode cX6_could 49 = .ok (.iload_n 3, 1) := by decide +kernel
theorem dX6_could_50 : decode cX6_could 50 = .ok (.invokevirtual 272, 3) := by decide +kernel
theorem dX6_could_53 : decode cX6_could 53 = .ok (.ireturn, 1) := by decide +kernel
theorem dX6_unlike_0 : decode cX6_unlike 0 = .ok (.aload_n 0, 1) := by decide +kernel
theorem dX6_unlike_1 : decode cX6_unlike 1 = .ok (.getfield 10, 3) := by decide +kernel
theorem dX6_unlike_4 : decode cX6_unlike 4 = .ok (.iload_n 1, 1) := by decide +kernel
theorem dX6_unlike_5 : decode cX6_unlike 5 = .ok (.invokevirtual 171, 3) := by decide +kernel
theorem dX6_unlike_8 : decode cX6_unlike 8 = .ok (.ifCond .eq 14, 3) := by decide +kernel
theorem dX6_unlike_11 : decode cX6_unlike 11 = .ok (.aload_n 0, 1) := by decide +kernel
theorem dX6_unlike_12 : decode cX6_unlike 12 = .ok (.getfield 10, 3) := by decide +kernel
theorem dX6_unlike_15 : decode cX6_unlike 15 = .ok (.iload_n 2, 1) := by decide +kernel
theorem dX6_unlike_16 : decode cX6_unlike 16 = .ok (.invokevirtual 171, 3) := by decide +kernel
theorem dX6_unlike_19 : decode cX6_unlike 19 = .ok (.ifCond .ne 9, 3) := by decide +kernel
theorem dX6_unlike_22 : decode cX6_unlike 22 = .ok (.aload_n 0, 1) := by decide +kernel
theorem dX6_unlike_23 : decode cX6_unlike 23 = .ok (.iconst (-1), 1) := by decide +kernel
theorem dX6_unlike_24 : decode cX6_unlike 24 = .ok (.invokevirtual 64, 3) := by decide +kernel
theorem dX6_unlike_27 : decode cX6_unlike 27 = .ok (.ireturn, 1) := by decide +kernel
theorem dX6_unlike_28 : decode cX6_unlike 28 = .ok (.aload_n 0, 1) := by decide +kernel
theorem dX6_unlike_29 : decode cX6_unlike 29 = .ok (.getfield 10, 3) := by decide +kernel
theorem dX6_unlike_32 : decode cX6_unlike 32 = .ok (.iload_n 1, 1) := by decide +kernel
theorem dX6_unlike_33 : decode cX6_unlike 33 = .ok (.iload_n 2, 1) := by decide +kernel
theorem dX6_unlike_34 : decode cX6_unlike 34 = .ok (.invokevirtual 275, 3) := by decide +kernel
theorem dX6_unlike_37 : decode cX6_unlike 37 = .ok (.ireturn, 1) := by decide +kernel
theorem dX6_closest_0 : decode cX6_closest 0 = .ok (.aload_n 0, 1) := by decide +kernel
theorem dX6_closest_1 : decode cX6_closest 1 = .ok (.getfield 10, 3) := by decide +kernel
theorem dX6_closest_4 : decode cX6_closest 4 = .ok (.getfield 278, 3) := by decide +kernel
theorem dX6_closest_7 : decode cX6_closest 7 = .ok (.iconst 2, 1) := by decide +kernel
theorem dX6_closest_8 : decode cX6_closest 8 = .ok (.if_icmp .ge 10, 3) := by decide +kernel
theorem dX6_closest_11 : decode cX6_closest 11 = .ok (.aload_n 0, 1) := by decide +kernel
theorem dX6_closest_12 : decode cX6_closest 12 = .ok (.bipush (-5), 2) := by decide +kernel
theorem dX6_closest_14 : decode cX6_closest 14 = .ok (.invokevirtual 64, 3) := by decide +kernel
theorem dX6_closest_17 : decode cX6_closest 17 = .ok (.ireturn, 1) := by decide +kernel
theorem dX6_closest_18 : decode cX6_closest 18 = .ok (.aload_n 0, 1) := by decide +kernel
theorem dX6_closest_19 : decode cX6_closest 19 = .ok (.getfield 10, 3) := by decide +kernel
theorem dX6_closest_22 : decode cX6_closest 22 = .ok (.invokevirtual 281, 3) := by decide +kernel
theorem dX6_closest_25 : decode cX6_closest 25 = .ok (.ireturn, 1) := by decide +kernel
theorem dX6_mend_0 : decode cX6_mend 0 = .ok (.aload_n 0, 1) := by decide +kernel
theorem dX6_mend_1 : decode cX6_mend 1 = .ok (.getfield 10, 3) := by decide +kernel
theorem dX6_mend_4 : decode cX6_mend 4 = .ok (.iload_n 1, 1) := by decide +kernel
theorem dX6_mend_5 : decode cX6_mend 5 = .ok (.invokevirtual 171, 3) := by decide +kernel
theorem dX6_mend_8 : decode cX6_mend 8 = .ok (.ifCond .ne 9, 3) := by decide +kernel
theorem dX6_mend_11 : decode cX6_mend 11 = .ok (.aload_n 0, 1) := by decide +kernel
theorem dX6_mend_12 : decode cX6_mend 12 = .ok (.iconst (-1), 1) := by decide +kernel
theorem dX6_mend_13 : decode cX6_mend 13 = .ok (.invokevirtual 64, 3) := by decide +kernel
theorem dX6_mend_16 : decode cX6_mend 16 = .ok (.ireturn, 1) := by decide +kernel
theorem dX6_mend_17 : decode cX6_mend 17 = .ok (.aload_n 0, 1) := by decide +kernel
theorem dX6_mend_18 : decode cX6_mend 18 = .ok (.getfield 10, 3) := by decide +kernel
theorem dX6_mend_21 : decode cX6_mend 21 = .ok (.getfield 278, 3) := by decide +kernel
theorem dX6_mend_24 : decode cX6_mend 24 = .ok (.iconst 2, 1) := by decide +kernel
theorem dX6_mend_25 : decode cX6_mend 25 = .ok (.if_icmp .ge 10, 3) := by decide +kernel
theorem dX6_mend_28 : decode cX6_mend 28 = .ok (.aload_n 0, 1) := by decide +kernel
theorem dX6_mend_29 : decode cX6_mend 29 = .ok (.bipush (-5), 2) := by decide +kernel
theorem dX6_mend_31 : decode cX6_mend 31 = .ok (.invokevirtual 64, 3) := by decide +kernel
theorem dX6_mend_34 : decode cX6_mend 34 = .ok (.ireturn, 1) := by decide +kernel
theorem dX6_mend_35 : decode cX6_mend 35 = .ok (.aload_n 0, 1) := by decide +kernel
theorem dX6_mend_36 : decode cX6_mend 36 = .ok (.getfield 10, 3) := by decide +kernel
theorem dX6_mend_39 : decode cX6_mend 39 = .ok (.iload_n 1, 1) := by decide +kernel
theorem dX6_mend_40 : decode cX6_mend 40 = .ok (.invokevirtual 284, 3) := by decide +kernel
theorem dX6_mend_43 : decode cX6_mend 43 = .ok (.ireturn, 1) := by decide +kernel
theorem dX6_stove_0 : decode cX6_stove 0 = .ok (.aload_n 0, 1) := by decide +kernel
theorem dX6_stove_1 : decode cX6_stove 1 = .ok (.getfield 10, 3) := by decide +kernel
theorem dX6_stove_4 : decode cX6_stove 4 = .ok (.iload_n 1, 1) := by decide +kernel
theorem dX6_stove_5 : decode cX6_stove 5 = .ok (.invokevirtual 102, 3) := by decide +kernel
theorem dX6_stove_8 : decode cX6_stove 8 = .ok (.astore 4, 2) := by decide +kernel
theorem dX6_stove_10 : decode cX6_stove 10 = .ok (.aload 4, 2) := by decide +kernel
theorem dX6_stove_12 : decode cX6_stove 12 = .ok (.ifnull 14, 3) := by decide +kernel
theorem dX6_stove_15 : decode cX6_stove 15 = .ok (.aload_n 0, 1) := by decide +kernel
theorem dX6_stove_16 : decode cX6_stove 16 = .ok (.getfield 10, 3) := by decide +kernel
theorem dX6_stove_19 : decode cX6_stove 19 = .ok (.iload_n 2, 1) := by decide +kernel
theorem dX6_stove_20 : decode cX6_stove 20 = .ok (.invokevirtual 171, 3) := by decide +kernel
theorem dX6_stove_23 : decode cX6_stove 23 = .ok (.ifCond .ne 8, 3) := by decide +kernel
theorem dX6_stove_26 : decode cX6_stove 26 = .ok (.aload_n 0, 1) := by decide +kernel
theorem dX6_stove_27 : decode cX6_stove 27 = .ok (.invokevirtual 196, 3) := by decide +kernel
theorem dX6_stove_30 : decode cX6_stove 30 = .ok (.ireturn, 1) := by decide +kernel
theorem dX6_stove_31 : decode cX6_stove 31 = .ok (.iload_n 3, 1) := by decide +kernel
theorem dX6_stove_32 : decode cX6_stove 32 = .ok (.invokestatic 219, 3) := by decide +kernel
theorem dX6_stove_35 : decode cX6_stove 35 = .ok (.ifCond .ne 8, 3) := by decide +kernel
theorem dX6_stove_38 : decode cX6_stove 38 = .ok (.aload_n 0, 1) := by decide +kernel
theorem dX6_stove_39 : decode cX6_stove 39 = .ok (.invokevirtual 230, 3) := by decide +kernel
theorem dX6_stove_42 : decode cX6_stove 42 = .ok (.ireturn, 1) := by decide +kernel
theorem dX6_stove_43 : decode cX6_stove 43 = .ok (.aload_n 0, 1) := by decide +kernel
theorem dX6_stove_44 : decode cX6_stove 44 = .ok (.getfield 27, 3) := by decide +kernel
theorem dX6_stove_47 : decode cX6_stove 47 = .ok (.aload 4, 2) := by decide +kernel
theorem dX6_stove_49 : decode cX6_stove 49 = .ok (.iload_n 2, 1) := by decide +kernel
theorem dX6_stove_50 : decode cX6_stove 50 = .ok (.iload_n 3, 1) := by decide +kernel
theorem dX6_stove_51 : decode cX6_stove 51 = .ok (.invokevirtual 287, 3) := by decide +kernel
theorem dX6_stove_54 : decode cX6_stove 54 = .ok (.ireturn, 1) := by decide +kernel
theorem dX6_chill_0 : decode cX6_chill 0 = .ok (.aload_n 0, 1) := by decide +kernel
theorem dX6_chill_1 : decode cX6_chill 1 = .ok (.getfield 10, 3) := by decide +kernel
theorem dX6_chill_4 : decode cX6_chill 4 = .ok (.iload_n 1, 1) := by decide +kernel
theorem dX6_chill_5 : decode cX6_chill 5 = .ok (.invokevirtual 102, 3) := by decide +kernel
theorem dX6_chill_8 : decode cX6_chill 8 = .ok (.astore 4, 2) := by decide +kernel
theorem dX6_chill_10 : decode cX6_chill 10 = .ok (.aload 4, 2) := by decide +kernel
theorem dX6_chill_12 : decode cX6_chill 12 = .ok (.ifnull 14, 3) := by decide +kernel
theorem dX6_chill_15 : decode cX6_chill 15 = .ok (.aload_n 0, 1) := by decide +kernel
theorem dX6_chill_16 : decode cX6_chill 16 = .ok (.getfield 10, 3) := by decide +kernel
theorem dX6_chill_19 : decode cX6_chill 19 = .ok (.iload_n 2, 1) := by decide +kernel
theorem dX6_chill_20 : decode cX6_chill 20 = .ok (.invokevirtual 171, 3) := by decide +kernel
theorem dX6_chill_23 : decode cX6_chill 23 = .ok (.ifCond .ne 8, 3) := by decide +kernel
theorem dX6_chill_26 : decode cX6_chill 26 = .ok (.aload_n 0, 1) := by decide +kernel
theorem dX6_chill_27 : decode cX6_chill 27 = .ok (.invokevirtual 196, 3) := by decide +kernel
theorem dX6_chill_30 : decode cX6_chill 30 = .ok (.ireturn, 1) := by decide +kernel
theorem dX6_chill_31 : decode cX6_chill 31 = .ok (.iload_n 3, 1) := by decide +kernel
theorem dX6_chill_32 : decode cX6_chill 32 = .ok (.invokestatic 219, 3) := by decide +kernel
theorem dX6_chill_35 : decode cX6_chill 35 = .ok (.ifCond .ne 8, 3) := by decide +kernel
theorem dX6_chill_38 : decode cX6_chill 38 = .ok (.aload_n 0, 1) := by decide +kernel
theorem dX6_chill_39 : decode cX6_chill 39 = .ok (.invokevirtual 230, 3) := by decide +kernel
theorem dX6_chill_42 : decode cX6_chill 42 = .ok (.ireturn, 1) := by decide +kernel
theorem dX6_chill_43 : decode cX6_chill 43 = .ok (.aload_n 0, 1) := by decide +kernel
theorem dX6_chill_44 : decode cX6_chill 44 = .ok (.getfield 27, 3) := by decide +kernel
theorem dX6_chill_47 : decode cX6_chill 47 = .ok (.aload 4, 2) := by decide +kernel
theorem dX6_chill_49 : decode cX6_chill 49 = .ok (.iload_n 2, 1) := by decide +kernel
theorem dX6_chill_50 : decode cX6_chill 50 = .ok (.iload_n 3, 1) := by decide +kernel
theorem dX6_chill_51 : decode cX6_chill 51 = .ok (.invokevirtual 290, 3) := by decide +kernel
theorem dX6_chill_54 : decode cX6_chill 54 = .ok (.ireturn, 1) := by decide +kernel
theorem dX6_mistaken_0 : decode cX6_mistaken 0 = .ok (.aload_n 0, 1) := by decide +kernel
theorem dX6_mistaken_1 : decode cX6_mistaken 1 = .ok (.getfield 27, 3) := by decide +kernel
theorem dX6_mistaken_4 : decode cX6_mistaken 4 = .ok (.invokevirtual 293, 3) := by decide +kernel
theorem dX6_mistaken_7 : decode cX6_mistaken 7 = .ok (.ireturn, 1) := by decide +kernel
theorem dX6_let_0 : decode cX6_let 0 = .ok (.aload_n 0, 1) := by decide +kernel
theorem dX6_let_1 : decode cX6_let 1 = .ok (.getfield 27, 3) := by decide +kernel
theorem dX6_let_4 : decode cX6_let 4 = .ok (.invokevirtual 296, 3) := by decide +kernel
theorem dX6_let_7 : decode cX6_let 7 = .ok (.ireturn, 1) := by decide +kernel
theorem dX6_night_0 : decode cX6_night 0 = .ok (.aload_n 0, 1) := by decide +kernel
theorem dX6_night_1 : decode cX6_night 1 = .ok (.getfield 10, 3) := by decide +kernel
theorem dX6_night_4 : decode cX6_night 4 = .ok (.invokevirtual 299, 3) := by decide +kernel
theorem dX6_night_7 : decode cX6_night 7 = .ok (.ireturn, 1) := by decide +kernel
theorem dX6_hours_0 : decode cX6_hours 0 = .ok (.iload_n 1, 1) := by decide +kernel
theorem dX6_hours_1 : decode cX6_hours 1 = .ok (.iconst 1, 1) := by decide +kernel
theorem dX6_hours_2 : decode cX6_hours 2 = .ok (.if_icmp .lt 9, 3) := by decide +kernel
theorem dX6_hours_5 : decode cX6_hours 5 = .ok (.iload_n 1, 1) := by decide +kernel
theorem dX6_hours_6 : decode cX6_hours 6 = .ok (.bipush 24, 2) := by decide +kernel
theorem dX6_hours_8 : decode cX6_hours 8 = .ok (.if_icmp .le 10, 3) := by decide +kernel
theorem dX6_hours_11 : decode cX6_hours 11 = .ok (.aload_n 0, 1) := by decide +kernel
theorem dX6_hours_12 : decode cX6_hours 12 = .ok (.bipush (-6), 2) := by decide +kernel
theorem dX6_hours_14 : decode cX6_hours 14 = .ok (.invokevirtual 64, 3) := by decide +kernel
theorem dX6_hours_17 : decode cX6_hours 17 = .ok (.ireturn, 1) := by decide +kernel
theorem dX6_hours_18 : decode cX6_hours 18 = .ok (.aload_n 0, 1) := by decide +kernel
theorem dX6_hours_19 : decode cX6_hours 19 = .ok (.getfield 10, 3) := by decide +kernel
theorem dX6_hours_22 : decode cX6_hours 22 = .ok (.getfield 302, 3) := by decide +kernel
theorem dX6_hours_25 : decode cX6_hours 25 = .ok (.bipush 24, 2) := by decide +kernel
theorem dX6_hours_27 : decode cX6_hours 27 = .ok (.iload_n 1, 1) := by decide +kernel
theorem dX6_hours_28 : decode cX6_hours 28 = .ok (.isub, 1) := by decide +kernel
theorem dX6_hours_29 : decode cX6_hours 29 = .ok (.if_icmp .le 10, 3) := by decide +kernel
theorem dX6_hours_32 : decode cX6_hours 32 = .ok (.aload_n 0, 1) := by decide +kernel
theorem dX6_hours_33 : decode cX6_hours 33 = .ok (.bipush (-7), 2) := by decide +kernel
theorem dX6_hours_35 : decode cX6_hours 35 = .ok (.invokevirtual 64, 3) := by decide +kernel
theorem dX6_hours_38 : decode cX6_hours 38 = .ok (.ireturn, 1) := by decide +kernel
theorem dX6_hours_39 : decode cX6_hours 39 = .ok (.aload_n 0, 1) := by decide +kernel
theorem dX6_hours_40 : decode cX6_hours 40 = .ok (.getfield 10, 3) := by decide +kernel
theorem dX6_hours_43 : decode cX6_hours 43 = .ok (.iload_n 1, 1) := by decide +kernel
theorem dX6_hours_44 : decode cX6_hours 44 = .ok (.invokevirtual 305, 3) := by decide +kernel
theorem dX6_hours_47 : decode cX6_hours 47 = .ok (.ireturn, 1) := by decide +kernel
theorem dX6_truth_0 : decode cX6_truth 0 = .ok (.aload_n 0, 1) := by decide +kernel
theorem dX6_truth_1 : decode cX6_truth 1 = .ok (.getfield 10, 3) := by decide +kernel
theorem dX6_truth_4 : decode cX6_truth 4 = .ok (.iload_n 1, 1) := by decide +kernel
theorem dX6_truth_5 : decode cX6_truth 5 = .ok (.invokevirtual 102, 3) := by decide +kernel
theorem dX6_truth_8 : decode cX6_truth 8 = .ok (.astore_n 3, 1) := by decide +kernel
theorem dX6_truth_9 : decode cX6_truth 9 = .ok (.aload_n 3, 1) := by decide +kernel
theorem dX6_truth_10 : decode cX6_truth 10 = .ok (.ifnonnull 9, 3) := by decide +kernel
theorem dX6_truth_13 : decode cX6_truth 13 = .ok (.aload_n 0, 1) := by decide +kernel
theorem dX6_truth_14 : decode cX6_truth 14 = .ok (.iconst (-1), 1) := by decide +kernel
theorem dX6_truth_15 : decode cX6_truth 15 = .ok (.invokevirtual 64, 3) := by decide +kernel
theorem dX6_truth_18 : decode cX6_truth 18 = .ok (.ireturn, 1) := by decide +kernel
theorem dX6_truth_19 : decode cX6_truth 19 = .ok (.iload_n 2, 1) := by decide +kernel
theorem dX6_truth_20 : decode cX6_truth 20 = .ok (.bipush 16, 2) := by decide +kernel
theorem dX6_truth_22 : decode cX6_truth 22 = .ok (.if_icmp .ne 8, 3) := by decide +kernel
theorem dX6_truth_25 : decode cX6_truth 25 = .ok (.aload_n 3, 1) := by decide +kernel
theorem dX6_truth_26 : decode cX6_truth 26 = .ok (.invokevirtual 308, 3) := by decide +kernel
theorem dX6_truth_29 : decode cX6_truth 29 = .ok (.ireturn, 1) := by decide +kernel
theorem dX6_truth_30 : decode cX6_truth 30 = .ok (.iload_n 2, 1) := by decide +kernel
theorem dX6_truth_31 : decode cX6_truth 31 = .ok (.invokestatic 216, 3) := by decide +kernel
theorem dX6_truth_34 : decode cX6_truth 34 = .ok (.ifCond .ne 10, 3) := by decide +kernel
theorem dX6_truth_37 : decode cX6_truth 37 = .ok (.aload_n 0, 1) := by decide +kernel
theorem dX6_truth_38 : decode cX6_truth 38 = .ok (.bipush (-5), 2) := by decide +kernel
theorem dX6_truth_40 : decode cX6_truth 40 = .ok (.invokevirtual 64, 3) := by decide +kernel
theorem dX6_truth_43 : decode cX6_truth 43 = .ok (.ireturn, 1) := by decide +kernel
theorem dX6_truth_44 : decode cX6_truth 44 = .ok (.aload_n 3, 1) := by decide +kernel
theorem dX6_truth_45 : decode cX6_truth 45 = .ok (.iload_n 2, 1) := by decide +kernel
theorem dX6_truth_46 : decode cX6_truth 46 = .ok (.invokevirtual 311, 3) := by decide +kernel
theorem dX6_truth_49 : decode cX6_truth 49 = .ok (.ireturn, 1) := by decide +kernel
theorem dX6_readOf_0 : decode cX6_readOf 0 = .ok (.aload_n 0, 1) := by decide +kernel
theorem dX6_readOf_1 : decode cX6_readOf 1 = .ok (.getfield 10, 3) := by decide +kernel
theorem dX6_readOf_4 : decode cX6_readOf 4 = .ok (.iload_n 1, 1) := by decide +kernel
theorem dX6_readOf_5 : decode cX6_readOf 5 = .ok (.invokevirtual 102, 3) := by decide +kernel
theorem dX6_readOf_8 : decode cX6_readOf 8 = .ok (.astore_n 2, 1) := by decide +kernel
theorem dX6_readOf_9 : decode cX6_readOf 9 = .ok (.aload_n 2, 1) := by decide +kernel
theorem dX6_readOf_10 : decode cX6_readOf 10 = .ok (.ifnonnull 10, 3) := by decide +kernel
theorem dX6_readOf_13 : decode cX6_readOf 13 = .ok (.aload_n 0, 1) := by decide +kernel
theorem dX6_readOf_14 : decode cX6_readOf 14 = .ok (.invokevirtual 196, 3) := by decide +kernel
theorem dX6_readOf_17 : decode cX6_readOf 17 = .ok (.goto 14, 3) := by decide +kernel
theorem dX6_readOf_20 : decode cX6_readOf 20 = .ok (.aload_n 0, 1) := by decide +kernel
theorem dX6_readOf_21 : decode cX6_readOf 21 = .ok (.getfield 10, 3) := by decide +kernel
theorem dX6_readOf_24 : decode cX6_readOf 24 = .ok (.aload_n 2, 1) := by decide +kernel
theorem dX6_readOf_25 : decode cX6_readOf 25 = .ok (.invokevirtual 308, 3) := by decide +kernel
theorem dX6_readOf_28 : decode cX6_readOf 28 = .ok (.invokevirtual 233, 3) := by decide +kernel
theorem dX6_readOf_31 : decode cX6_readOf 31 = .ok (.ireturn, 1) := by decide +kernel
theorem dX6_breath_0 : decode cX6_breath 0 = .ok (.aload_n 0, 1) := by decide +kernel
theorem dX6_breath_1 : decode cX6_breath 1 = .ok (.getfield 10, 3) := by decide +kernel
theorem dX6_breath_4 : decode cX6_breath 4 = .ok (.iload_n 1, 1) := by decide +kernel
theorem dX6_breath_5 : decode cX6_breath 5 = .ok (.invokevirtual 102, 3) := by decide +kernel
theorem dX6_breath_8 : decode cX6_breath 8 = .ok (.astore_n 3, 1) := by decide +kernel
theorem dX6_breath_9 : decode cX6_breath 9 = .ok (.aload_n 3, 1) := by decide +kernel
theorem dX6_breath_10 : decode cX6_breath 10 = .ok (.ifnonnull 9, 3) := by decide +kernel
theorem dX6_breath_13 : decode cX6_breath 13 = .ok (.aload_n 0, 1) := by decide +kernel
theorem dX6_breath_14 : decode cX6_breath 14 = .ok (.iconst (-1), 1) := by decide +kernel
theorem dX6_breath_15 : decode cX6_breath 15 = .ok (.invokevirtual 64, 3) := by decide +kernel
theorem dX6_breath_18 : decode cX6_breath 18 = .ok (.ireturn, 1) := by decide +kernel
theorem dX6_breath_19 : decode cX6_breath 19 = .ok (.iload_n 2, 1) := by decide +kernel
theorem dX6_breath_20 : decode cX6_breath 20 = .ok (.invokestatic 216, 3) := by decide +kernel
theorem dX6_breath_23 : decode cX6_breath 23 = .ok (.ifCond .ne 10, 3) := by decide +kernel
theorem dX6_breath_26 : decode cX6_breath 26 = .ok (.aload_n 0, 1) := by decide +kernel
theorem dX6_breath_27 : decode cX6_breath 27 = .ok (.bipush (-5), 2) := by decide +kernel
theorem dX6_breath_29 : decode cX6_breath 29 = .ok (.invokevirtual 64, 3) := by decide +kernel
theorem dX6_breath_32 : decode cX6_breath 32 = .ok (.ireturn, 1) := by decide +kernel
theorem dX6_breath_33 : decode cX6_breath 33 = .ok (.aload_n 3, 1) := by decide +kernel
theorem dX6_breath_34 : decode cX6_breath 34 = .ok (.iload_n 2, 1) := by decide +kernel
theorem dX6_breath_35 : decode cX6_breath 35 = .ok (.invokevirtual 314, 3) := by decide +kernel
theorem dX6_breath_38 : decode cX6_breath 38 = .ok (.ireturn, 1) := by decide +kernel
theorem dX6_scratch_0 : decode cX6_scratch 0 = .ok (.aload_n 0, 1) := by decide +kernel
theorem dX6_scratch_1 : decode cX6_scratch 1 = .ok (.getfield 10, 3) := by decide +kernel
theorem dX6_scratch_4 : decode cX6_scratch 4 = .ok (.iload_n 1, 1) := by decide +kernel
theorem dX6_scratch_5 : decode cX6_scratch 5 = .ok (.invokevirtual 102, 3) := by decide +kernel
theorem dX6_scratch_8 : decode cX6_scratch 8 = .ok (.astore_n 3, 1) := by decide +kernel
theorem dX6_scratch_9 : decode cX6_scratch 9 = .ok (.aload_n 3, 1) := by decide +kernel
theorem dX6_scratch_10 : decode cX6_scratch 10 = .ok (.ifnonnull 9, 3) := by decide +kernel
theorem dX6_scratch_13 : decode cX6_scratch 13 = .ok (.aload_n 0, 1) := by decide +kernel
theorem dX6_scratch_14 : decode cX6_scratch 14 = .ok (.iconst (-1), 1) := by decide +kernel
theorem dX6_scratch_15 : decode cX6_scratch 15 = .ok (.invokevirtual 64, 3) := by decide +kernel
theorem dX6_scratch_18 : decode cX6_scratch 18 = .ok (.ireturn, 1) := by decide +kernel
theorem dX6_scratch_19 : decode cX6_scratch 19 = .ok (.iload_n 2, 1) := by decide +kernel
theorem dX6_scratch_20 : decode cX6_scratch 20 = .ok (.invokestatic 216, 3) := by decide +kernel
theorem dX6_scratch_23 : decode cX6_scratch 23 = .ok (.ifCond .ne 10, 3) := by decide +kernel
theorem dX6_scratch_26 : decode cX6_scratch 26 = .ok (.aload_n 0, 1) := by decide +kernel
theorem dX6_scratch_27 : decode cX6_scratch 27 = .ok (.bipush (-5), 2) := by decide +kernel
theorem dX6_scratch_29 : decode cX6_scratch 29 = .ok (.invokevirtual 64, 3) := by decide +kernel
theorem dX6_scratch_32 : decode cX6_scratch 32 = .ok (.ireturn, 1) := by decide +kernel
theorem dX6_scratch_33 : decode cX6_scratch 33 = .ok (.aload_n 3, 1) := by decide +kernel
theorem dX6_scratch_34 : decode cX6_scratch 34 = .ok (.iload_n 2, 1) := by decide +kernel
theorem dX6_scratch_35 : decode cX6_scratch 35 = .ok (.invokevirtual 317, 3) := by decide +kernel
theorem dX6_scratch_38 : decode cX6_scratch 38 = .ok (.ifCond .eq 10, 3) := by decide +kernel
theorem dX6_scratch_41 : decode cX6_scratch 41 = .ok (.aload_n 0, 1) := by decide +kernel
theorem dX6_scratch_42 : decode cX6_scratch 42 = .ok (.bipush (-6), 2) := by decide +kernel
theorem dX6_scratch_44 : decode cX6_scratch 44 = .ok (.invokevirtual 64, 3) := by decide +kernel
theorem dX6_scratch_47 : decode cX6_scratch 47 = .ok (.ireturn, 1) := by decide +kernel
theorem dX6_scratch_48 : decode cX6_scratch 48 = .ok (.aload_n 3, 1) := by decide +kernel
theorem dX6_scratch_49 : decode cX6_scratch 49 = .ok (.iload_n 2, 1) := by decide +kernel
theorem dX6_scratch_50 : decode cX6_scratch 50 = .ok (.invokevirtual 320, 3) := by decide +kernel
theorem dX6_scratch_53 : decode cX6_scratch 53 = .ok (.ireturn, 1) := by decide +kernel
theorem dX6_winter_0 : decode cX6_winter 0 = .ok (.iload_n 1, 1) := by decide +kernel
theorem dX6_winter_1 : decode cX6_winter 1 = .ok (.iconst 1, 1) := by decide +kernel
theorem dX6_winter_2 : decode cX6_winter 2 = .ok (.if_icmp .lt 9, 3) := by decide +kernel
theorem dX6_winter_5 : decode cX6_winter 5 = .ok (.iload_n 1, 1) := by decide +kernel
theorem dX6_winter_6 : decode cX6_winter 6 = .ok (.bipush 40, 2) := by decide +kernel
theorem dX6_winter_8 : decode cX6_winter 8 = .ok (.if_icmp .le 10, 3) := by decide +kernel
theorem dX6_winter_11 : decode cX6_winter 11 = .ok (.aload_n 0, 1) := by decide +kernel
theorem dX6_winter_12 : decode cX6_winter 12 = .ok (.bipush (-6), 2) := by decide +kernel
theorem dX6_winter_14 : decode cX6_winter 14 = .ok (.invokevirtual 64, 3) := by decide +kernel
theorem dX6_winter_17 : decode cX6_winter 17 = .ok (.ireturn, 1) := by decide +kernel
theorem dX6_winter_18 : decode cX6_winter 18 = .ok (.aload_n 0, 1) := by decide +kernel
theorem dX6_winter_19 : decode cX6_winter 19 = .ok (.getfield 10, 3) := by decide +kernel
theorem dX6_winter_22 : decode cX6_winter 22 = .ok (.iload_n 1, 1) := by decide +kernel
theorem dX6_winter_23 : decode cX6_winter 23 = .ok (.invokevirtual 323, 3) := by decide +kernel
theorem dX6_winter_26 : decode cX6_winter 26 = .ok (.ireturn, 1) := by decide +kernel
theorem dX6_seed_0 : decode cX6_seed 0 = .ok (.aload_n 0, 1) := by decide +kernel
theorem dX6_seed_1 : decode cX6_seed 1 = .ok (.getfield 10, 3) := by decide +kernel
theorem dX6_seed_4 : decode cX6_seed 4 = .ok (.getfield 326, 3) := by decide +kernel
theorem dX6_seed_7 : decode cX6_seed 7 = .ok (.istore_n 2, 1) := by decide +kernel
theorem dX6_seed_8 : decode cX6_seed 8 = .ok (.aload_n 0, 1) := by decide +kernel
theorem dX6_seed_9 : decode cX6_seed 9 = .ok (.getfield 10, 3) := by decide +kernel
theorem dX6_seed_12 : decode cX6_seed 12 = .ok (.iload_n 1, 1) := by decide +kernel
theorem dX6_seed_13 : decode cX6_seed 13 = .ok (.putfield 326, 3) := by decide +kernel
theorem dX6_seed_16 : decode cX6_seed 16 = .ok (.iload_n 2, 1) := by decide +kernel
theorem dX6_seed_17 : decode cX6_seed 17 = .ok (.ireturn, 1) := by decide +kernel
theorem dX6_image_0 : decode cX6_image 0 = .ok (.aload_n 0, 1) := by decide +kernel
theorem dX6_image_1 : decode cX6_image 1 = .ok (.getfield 16, 3) := by decide +kernel
theorem dX6_image_4 : decode cX6_image 4 = .ok (.aload_n 0, 1) := by decide +kernel
theorem dX6_image_5 : decode cX6_image 5 = .ok (.getfield 10, 3) := by decide +kernel
theorem dX6_image_8 : decode cX6_image 8 = .ok (.invokevirtual 206, 3) := by decide +kernel
theorem dX6_image_11 : decode cX6_image 11 = .ok (.aload_n 0, 1) := by decide +kernel
theorem dX6_image_12 : decode cX6_image 12 = .ok (.iconst 1, 1) := by decide +kernel
theorem dX6_image_13 : decode cX6_image 13 = .ok (.putfield 56, 3) := by decide +kernel
theorem dX6_image_16 : decode cX6_image 16 = .ok (.aload_n 0, 1) := by decide +kernel
theorem dX6_image_17 : decode cX6_image 17 = .ok (.getfield 10, 3) := by decide +kernel
theorem dX6_image_20 : decode cX6_image 20 = .ok (.getfield 246, 3) := by decide +kernel
theorem dX6_image_23 : decode cX6_image 23 = .ok (.ireturn, 1) := by decide +kernel
theorem dX6_restore_0 : decode cX6_restore 0 = .ok (.aload_n 0, 1) := by decide +kernel
theorem dX6_restore_1 : decode cX6_restore 1 = .ok (.getfield 56, 3) := by decide +kernel
theorem dX6_restore_4 : decode cX6_restore 4 = .ok (.ifCond .ne 10, 3) := by decide +kernel
theorem dX6_restore_7 : decode cX6_restore 7 = .ok (.aload_n 0, 1) := by decide +kernel
theorem dX6_restore_8 : decode cX6_restore 8 = .ok (.bipush (-6), 2) := by decide +kernel
theorem dX6_restore_10 : decode cX6_restore 10 = .ok (.invokevirtual 64, 3) := by decide +kernel
theorem dX6_restore_13 : decode cX6_restore 13 = .ok (.ireturn, 1) := by decide +kernel
theorem dX6_restore_14 : decode cX6_restore 14 = .ok (.aload_n 0, 1) := by decide +kernel
theorem dX6_restore_15 : decode cX6_restore 15 = .ok (.getfield 10, 3) := by decide +kernel
theorem dX6_restore_18 : decode cX6_restore 18 = .ok (.aload_n 0, 1) := by decide +kernel
theorem dX6_restore_19 : decode cX6_restore 19 = .ok (.getfield 16, 3) := by decide +kernel
theorem dX6_restore_22 : decode cX6_restore 22 = .ok (.invokevirtual 206, 3) := by decide +kernel
theorem dX6_restore_25 : decode cX6_restore 25 = .ok (.iconst 0, 1) := by decide +kernel
theorem dX6_restore_26 : decode cX6_restore 26 = .ok (.istore_n 1, 1) := by decide +kernel
theorem dX6_restore_27 : decode cX6_restore 27 = .ok (.iload_n 1, 1) := by decide +kernel
theorem dX6_restore_28 : decode cX6_restore 28 = .ok (.aload_n 0, 1) := by decide +kernel
theorem dX6_restore_29 : decode cX6_restore 29 = .ok (.getfield 33, 3) := by decide +kernel
theorem dX6_restore_32 : decode cX6_restore 32 = .ok (.arraylength, 1) := by decide +kernel
theorem dX6_restore_33 : decode cX6_restore 33 = .ok (.if_icmp .ge 45, 3) := by decide +kernel
theorem dX6_restore_36 : decode cX6_restore 36 = .ok (.aload_n 0, 1) := by decide +kernel
theorem dX6_restore_37 : decode cX6_restore 37 = .ok (.getfield 33, 3) := by decide +kernel
theorem dX6_restore_40 : decode cX6_restore 40 = .ok (.iload_n 1, 1) := by decide +kernel
theorem dX6_restore_41 : decode cX6_restore 41 = .ok (.aaload, 1) := by decide +kernel
theorem dX6_restore_42 : decode cX6_restore 42 = .ok (.astore_n 2, 1) := by decide +kernel
theorem dX6_restore_43 : decode cX6_restore 43 = .ok (.aload_n 2, 1) := by decide +kernel
theorem dX6_restore_44 : decode cX6_restore 44 = .ok (.ifnull 28, 3) := by decide +kernel
theorem dX6_restore_47 : decode cX6_restore 47 = .ok (.aload_n 2, 1) := by decide +kernel
theorem dX6_restore_48 : decode cX6_restore 48 = .ok (.invokevirtual 88, 3) := by decide +kernel
theorem dX6_restore_51 : decode cX6_restore 51 = .ok (.ifCond .eq 21, 3) := by decide +kernel
theorem dX6_restore_54 : decode cX6_restore 54 = .ok (.aload_n 0, 1) := by decide +kernel
theorem dX6_restore_55 : decode cX6_restore 55 = .ok (.getfield 10, 3) := by decide +kernel
theorem dX6_restore_58 : decode cX6_restore 58 = .ok (.aload_n 2, 1) := by decide +kernel
theorem dX6_restore_59 : decode cX6_restore 59 = .ok (.getfield 123, 3) := by decide +kernel
theorem dX6_restore_62 : decode cX6_restore 62 = .ok (.invokevirtual 102, 3) := by decide +kernel
theorem dX6_restore_65 : decode cX6_restore 65 = .ok (.ifnonnull 7, 3) := by decide +kernel
theorem dX6_restore_68 : decode cX6_restore 68 = .ok (.aload_n 2, 1) := by decide +kernel
theorem dX6_restore_69 : decode cX6_restore 69 = .ok (.invokevirtual 106, 3) := by decide +kernel
theorem dX6_restore_72 : decode cX6_restore 72 = .ok (.iinc 1 1, 3) := by decide +kernel
theorem dX6_restore_75 : decode cX6_restore 75 = .ok (.goto (-48), 3) := by decide +kernel
theorem dX6_restore_78 : decode cX6_restore 78 = .ok (.aload_n 0, 1) := by decide +kernel
theorem dX6_restore_79 : decode cX6_restore 79 = .ok (.getfield 10, 3) := by decide +kernel
theorem dX6_restore_82 : decode cX6_restore 82 = .ok (.getfield 246, 3) := by decide +kernel
theorem dX6_restore_85 : decode cX6_restore 85 = .ok (.ireturn, 1) := by decide +kernel
theorem dX6_status_0 : decode cX6_status 0 = .ok (.iload_n 1, 1) := by decide +kernel
theorem dX6_status_1 : decode cX6_status 1 = .ok (.tableswitch 123 0 8 #[51, 59, 67, 75, 83, 91, 99, 107, 115], 51) := by decide +kernel
theorem dX6_status_52 : decode cX6_status 52 = .ok (.aload_n 0, 1) := by decide +kernel
theorem dX6_status_53 : decode cX6_status 53 = .ok (.getfield 10, 3) := by decide +kernel
theorem dX6_status_56 : decode cX6_status 56 = .ok (.getfield 278, 3) := by decide +kernel
theorem dX6_status_59 : decode cX6_status 59 = .ok (.ireturn, 1) := by decide +kernel
theorem dX6_status_60 : decode cX6_status 60 = .ok (.aload_n 0, 1) := by decide +kernel
theorem dX6_status_61 : decode cX6_status 61 = .ok (.getfield 10, 3) := by decide +kernel
theorem dX6_status_64 : decode cX6_status 64 = .ok (.getfield 246, 3) := by decide +kernel
theorem dX6_status_67 : decode cX6_status 67 = .ok (.ireturn, 1) := by decide +kernel
theorem dX6_status_68 : decode cX6_status 68 = .ok (.aload_n 0, 1) := by decide +kernel
theorem dX6_status_69 : decode cX6_status 69 = .ok (.getfield 10, 3) := by decide +kernel
theorem dX6_status_72 : decode cX6_status 72 = .ok (.getfield 136, 3) := by decide +kernel
theorem dX6_status_75 : decode cX6_status 75 = .ok (.ireturn, 1) := by decide +kernel
theorem dX6_status_76 : decode cX6_status 76 = .ok (.aload_n 0, 1) := by decide +kernel
theorem dX6_status_77 : decode cX6_status 77 = .ok (.getfield 10, 3) := by decide +kernel
theorem dX6_status_80 : decode cX6_status 80 = .ok (.getfield 155, 3) := by decide +kernel
theorem dX6_status_83 : decode cX6_status 83 = .ok (.ireturn, 1) := by decide +kernel
theorem dX6_status_84 : decode cX6_status 84 = .ok (.aload_n 0, 1) := by decide +kernel
theorem dX6_status_85 : decode cX6_status 85 = .ok (.getfield 10, 3) := by decide +kernel
theorem dX6_status_88 : decode cX6_status 88 = .ok (.getfield 145, 3) := by decide +kernel
theorem dX6_status_91 : decode cX6_status 91 = .ok (.ireturn, 1) := by decide +kernel
theorem dX6_status_92 : decode cX6_status 92 = .ok (.aload_n 0, 1) := by decide +kernel
theorem dX6_status_93 : decode cX6_status 93 = .ok (.getfield 10, 3) := by decide +kernel
theorem dX6_status_96 : decode cX6_status 96 = .ok (.getfield 302, 3) := by decide +kernel
theorem dX6_status_99 : decode cX6_status 99 = .ok (.ireturn, 1) := by decide +kernel
theorem dX6_status_100 : decode cX6_status 100 = .ok (.aload_n 0, 1) := by decide +kernel
theorem dX6_status_101 : decode cX6_status 101 = .ok (.getfield 10, 3) := by decide +kernel
theorem dX6_status_104 : decode cX6_status 104 = .ok (.getfield 341, 3) := by decide +kernel
theorem dX6_status_107 : decode cX6_status 107 = .ok (.ireturn, 1) := by decide +kernel
theorem dX6_status_108 : decode cX6_status 108 = .ok (.aload_n 0, 1) := by decide +kernel
theorem dX6_status_109 : decode cX6_status 109 = .ok (.getfield 10, 3) := by decide +kernel
theorem dX6_status_112 : decode cX6_status 112 = .ok (.getfield 326, 3) := by decide +kernel
theorem dX6_status_115 : decode cX6_status 115 = .ok (.ireturn, 1) := by decide +kernel
theorem dX6_status_116 : decode cX6_status 116 = .ok (.aload_n 0, 1) := by decide +kernel
theorem dX6_status_117 : decode cX6_status 117 = .ok (.getfield 48, 3) := by decide +kernel
theorem dX6_status_120 : decode cX6_status 120 = .ok (.getfield 344, 3) := by decide +kernel
theorem dX6_status_123 : decode cX6_status 123 = .ok (.ireturn, 1) := by decide +kernel
theorem dX6_status_124 : decode cX6_status 124 = .ok (.aload_n 0, 1) := by decide +kernel
theorem dX6_status_125 : decode cX6_status 125 = .ok (.iload_n 1, 1) := by decide +kernel
theorem dX6_status_126 : decode cX6_status 126 = .ok (.bipush 10, 2) := by decide +kernel
theorem dX6_status_128 : decode cX6_status 128 = .ok (.isub, 1) := by decide +kernel
theorem dX6_status_129 : decode cX6_status 129 = .ok (.invokevirtual 347, 3) := by decide +kernel
theorem dX6_status_132 : decode cX6_status 132 = .ok (.ireturn, 1) := by decide +kernel
theorem dX6_refusalsOf_0 : decode cX6_refusalsOf 0 = .ok (.iload_n 1, 1) := by decide +kernel
theorem dX6_refusalsOf_1 : decode cX6_refusalsOf 1 = .ok (.iconst 1, 1) := by decide +kernel
theorem dX6_refusalsOf_2 : decode cX6_refusalsOf 2 = .ok (.if_icmp .lt 21, 3) := by decide +kernel
theorem dX6_refusalsOf_5 : decode cX6_refusalsOf 5 = .ok (.iload_n 1, 1) := by decide +kernel
theorem dX6_refusalsOf_6 : decode cX6_refusalsOf 6 = .ok (.aload_n 0, 1) := by decide +kernel
theorem dX6_refusalsOf_7 : decode cX6_refusalsOf 7 = .ok (.getfield 52, 3) := by decide +kernel
theorem dX6_refusalsOf_10 : decode cX6_refusalsOf 10 = .ok (.arraylength, 1) := by decide +kernel
theorem dX6_refusalsOf_11 : decode cX6_refusalsOf 11 = .ok (.if_icmp .ge 12, 3) := by decide +kernel
theorem dX6_refusalsOf_14 : decode cX6_refusalsOf 14 = .ok (.aload_n 0, 1) := by decide +kernel
theorem dX6_refusalsOf_15 : decode cX6_refusalsOf 15 = .ok (.getfield 52, 3) := by decide +kernel
theorem dX6_refusalsOf_18 : decode cX6_refusalsOf 18 = .ok (.iload_n 1, 1) := by decide +kernel
theorem dX6_refusalsOf_19 : decode cX6_refusalsOf 19 = .ok (.iaload, 1) := by decide +kernel
theorem dX6_refusalsOf_20 : decode cX6_refusalsOf 20 = .ok (.goto 4, 3) := by decide +kernel
theorem dX6_refusalsOf_23 : decode cX6_refusalsOf 23 = .ok (.iconst (-1), 1) := by decide +kernel
theorem dX6_refusalsOf_24 : decode cX6_refusalsOf 24 = .ok (.ireturn, 1) := by decide +kernel
theorem dJ6_bitCount_0f7a4_0 : decode cJ6_bitCount_0f7a4 0 = .ok (.iload_n 0, 1) := by decide +kernel
theorem dJ6_bitCount_0f7a4_1 : decode cJ6_bitCount_0f7a4 1 = .ok (.iload_n 0, 1) := by decide +kernel
theorem dJ6_bitCount_0f7a4_2 : decode cJ6_bitCount_0f7a4 2 = .ok (.iconst 1, 1) := by decide +kernel
theorem dJ6_bitCount_0f7a4_3 : decode cJ6_bitCount_0f7a4 3 = .ok (.iushr, 1) := by decide +kernel
theorem dJ6_bitCount_0f7a4_4 : decode cJ6_bitCount_0f7a4 4 = .ok (.ldc_w 265, 3) := by decide +kernel
theorem dJ6_bitCount_0f7a4_7 : decode cJ6_bitCount_0f7a4 7 = .ok (.iand, 1) := by decide +kernel
theorem dJ6_bitCount_0f7a4_8 : decode cJ6_bitCount_0f7a4 8 = .ok (.isub, 1) := by decide +kernel
theorem dJ6_bitCount_0f7a4_9 : decode cJ6_bitCount_0f7a4 9 = .ok (.istore_n 0, 1) := by decide +kernel
theorem dJ6_bitCount_0f7a4_10 : decode cJ6_bitCount_0f7a4 10 = .ok (.iload_n 0, 1) := by decide +kernel
theorem dJ6_bitCount_0f7a4_11 : decode cJ6_bitCount_0f7a4 11 = .ok (.ldc_w 266, 3) := by decide +kernel
theorem dJ6_bitCount_0f7a4_14 : decode cJ6_bitCount_0f7a4 14 = .ok (.iand, 1) := by decide +kernel
theorem dJ6_bitCount_0f7a4_15 : decode cJ6_bitCount_0f7a4 15 = .ok (.iload_n 0, 1) := by decide +kernel
theorem dJ6_bitCount_0f7a4_16 : decode cJ6_bitCount_0f7a4 16 = .ok (.iconst 2, 1) := by decide +kernel
theorem dJ6_bitCount_0f7a4_17 : decode cJ6_bitCount_0f7a4 17 = .ok (.iushr, 1) := by decide +kernel
theorem dJ6_bitCount_0f7a4_18 : decode cJ6_bitCount_0f7a4 18 = .ok (.ldc_w 266, 3) := by decide +kernel
theorem dJ6_bitCount_0f7a4_21 : decode cJ6_bitCount_0f7a4 21 = .ok (.iand, 1) := by decide +kernel
theorem dJ6_bitCount_0f7a4_22 : decode cJ6_bitCount_0f7a4 22 = .ok (.iadd, 1) := by decide +kernel
theorem dJ6_bitCount_0f7a4_23 : decode cJ6_bitCount_0f7a4 23 = .ok (.istore_n 0, 1) := by decide +kernel
theorem dJ6_bitCount_0f7a4_24 : decode cJ6_bitCount_0f7a4 24 = .ok (.iload_n 0, 1) := by decide +kernel
theorem dJ6_bitCount_0f7a4_25 : decode cJ6_bitCount_0f7a4 25 = .ok (.iload_n 0, 1) := by decide +kernel
theorem dJ6_bitCount_0f7a4_26 : decode cJ6_bitCount_0f7a4 26 = .ok (.iconst 4, 1) := by decide +kernel
theorem dJ6_bitCount_0f7a4_27 : decode cJ6_bitCount_0f7a4 27 = .ok (.iushr, 1) := by decide +kernel
theorem dJ6_bitCount_0f7a4_28 : decode cJ6_bitCount_0f7a4 28 = .ok (.iadd, 1) := by decide +kernel
theorem dJ6_bitCount_0f7a4_29 : decode cJ6_bitCount_0f7a4 29 = .ok (.ldc_w 267, 3) := by decide +kernel
theorem dJ6_bitCount_0f7a4_32 : decode cJ6_bitCount_0f7a4 32 = .ok (.iand, 1) := by decide +kernel
theorem dJ6_bitCount_0f7a4_33 : decode cJ6_bitCount_0f7a4 33 = .ok (.istore_n 0, 1) := by decide +kernel
theorem dJ6_bitCount_0f7a4_34 : decode cJ6_bitCount_0f7a4 34 = .ok (.iload_n 0, 1) := by decide +kernel
theorem dJ6_bitCount_0f7a4_35 : decode cJ6_bitCount_0f7a4 35 = .ok (.iload_n 0, 1) := by decide +kernel
theorem dJ6_bitCount_0f7a4_36 : decode cJ6_bitCount_0f7a4 36 = .ok (.bipush 8, 2) := by decide +kernel
theorem dJ6_bitCount_0f7a4_38 : decode cJ6_bitCount_0f7a4 38 = .ok (.iushr, 1) := by decide +kernel
theorem dJ6_bitCount_0f7a4_39 : decode cJ6_bitCount_0f7a4 39 = .ok (.iadd, 1) := by decide +kernel
theorem dJ6_bitCount_0f7a4_40 : decode cJ6_bitCount_0f7a4 40 = .ok (.istore_n 0, 1) := by decide +kernel
theorem dJ6_bitCount_0f7a4_41 : decode cJ6_bitCount_0f7a4 41 = .ok (.iload_n 0, 1) := by decide +kernel
theorem dJ6_bitCount_0f7a4_42 : decode cJ6_bitCount_0f7a4 42 = .ok (.iload_n 0, 1) := by decide +kernel
theorem dJ6_bitCount_0f7a4_43 : decode cJ6_bitCount_0f7a4 43 = .ok (.bipush 16, 2) := by decide +kernel
theorem dJ6_bitCount_0f7a4_45 : decode cJ6_bitCount_0f7a4 45 = .ok (.iushr, 1) := by decide +kernel
theorem dJ6_bitCount_0f7a4_46 : decode cJ6_bitCount_0f7a4 46 = .ok (.iadd, 1) := by decide +kernel
theorem dJ6_bitCount_0f7a4_47 : decode cJ6_bitCount_0f7a4 47 = .ok (.istore_n 0, 1) := by decide +kernel
theorem dJ6_bitCount_0f7a4_48 : decode cJ6_bitCount_0f7a4 48 = .ok (.iload_n 0, 1) := by decide +kernel
theorem dJ6_bitCount_0f7a4_49 : decode cJ6_bitCount_0f7a4 49 = .ok (.bipush 63, 2) := by decide +kernel
theorem dJ6_bitCount_0f7a4_51 : decode cJ6_bitCount_0f7a4 51 = .ok (.iand, 1) := by decide +kernel
theorem dJ6_bitCount_0f7a4_52 : decode cJ6_bitCount_0f7a4 52 = .ok (.ireturn, 1) := by decide +kernel
theorem dJ9_max_7cf53_0 : decode cJ9_max_7cf53 0 = .ok (.iload_n 0, 1) := by decide +kernel
theorem dJ9_max_7cf53_1 : decode cJ9_max_7cf53 1 = .ok (.iload_n 1, 1) := by decide +kernel
theorem dJ9_max_7cf53_2 : decode cJ9_max_7cf53 2 = .ok (.if_icmp .lt 7, 3) := by decide +kernel
theorem dJ9_max_7cf53_5 : decode cJ9_max_7cf53 5 = .ok (.iload_n 0, 1) := by decide +kernel
theorem dJ9_max_7cf53_6 : decode cJ9_max_7cf53 6 = .ok (.goto 4, 3) := by decide +kernel
theorem dJ9_max_7cf53_9 : decode cJ9_max_7cf53 9 = .ok (.iload_n 1, 1) := by decide +kernel
theorem dJ9_max_7cf53_10 : decode cJ9_max_7cf53 10 = .ok (.ireturn, 1) := by decide +kernel
theorem dJ9_min_7cf53_0 : decode cJ9_min_7cf53 0 = .ok (.iload_n 0, 1) := by decide +kernel
theorem dJ9_min_7cf53_1 : decode cJ9_min_7cf53 1 = .ok (.iload_n 1, 1) := by decide +kernel
theorem dJ9_min_7cf53_2 : decode cJ9_min_7cf53 2 = .ok (.if_icmp .gt 7, 3) := by decide +kernel
theorem dJ9_min_7cf53_5 : decode cJ9_min_7cf53 5 = .ok (.iload_n 0, 1) := by decide +kernel
theorem dJ9_min_7cf53_6 : decode cJ9_min_7cf53 6 = .ok (.goto 4, 3) := by decide +kernel
theorem dJ9_min_7cf53_9 : decode cJ9_min_7cf53 9 = .ok (.iload_n 1, 1) := by decide +kernel
theorem dJ9_min_7cf53_10 : decode cJ9_min_7cf53 10 = .ok (.ireturn, 1) := by decide +kernel
theorem dJ0_length_8abf5_0 : decode cJ0_length_8abf5 0 = .ok (.aload_n 0, 1) := by decide +kernel
theorem dJ0_length_8abf5_1 : decode cJ0_length_8abf5 1 = .ok (.getfield 9, 3) := by decide +kernel
theorem dJ0_length_8abf5_4 : decode cJ0_length_8abf5 4 = .ok (.arraylength, 1) := by decide +kernel
theorem dJ0_length_8abf5_5 : decode cJ0_length_8abf5 5 = .ok (.aload_n 0, 1) := by decide +kernel
theorem dJ0_length_8abf5_6 : decode cJ0_length_8abf5 6 = .ok (.invokevirtual 335, 3) := by decide +kernel
theorem dJ0_length_8abf5_9 : decode cJ0_length_8abf5 9 = .ok (.ishr, 1) := by decide +kernel
theorem dJ0_length_8abf5_10 : decode cJ0_length_8abf5 10 = .ok (.ireturn, 1) := by decide +kernel
theorem dJ0_charAt_5068e_0 : decode cJ0_charAt_5068e 0 = .ok (.aload_n 0, 1) := by decide +kernel
theorem dJ0_charAt_5068e_1 : decode cJ0_charAt_5068e 1 = .ok (.invokevirtual 492, 3) := by decide +kernel
theorem dJ0_charAt_5068e_4 : decode cJ0_charAt_5068e 4 = .ok (.ifCond .eq 12, 3) := by decide +kernel
theorem dJ0_charAt_5068e_7 : decode cJ0_charAt_5068e 7 = .ok (.aload_n 0, 1) := by decide +kernel
theorem dJ0_charAt_5068e_8 : decode cJ0_charAt_5068e 8 = .ok (.getfield 9, 3) := by decide +kernel
theorem dJ0_charAt_5068e_11 : decode cJ0_charAt_5068e 11 = .ok (.iload_n 1, 1) := by decide +kernel
theorem dJ0_charAt_5068e_12 : decode cJ0_charAt_5068e 12 = .ok (.invokestatic 495, 3) := by decide +kernel
theorem dJ0_charAt_5068e_15 : decode cJ0_charAt_5068e 15 = .ok (.ireturn, 1) := by decide +kernel
theorem dJ0_charAt_5068e_16 : decode cJ0_charAt_5068e 16 = .ok (.aload_n 0, 1) := by decide +kernel
theorem dJ0_charAt_5068e_17 : decode cJ0_charAt_5068e 17 = .ok (.getfield 9, 3) := by decide +kernel
theorem dJ0_charAt_5068e_20 : decode cJ0_charAt_5068e 20 = .ok (.iload_n 1, 1) := by decide +kernel
theorem dJ0_charAt_5068e_21 : decode cJ0_charAt_5068e 21 = .ok (.invokestatic 498, 3) := by decide +kernel
theorem dJ0_charAt_5068e_24 : decode cJ0_charAt_5068e 24 = .ok (.ireturn, 1) := by decide +kernel
theorem dJ0_coder_7d493_0 : decode cJ0_coder_7d493 0 = .ok (.getstatic 38, 3) := by decide +kernel
theorem dJ0_coder_7d493_3 : decode cJ0_coder_7d493 3 = .ok (.ifCond .eq 10, 3) := by decide +kernel
theorem dJ0_coder_7d493_6 : decode cJ0_coder_7d493 6 = .ok (.aload_n 0, 1) := by decide +kernel
theorem dJ0_coder_7d493_7 : decode cJ0_coder_7d493 7 = .ok (.getfield 15, 3) := by decide +kernel
theorem dJ0_coder_7d493_10 : decode cJ0_coder_7d493 10 = .ok (.goto 4, 3) := by decide +kernel
theorem dJ0_coder_7d493_13 : decode cJ0_coder_7d493 13 = .ok (.iconst 1, 1) := by decide +kernel
theorem dJ0_coder_7d493_14 : decode cJ0_coder_7d493 14 = .ok (.ireturn, 1) := by decide +kernel
theorem dJ0_isLatin1_aae02_0 : decode cJ0_isLatin1_aae02 0 = .ok (.getstatic 38, 3) := by decide +kernel
theorem dJ0_isLatin1_aae02_3 : decode cJ0_isLatin1_aae02 3 = .ok (.ifCond .eq 14, 3) := by decide +kernel
theorem dJ0_isLatin1_aae02_6 : decode cJ0_isLatin1_aae02 6 = .ok (.aload_n 0, 1) := by decide +kernel
theorem dJ0_isLatin1_aae02_7 : decode cJ0_isLatin1_aae02 7 = .ok (.getfield 15, 3) := by decide +kernel
theorem dJ0_isLatin1_aae02_10 : decode cJ0_isLatin1_aae02 10 = .ok (.ifCond .ne 7, 3) := by decide +kernel
theorem dJ0_isLatin1_aae02_13 : decode cJ0_isLatin1_aae02 13 = .ok (.iconst 1, 1) := by decide +kernel
theorem dJ0_isLatin1_aae02_14 : decode cJ0_isLatin1_aae02 14 = .ok (.goto 4, 3) := by decide +kernel
theorem dJ0_isLatin1_aae02_17 : decode cJ0_isLatin1_aae02 17 = .ok (.iconst 0, 1) := by decide +kernel
theorem dJ0_isLatin1_aae02_18 : decode cJ0_isLatin1_aae02 18 = .ok (.ireturn, 1) := by decide +kernel
theorem dJ0_checkIndex_df160_0 : decode cJ0_checkIndex_df160 0 = .ok (.iload_n 0, 1) := by decide +kernel
theorem dJ0_checkIndex_df160_1 : decode cJ0_checkIndex_df160 1 = .ok (.iload_n 1, 1) := by decide +kernel
theorem dJ0_checkIndex_df160_2 : decode cJ0_checkIndex_df160 2 = .ok (.getstatic 1053, 3) := by decide +kernel
theorem dJ0_checkIndex_df160_5 : decode cJ0_checkIndex_df160 5 = .ok (.invokestatic 1059, 3) := by decide +kernel
theorem dJ0_checkIndex_df160_8 : decode cJ0_checkIndex_df160 8 = .ok (.pop, 1) := by decide +kernel
theorem dJ0_checkIndex_df160_9 : decode cJ0_checkIndex_df160 9 = .ok (.return_, 1) := by decide +kernel
theorem dJ1_charAt_3b067_0 : decode cJ1_charAt_3b067 0 = .ok (.iload_n 1, 1) := by decide +kernel
theorem dJ1_charAt_3b067_1 : decode cJ1_charAt_3b067 1 = .ok (.aload_n 0, 1) := by decide +kernel
theorem dJ1_charAt_3b067_2 : decode cJ1_charAt_3b067 2 = .ok (.arraylength, 1) := by decide +kernel
theorem dJ1_charAt_3b067_3 : decode cJ1_charAt_3b067 3 = .ok (.invokestatic 9, 3) := by decide +kernel
theorem dJ1_charAt_3b067_6 : decode cJ1_charAt_3b067 6 = .ok (.aload_n 0, 1) := by decide +kernel
theorem dJ1_charAt_3b067_7 : decode cJ1_charAt_3b067 7 = .ok (.iload_n 1, 1) := by decide +kernel
theorem dJ1_charAt_3b067_8 : decode cJ1_charAt_3b067 8 = .ok (.baload, 1) := by decide +kernel
theorem dJ1_charAt_3b067_9 : decode cJ1_charAt_3b067 9 = .ok (.sipush 255, 3) := by decide +kernel
theorem dJ1_charAt_3b067_12 : decode cJ1_charAt_3b067 12 = .ok (.iand, 1) := by decide +kernel
theorem dJ1_charAt_3b067_13 : decode cJ1_charAt_3b067 13 = .ok (.i2c, 1) := by decide +kernel
theorem dJ1_charAt_3b067_14 : decode cJ1_charAt_3b067 14 = .ok (.ireturn, 1) := by decide +kernel
theorem dJ2_getChar_3b067_0 : decode cJ2_getChar_3b067 0 = .ok (.getstatic 44, 3) := by decide +kernel
theorem dJ2_getChar_3b067_3 : decode cJ2_getChar_3b067 3 = .ok (.ifCond .ne 25, 3) := by decide +kernel
theorem dJ2_getChar_3b067_6 : decode cJ2_getChar_3b067 6 = .ok (.iload_n 1, 1) := by decide +kernel
theorem dJ2_getChar_3b067_7 : decode cJ2_getChar_3b067 7 = .ok (.ifCond .lt 11, 3) := by decide +kernel
theorem dJ2_getChar_3b067_10 : decode cJ2_getChar_3b067 10 = .ok (.iload_n 1, 1) := by decide +kernel
theorem dJ2_getChar_3b067_11 : decode cJ2_getChar_3b067 11 = .ok (.aload_n 0, 1) := by decide +kernel
theorem dJ2_getChar_3b067_12 : decode cJ2_getChar_3b067 12 = .ok (.invokestatic 48, 3) := by decide +kernel
theorem dJ2_getChar_3b067_15 : decode cJ2_getChar_3b067 15 = .ok (.if_icmp .lt 13, 3) := by decide +kernel
theorem dJ2_getChar_3b067_18 : decode cJ2_getChar_3b067 18 = .ok (.new 52, 3) := by decide +kernel
theorem dJ2_getChar_3b067_21 : decode cJ2_getChar_3b067 21 = .ok (.dup, 1) := by decide +kernel
theorem dJ2_getChar_3b067_22 : decode cJ2_getChar_3b067 22 = .ok (.ldc 54, 2) := by decide +kernel
theorem dJ2_getChar_3b067_24 : decode cJ2_getChar_3b067 24 = .ok (.invokespecial 56, 3) := by decide +kernel
theorem dJ2_getChar_3b067_27 : decode cJ2_getChar_3b067 27 = .ok (.athrow, 1) := by decide +kernel
theorem dJ2_getChar_3b067_28 : decode cJ2_getChar_3b067 28 = .ok (.iload_n 1, 1) := by decide +kernel
theorem dJ2_getChar_3b067_29 : decode cJ2_getChar_3b067 29 = .ok (.iconst 1, 1) := by decide +kernel
theorem dJ2_getChar_3b067_30 : decode cJ2_getChar_3b067 30 = .ok (.ishl, 1) := by decide +kernel
theorem dJ2_getChar_3b067_31 : decode cJ2_getChar_3b067 31 = .ok (.istore_n 1, 1) := by decide +kernel
theorem dJ2_getChar_3b067_32 : decode cJ2_getChar_3b067 32 = .ok (.aload_n 0, 1) := by decide +kernel
theorem dJ2_getChar_3b067_33 : decode cJ2_getChar_3b067 33 = .ok (.iload_n 1, 1) := by decide +kernel
theorem dJ2_getChar_3b067_34 : decode cJ2_getChar_3b067 34 = .ok (.iinc 1 1, 3) := by decide +kernel
theorem dJ2_getChar_3b067_37 : decode cJ2_getChar_3b067 37 = .ok (.baload, 1) := by decide +kernel
theorem dJ2_getChar_3b067_38 : decode cJ2_getChar_3b067 38 = .ok (.sipush 255, 3) := by decide +kernel
theorem dJ2_getChar_3b067_41 : decode cJ2_getChar_3b067 41 = .ok (.iand, 1) := by decide +kernel
theorem dJ2_getChar_3b067_42 : decode cJ2_getChar_3b067 42 = .ok (.getstatic 59, 3) := by decide +kernel
theorem dJ2_getChar_3b067_45 : decode cJ2_getChar_3b067 45 = .ok (.ishl, 1) := by decide +kernel
theorem dJ2_getChar_3b067_46 : decode cJ2_getChar_3b067 46 = .ok (.aload_n 0, 1) := by decide +kernel
theorem dJ2_getChar_3b067_47 : decode cJ2_getChar_3b067 47 = .ok (.iload_n 1, 1) := by decide +kernel
theorem dJ2_getChar_3b067_48 : decode cJ2_getChar_3b067 48 = .ok (.baload, 1) := by decide +kernel
theorem dJ2_getChar_3b067_49 : decode cJ2_getChar_3b067 49 = .ok (.sipush 255, 3) := by decide +kernel
theorem dJ2_getChar_3b067_52 : decode cJ2_getChar_3b067 52 = .ok (.iand, 1) := by decide +kernel
theorem dJ2_getChar_3b067_53 : decode cJ2_getChar_3b067 53 = .ok (.getstatic 63, 3) := by decide +kernel
theorem dJ2_getChar_3b067_56 : decode cJ2_getChar_3b067 56 = .ok (.ishl, 1) := by decide +kernel
theorem dJ2_getChar_3b067_57 : decode cJ2_getChar_3b067 57 = .ok (.ior, 1) := by decide +kernel
theorem dJ2_getChar_3b067_58 : decode cJ2_getChar_3b067 58 = .ok (.i2c, 1) := by decide +kernel
theorem dJ2_getChar_3b067_59 : decode cJ2_getChar_3b067 59 = .ok (.ireturn, 1) := by decide +kernel
theorem dJ2_length_9d52b_0 : decode cJ2_length_9d52b 0 = .ok (.aload_n 0, 1) := by decide +kernel
theorem dJ2_length_9d52b_1 : decode cJ2_length_9d52b 1 = .ok (.arraylength, 1) := by decide +kernel
theorem dJ2_length_9d52b_2 : decode cJ2_length_9d52b 2 = .ok (.iconst 1, 1) := by decide +kernel
theorem dJ2_length_9d52b_3 : decode cJ2_length_9d52b 3 = .ok (.ishr, 1) := by decide +kernel
theorem dJ2_length_9d52b_4 : decode cJ2_length_9d52b 4 = .ok (.ireturn, 1) := by decide +kernel
theorem dJ2_charAt_3b067_0 : decode cJ2_charAt_3b067 0 = .ok (.iload_n 1, 1) := by decide +kernel
theorem dJ2_charAt_3b067_1 : decode cJ2_charAt_3b067 1 = .ok (.aload_n 0, 1) := by decide +kernel
theorem dJ2_charAt_3b067_2 : decode cJ2_charAt_3b067 2 = .ok (.invokestatic 67, 3) := by decide +kernel
theorem dJ2_charAt_3b067_5 : decode cJ2_charAt_3b067 5 = .ok (.aload_n 0, 1) := by decide +kernel
theorem dJ2_charAt_3b067_6 : decode cJ2_charAt_3b067 6 = .ok (.iload_n 1, 1) := by decide +kernel
theorem dJ2_charAt_3b067_7 : decode cJ2_charAt_3b067 7 = .ok (.invokestatic 71, 3) := by decide +kernel
theorem dJ2_charAt_3b067_10 : decode cJ2_charAt_3b067 10 = .ok (.ireturn, 1) := by decide +kernel
theorem dJ2_checkIndex_2214a_0 : decode cJ2_checkIndex_2214a 0 = .ok (.iload_n 0, 1) := by decide +kernel
theorem dJ2_checkIndex_2214a_1 : decode cJ2_checkIndex_2214a 1 = .ok (.aload_n 1, 1) := by decide +kernel
theorem dJ2_checkIndex_2214a_2 : decode cJ2_checkIndex_2214a 2 = .ok (.invokestatic 48, 3) := by decide +kernel
theorem dJ2_checkIndex_2214a_5 : decode cJ2_checkIndex_2214a 5 = .ok (.invokestatic 414, 3) := by decide +kernel
theorem dJ2_checkIndex_2214a_8 : decode cJ2_checkIndex_2214a 8 = .ok (.return_, 1) := by decide +kernel
theorem dJ3_checkIndex_8e157_0 : decode cJ3_checkIndex_8e157 0 = .ok (.iload_n 0, 1) := by decide +kernel
theorem dJ3_checkIndex_8e157_1 : decode cJ3_checkIndex_8e157 1 = .ok (.ifCond .lt 8, 3) := by decide +kernel
theorem dJ3_checkIndex_8e157_4 : decode cJ3_checkIndex_8e157 4 = .ok (.iload_n 0, 1) := by decide +kernel
theorem dJ3_checkIndex_8e157_5 : decode cJ3_checkIndex_8e157 5 = .ok (.iload_n 1, 1) := by decide +kernel
theorem dJ3_checkIndex_8e157_6 : decode cJ3_checkIndex_8e157 6 = .ok (.if_icmp .lt 10, 3) := by decide +kernel
theorem dJ3_checkIndex_8e157_9 : decode cJ3_checkIndex_8e157 9 = .ok (.aload_n 2, 1) := by decide +kernel
theorem dJ3_checkIndex_8e157_10 : decode cJ3_checkIndex_8e157 10 = .ok (.iload_n 0, 1) := by decide +kernel
theorem dJ3_checkIndex_8e157_11 : decode cJ3_checkIndex_8e157 11 = .ok (.iload_n 1, 1) := by decide +kernel
theorem dJ3_checkIndex_8e157_12 : decode cJ3_checkIndex_8e157 12 = .ok (.invokestatic 95, 3) := by decide +kernel
theorem dJ3_checkIndex_8e157_15 : decode cJ3_checkIndex_8e157 15 = .ok (.athrow, 1) := by decide +kernel
theorem dJ3_checkIndex_8e157_16 : decode cJ3_checkIndex_8e157 16 = .ok (.iload_n 0, 1) := by decide +kernel
theorem dJ3_checkIndex_8e157_17 : decode cJ3_checkIndex_8e157 17 = .ok (.ireturn, 1) := by decide +kernel
theorem dL_at_0 : decode cL_at 0 = .ok (.iload_n 1, 1) := by decide +kernel
theorem dL_at_1 : decode cL_at 1 = .ok (.aload_n 0, 1) := by decide +kernel
theorem dL_at_2 : decode cL_at 2 = .ok (.arraylength, 1) := by decide +kernel
theorem dL_at_3 : decode cL_at 3 = .ok (.if_icmp .ge 9, 3) := by decide +kernel
theorem dL_at_6 : decode cL_at 6 = .ok (.aload_n 0, 1) := by decide +kernel
theorem dL_at_7 : decode cL_at 7 = .ok (.iload_n 1, 1) := by decide +kernel
theorem dL_at_8 : decode cL_at 8 = .ok (.iaload, 1) := by decide +kernel
theorem dL_at_9 : decode cL_at 9 = .ok (.goto 4, 3) := by decide +kernel
theorem dL_at_12 : decode cL_at 12 = .ok (.iconst 0, 1) := by decide +kernel
theorem dL_at_13 : decode cL_at 13 = .ok (.ireturn, 1) := by decide +kernel
theorem dL_some_0 : decode cL_some 0 = .ok (.iload_n 0, 1) := by decide +kernel
theorem dL_some_1 : decode cL_some 1 = .ok (.iload_n 1, 1) := by decide +kernel
theorem dL_some_2 : decode cL_some 2 = .ok (.irem, 1) := by decide +kernel
theorem dL_some_3 : decode cL_some 3 = .ok (.istore_n 2, 1) := by decide +kernel
theorem dL_some_4 : decode cL_some 4 = .ok (.iload_n 2, 1) := by decide +kernel
theorem dL_some_5 : decode cL_some 5 = .ok (.ifCond .ge 9, 3) := by decide +kernel
theorem dL_some_8 : decode cL_some 8 = .ok (.iload_n 2, 1) := by decide +kernel
theorem dL_some_9 : decode cL_some 9 = .ok (.iload_n 1, 1) := by decide +kernel
theorem dL_some_10 : decode cL_some 10 = .ok (.iadd, 1) := by decide +kernel
theorem dL_some_11 : decode cL_some 11 = .ok (.goto 4, 3) := by decide +kernel
theorem dL_some_14 : decode cL_some 14 = .ok (.iload_n 2, 1) := by decide +kernel
theorem dL_some_15 : decode cL_some 15 = .ok (.ireturn, 1) := by decide +kernel
theorem dL_world_0 : decode cL_world 0 = .ok (.aload_n 2, 1) := by decide +kernel
theorem dL_world_1 : decode cL_world 1 = .ok (.bipush 32, 2) := by decide +kernel
theorem dL_world_3 : decode cL_world 3 = .ok (.aload_n 1, 1) := by decide +kernel
theorem dL_world_4 : decode cL_world 4 = .ok (.iconst 0, 1) := by decide +kernel
theorem dL_world_5 : decode cL_world 5 = .ok (.invokestatic 7, 3) := by decide +kernel
theorem dL_world_8 : decode cL_world 8 = .ok (.bipush 9, 2) := by decide +kernel
theorem dL_world_10 : decode cL_world 10 = .ok (.invokestatic 13, 3) := by decide +kernel
theorem dL_world_13 : decode cL_world 13 = .ok (.iastore, 1) := by decide +kernel
theorem dL_world_14 : decode cL_world 14 = .ok (.aload_n 2, 1) := by decide +kernel
theorem dL_world_15 : decode cL_world 15 = .ok (.bipush 33, 2) := by decide +kernel
theorem dL_world_17 : decode cL_world 17 = .ok (.aload_n 1, 1) := by decide +kernel
theorem dL_world_18 : decode cL_world 18 = .ok (.iconst 0, 1) := by decide +kernel
theorem dL_world_19 : decode cL_world 19 = .ok (.invokestatic 7, 3) := by decide +kernel
theorem dL_world_22 : decode cL_world 22 = .ok (.iconst 4, 1) := by decide +kernel
theorem dL_world_23 : decode cL_world 23 = .ok (.ishr, 1) := by decide +kernel
theorem dL_world_24 : decode cL_world 24 = .ok (.bipush 9, 2) := by decide +kernel
theorem dL_world_26 : decode cL_world 26 = .ok (.invokestatic 13, 3) := by decide +kernel
theorem dL_world_29 : decode cL_world 29 = .ok (.iastore, 1) := by decide +kernel
theorem dL_world_30 : decode cL_world 30 = .ok (.aload_n 2, 1) := by decide +kernel
theorem dL_world_31 : decode cL_world 31 = .ok (.bipush 34, 2) := by decide +kernel
theorem dL_world_33 : decode cL_world 33 = .ok (.aload_n 1, 1) := by decide +kernel
theorem dL_world_34 : decode cL_world 34 = .ok (.iconst 0, 1) := by decide +kernel
theorem dL_world_35 : decode cL_world 35 = .ok (.invokestatic 7, 3) := by decide +kernel
theorem dL_world_38 : decode cL_world 38 = .ok (.bipush 8, 2) := by decide +kernel
theorem dL_world_40 : decode cL_world 40 = .ok (.ishr, 1) := by decide +kernel
theorem dL_world_41 : decode cL_world 41 = .ok (.bipush 41, 2) := by decide +kernel
theorem dL_world_43 : decode cL_world 43 = .ok (.invokestatic 13, 3) := by decide +kernel
theorem dL_world_46 : decode cL_world 46 = .ok (.iastore, 1) := by decide +kernel
theorem dL_world_47 : decode cL_world 47 = .ok (.aload_n 2, 1) := by decide +kernel
theorem dL_world_48 : decode cL_world 48 = .ok (.bipush 35, 2) := by decide +kernel
theorem dL_world_50 : decode cL_world 50 = .ok (.aload_n 1, 1) := by decide +kernel
theorem dL_world_51 : decode cL_world 51 = .ok (.iconst 0, 1) := by decide +kernel
theorem dL_world_52 : decode cL_world 52 = .ok (.invokestatic 7, 3) := by decide +kernel
theorem dL_world_55 : decode cL_world 55 = .ok (.bipush 14, 2) := by decide +kernel
theorem dL_world_57 : decode cL_world 57 = .ok (.ishr, 1) := by decide +kernel
theorem dL_world_58 : decode cL_world 58 = .ok (.iconst 1, 1) := by decide +kernel
theorem dL_world_59 : decode cL_world 59 = .ok (.iand, 1) := by decide +kernel
theorem dL_world_60 : decode cL_world 60 = .ok (.ifCond .ne 19, 3) := by decide +kernel
theorem dL_world_63 : decode cL_world 63 = .ok (.aload_n 1, 1) := by decide +kernel
theorem dL_world_64 : decode cL_world 64 = .ok (.iconst 0, 1) := by decide +kernel
theorem dL_world_65 : decode cL_world 65 = .ok (.invokestatic 7, 3) := by decide +kernel
theorem dL_world_68 : decode cL_world 68 = .ok (.bipush 15, 2) := by decide +kernel
theorem dL_world_70 : decode cL_world 70 = .ok (.ishr, 1) := by decide +kernel
theorem dL_world_71 : decode cL_world 71 = .ok (.bipush 10, 2) := by decide +kernel
theorem dL_world_73 : decode cL_world 73 = .ok (.invokestatic 13, 3) := by decide +kernel
theorem dL_world_76 : decode cL_world 76 = .ok (.goto 17, 3) := by decide +kernel
theorem dL_world_79 : decode cL_world 79 = .ok (.iconst 5, 1) := by decide +kernel
theorem dL_world_80 : decode cL_world 80 = .ok (.aload_n 1, 1) := by decide +kernel
theorem dL_world_81 : decode cL_world 81 = .ok (.iconst 0, 1) := by decide +kernel
theorem dL_world_82 : decode cL_world 82 = .ok (.invokestatic 7, 3) := by decide +kernel
theorem dL_world_85 : decode cL_world 85 = .ok (.bipush 15, 2) := by decide +kernel
theorem dL_world_87 : decode cL_world 87 = .ok (.ishr, 1) := by decide +kernel
theorem dL_world_88 : decode cL_world 88 = .ok (.iconst 5, 1) := by decide +kernel
theorem dL_world_89 : decode cL_world 89 = .ok (.invokestatic 13, 3) := by decide +kernel
theorem dL_world_92 : decode cL_world 92 = .ok (.iadd, 1) := by decide +kernel
theorem dL_world_93 : decode cL_world 93 = .ok (.iastore, 1) := by decide +kernel
theorem dL_world_94 : decode cL_world 94 = .ok (.aload_n 2, 1) := by decide +kernel
theorem dL_world_95 : decode cL_world 95 = .ok (.bipush 36, 2) := by decide +kernel
theorem dL_world_97 : decode cL_world 97 = .ok (.aload_n 1, 1) := by decide +kernel
theorem dL_world_98 : decode cL_world 98 = .ok (.iconst 0, 1) := by decide +kernel
theorem dL_world_99 : decode cL_world 99 = .ok (.invokestatic 7, 3) := by decide +kernel
theorem dL_world_102 : decode cL_world 102 = .ok (.bipush 19, 2) := by decide +kernel
theorem dL_world_104 : decode cL_world 104 = .ok (.ishr, 1) := by decide +kernel
theorem dL_world_105 : decode cL_world 105 = .ok (.aload_n 1, 1) := by decide +kernel
theorem dL_world_106 : decode cL_world 106 = .ok (.iconst 0, 1) := by decide +kernel
theorem dL_world_107 : decode cL_world 107 = .ok (.invokestatic 7, 3) := by decide +kernel
theorem dL_world_110 : decode cL_world 110 = .ok (.bipush 23, 2) := by decide +kernel
theorem dL_world_112 : decode cL_world 112 = .ok (.ishr, 1) := by decide +kernel
theorem dL_world_113 : decode cL_world 113 = .ok (.iconst 1, 1) := by decide +kernel
theorem dL_world_114 : decode cL_world 114 = .ok (.iand, 1) := by decide +kernel
theorem dL_world_115 : decode cL_world 115 = .ok (.ifCond .ne 8, 3) := by decide +kernel
theorem dL_world_118 : decode cL_world 118 = .ok (.bipush 10, 2) := by decide +kernel
theorem dL_world_120 : decode cL_world 120 = .ok (.goto 4, 3) := by decide +kernel
theorem dL_world_123 : decode cL_world 123 = .ok (.iconst 2, 1) := by decide +kernel
theorem dL_world_124 : decode cL_world 124 = .ok (.invokestatic 13, 3) := by decide +kernel
theorem dL_world_127 : decode cL_world 127 = .ok (.iastore, 1) := by decide +kernel
theorem dL_world_128 : decode cL_world 128 = .ok (.iconst 0, 1) := by decide +kernel
theorem dL_world_129 : decode cL_world 129 = .ok (.istore_n 3, 1) := by decide +kernel
theorem dL_world_130 : decode cL_world 130 = .ok (.iload_n 3, 1) := by decide +kernel
theorem dL_world_131 : decode cL_world 131 = .ok (.aload_n 2, 1) := by decide +kernel
theorem dL_world_132 : decode cL_world 132 = .ok (.bipush 32, 2) := by decide +kernel
theorem dL_world_134 : decode cL_world 134 = .ok (.iaload, 1) := by decide +kernel
theorem dL_world_135 : decode cL_world 135 = .ok (.if_icmp .ge 112, 3) := by decide +kernel
theorem dL_world_138 : decode cL_world 138 = .ok (.aload_n 1, 1) := by decide +kernel
theorem dL_world_139 : decode cL_world 139 = .ok (.iconst 1, 1) := by decide +kernel
theorem dL_world_140 : decode cL_world 140 = .ok (.iload_n 3, 1) := by decide +kernel
theorem dL_world_141 : decode cL_world 141 = .ok (.iadd, 1) := by decide +kernel
theorem dL_world_142 : decode cL_world 142 = .ok (.invokestatic 7, 3) := by decide +kernel
theorem dL_world_145 : decode cL_world 145 = .ok (.istore 4, 2) := by decide +kernel
theorem dL_world_147 : decode cL_world 147 = .ok (.aload_n 2, 1) := by decide +kernel
theorem dL_world_148 : decode cL_world 148 = .ok (.iload_n 3, 1) := by decide +kernel
theorem dL_world_149 : decode cL_world 149 = .ok (.iload 4, 2) := by decide +kernel
theorem dL_world_151 : decode cL_world 151 = .ok (.ldc 17, 2) := by decide +kernel
theorem dL_world_153 : decode cL_world 153 = .ok (.iand, 1) := by decide +kernel
theorem dL_world_154 : decode cL_world 154 = .ok (.iastore, 1) := by decide +kernel
theorem dL_world_155 : decode cL_world 155 = .ok (.iload 4, 2) := by decide +kernel
theorem dL_world_157 : decode cL_world 157 = .ok (.bipush 16, 2) := by decide +kernel
theorem dL_world_159 : decode cL_world 159 = .ok (.ishr, 1) := by decide +kernel
theorem dL_world_160 : decode cL_world 160 = .ok (.iconst 3, 1) := by decide +kernel
theorem dL_world_161 : decode cL_world 161 = .ok (.iand, 1) := by decide +kernel
theorem dL_world_162 : decode cL_world 162 = .ok (.ifCond .ne 47, 3) := by decide +kernel
theorem dL_world_165 : decode cL_world 165 = .ok (.iload_n 3, 1) := by decide +kernel
theorem dL_world_166 : decode cL_world 166 = .ok (.ifCond .le 43, 3) := by decide +kernel
theorem dL_world_169 : decode cL_world 169 = .ok (.aload_n 2, 1) := by decide +kernel
theorem dL_world_170 : decode cL_world 170 = .ok (.iload_n 3, 1) := by decide +kernel
theorem dL_world_171 : decode cL_world 171 = .ok (.aload_n 2, 1) := by decide +kernel
theorem dL_world_172 : decode cL_world 172 = .ok (.iload 4, 2) := by decide +kernel
theorem dL_world_174 : decode cL_world 174 = .ok (.bipush 18, 2) := by decide +kernel
theorem dL_world_176 : decode cL_world 176 = .ok (.ishr, 1) := by decide +kernel
theorem dL_world_177 : decode cL_world 177 = .ok (.iload_n 3, 1) := by decide +kernel
theorem dL_world_178 : decode cL_world 178 = .ok (.invokestatic 13, 3) := by decide +kernel
theorem dL_world_181 : decode cL_world 181 = .ok (.iaload, 1) := by decide +kernel
theorem dL_world_182 : decode cL_world 182 = .ok (.iconst 1, 1) := by decide +kernel
theorem dL_world_183 : decode cL_world 183 = .ok (.iload 4, 2) := by decide +kernel
theorem dL_world_185 : decode cL_world 185 = .ok (.bipush 22, 2) := by decide +kernel
theorem dL_world_187 : decode cL_world 187 = .ok (.ishr, 1) := by decide +kernel
theorem dL_world_188 : decode cL_world 188 = .ok (.bipush 16, 2) := by decide +kernel
theorem dL_world_190 : decode cL_world 190 = .ok (.invokestatic 13, 3) := by decide +kernel
theorem dL_world_193 : decode cL_world 193 = .ok (.ishl, 1) := by decide +kernel
theorem dL_world_194 : decode cL_world 194 = .ok (.ixor, 1) := by decide +kernel
theorem dL_world_195 : decode cL_world 195 = .ok (.iconst 1, 1) := by decide +kernel
theorem dL_world_196 : decode cL_world 196 = .ok (.iload 4, 2) := by decide +kernel
theorem dL_world_198 : decode cL_world 198 = .ok (.bipush 26, 2) := by decide +kernel
theorem dL_world_200 : decode cL_world 200 = .ok (.ishr, 1) := by decide +kernel
theorem dL_world_201 : decode cL_world 201 = .ok (.bipush 16, 2) := by decide +kernel
theorem dL_world_203 : decode cL_world 203 = .ok (.invokestatic 13, 3) := by decide +kernel
theorem dL_world_206 : decode cL_world 206 = .ok (.ishl, 1) := by decide +kernel
theorem dL_world_207 : decode cL_world 207 = .ok (.ixor, 1) := by decide +kernel
theorem dL_world_208 : decode cL_world 208 = .ok (.iastore, 1) := by decide +kernel
theorem dL_world_209 : decode cL_world 209 = .ok (.iload 4, 2) := by decide +kernel
theorem dL_world_211 : decode cL_world 211 = .ok (.bipush 16, 2) := by decide +kernel
theorem dL_world_213 : decode cL_world 213 = .ok (.ishr, 1) := by decide +kernel
theorem dL_world_214 : decode cL_world 214 = .ok (.iconst 3, 1) := by decide +kernel
theorem dL_world_215 : decode cL_world 215 = .ok (.iand, 1) := by decide +kernel
theorem dL_world_216 : decode cL_world 216 = .ok (.iconst 1, 1) := by decide +kernel
theorem dL_world_217 : decode cL_world 217 = .ok (.if_icmp .ne 16, 3) := by decide +kernel
theorem dL_world_220 : decode cL_world 220 = .ok (.aload_n 2, 1) := by decide +kernel
theorem dL_world_221 : decode cL_world 221 = .ok (.iload_n 3, 1) := by decide +kernel
theorem dL_world_222 : decode cL_world 222 = .ok (.dup2, 1) := by decide +kernel
theorem dL_world_223 : decode cL_world 223 = .ok (.iaload, 1) := by decide +kernel
theorem dL_world_224 : decode cL_world 224 = .ok (.iload 4, 2) := by decide +kernel
theorem dL_world_226 : decode cL_world 226 = .ok (.iconst 4, 1) := by decide +kernel
theorem dL_world_227 : decode cL_world 227 = .ok (.ishr, 1) := by decide +kernel
theorem dL_world_228 : decode cL_world 228 = .ok (.ldc 17, 2) := by decide +kernel
theorem dL_world_230 : decode cL_world 230 = .ok (.iand, 1) := by decide +kernel
theorem dL_world_231 : decode cL_world 231 = .ok (.ior, 1) := by decide +kernel
theorem dL_world_232 : decode cL_world 232 = .ok (.iastore, 1) := by decide +kernel
theorem dL_world_233 : decode cL_world 233 = .ok (.aload_n 0, 1) := by decide +kernel
theorem dL_world_234 : decode cL_world 234 = .ok (.aload_n 2, 1) := by decide +kernel
theorem dL_world_235 : decode cL_world 235 = .ok (.iload_n 3, 1) := by decide +kernel
theorem dL_world_236 : decode cL_world 236 = .ok (.iaload, 1) := by decide +kernel
theorem dL_world_237 : decode cL_world 237 = .ok (.invokevirtual 18, 3) := by decide +kernel
theorem dL_world_240 : decode cL_world 240 = .ok (.pop, 1) := by decide +kernel
theorem dL_world_241 : decode cL_world 241 = .ok (.iinc 3 1, 3) := by decide +kernel
theorem dL_world_244 : decode cL_world 244 = .ok (.goto (-114), 3) := by decide +kernel
theorem dL_world_247 : decode cL_world 247 = .ok (.iconst 0, 1) := by decide +kernel
theorem dL_world_248 : decode cL_world 248 = .ok (.istore_n 3, 1) := by decide +kernel
theorem dL_world_249 : decode cL_world 249 = .ok (.iload_n 3, 1) := by decide +kernel
theorem dL_world_250 : decode cL_world 250 = .ok (.aload_n 2, 1) := by decide +kernel
theorem dL_world_251 : decode cL_world 251 = .ok (.bipush 33, 2) := by decide +kernel
theorem dL_world_253 : decode cL_world 253 = .ok (.iaload, 1) := by decide +kernel
theorem dL_world_254 : decode cL_world 254 = .ok (.if_icmp .ge 232, 3) := by decide +kernel
theorem dL_world_257 : decode cL_world 257 = .ok (.aload_n 1, 1) := by decide +kernel
theorem dL_world_258 : decode cL_world 258 = .ok (.bipush 9, 2) := by decide +kernel
theorem dL_world_260 : decode cL_world 260 = .ok (.iload_n 3, 1) := by decide +kernel
theorem dL_world_261 : decode cL_world 261 = .ok (.iadd, 1) := by decide +kernel
theorem dL_world_262 : decode cL_world 262 = .ok (.invokestatic 7, 3) := by decide +kernel
theorem dL_world_265 : decode cL_world 265 = .ok (.istore 4, 2) := by decide +kernel
theorem dL_world_267 : decode cL_world 267 = .ok (.iload 4, 2) := by decide +kernel
theorem dL_world_269 : decode cL_world 269 = .ok (.bipush 7, 2) := by decide +kernel
theorem dL_world_271 : decode cL_world 271 = .ok (.invokestatic 13, 3) := by decide +kernel
theorem dL_world_274 : decode cL_world 274 = .ok (.istore 5, 2) := by decide +kernel
theorem dL_world_276 : decode cL_world 276 = .ok (.iload 4, 2) := by decide +kernel
theorem dL_world_278 : decode cL_world 278 = .ok (.iconst 3, 1) := by decide +kernel
theorem dL_world_279 : decode cL_world 279 = .ok (.ishr, 1) := by decide +kernel
theorem dL_world_280 : decode cL_world 280 = .ok (.iload 4, 2) := by decide +kernel
theorem dL_world_282 : decode cL_world 282 = .ok (.bipush 7, 2) := by decide +kernel
theorem dL_world_284 : decode cL_world 284 = .ok (.ishr, 1) := by decide +kernel
theorem dL_world_285 : decode cL_world 285 = .ok (.iconst 1, 1) := by decide +kernel
theorem dL_world_286 : decode cL_world 286 = .ok (.iand, 1) := by decide +kernel
theorem dL_world_287 : decode cL_world 287 = .ok (.ifCond .ne 8, 3) := by decide +kernel
theorem dL_world_290 : decode cL_world 290 = .ok (.bipush 10, 2) := by decide +kernel
theorem dL_world_292 : decode cL_world 292 = .ok (.goto 4, 3) := by decide +kernel
theorem dL_world_295 : decode cL_world 295 = .ok (.iconst 3, 1) := by decide +kernel
theorem dL_world_296 : decode cL_world 296 = .ok (.invokestatic 13, 3) := by decide +kernel
theorem dL_world_299 : decode cL_world 299 = .ok (.istore 6, 2) := by decide +kernel
theorem dL_world_301 : decode cL_world 301 = .ok (.iload 4, 2) := by decide +kernel
theorem dL_world_303 : decode cL_world 303 = .ok (.bipush 8, 2) := by decide +kernel
theorem dL_world_305 : decode cL_world 305 = .ok (.ishr, 1) := by decide +kernel
theorem dL_world_306 : decode cL_world 306 = .ok (.bipush 10, 2) := by decide +kernel
theorem dL_world_308 : decode cL_world 308 = .ok (.invokestatic 13, 3) := by decide +kernel
theorem dL_world_311 : decode cL_world 311 = .ok (.istore 7, 2) := by decide +kernel
theorem dL_world_313 : decode cL_world 313 = .ok (.aload_n 2, 1) := by decide +kernel
theorem dL_world_314 : decode cL_world 314 = .ok (.bipush 8, 2) := by decide +kernel
theorem dL_world_316 : decode cL_world 316 = .ok (.iload_n 3, 1) := by decide +kernel
theorem dL_world_317 : decode cL_world 317 = .ok (.iadd, 1) := by decide +kernel
theorem dL_world_318 : decode cL_world 318 = .ok (.iload 5, 2) := by decide +kernel
theorem dL_world_320 : decode cL_world 320 = .ok (.bipush 10, 2) := by decide +kernel
theorem dL_world_322 : decode cL_world 322 = .ok (.iload 6, 2) := by decide +kernel
theorem dL_world_324 : decode cL_world 324 = .ok (.imul, 1) := by decide +kernel
theorem dL_world_325 : decode cL_world 325 = .ok (.iadd, 1) := by decide +kernel
theorem dL_world_326 : decode cL_world 326 = .ok (.bipush 100, 2) := by decide +kernel
theorem dL_world_328 : decode cL_world 328 = .ok (.iload 7, 2) := by decide +kernel
theorem dL_world_330 : decode cL_world 330 = .ok (.imul, 1) := by decide +kernel
theorem dL_world_331 : decode cL_world 331 = .ok (.iadd, 1) := by decide +kernel
theorem dL_world_332 : decode cL_world 332 = .ok (.iastore, 1) := by decide +kernel
theorem dL_world_333 : decode cL_world 333 = .ok (.aload_n 2, 1) := by decide +kernel
theorem dL_world_334 : decode cL_world 334 = .ok (.bipush 16, 2) := by decide +kernel
theorem dL_world_336 : decode cL_world 336 = .ok (.iload_n 3, 1) := by decide +kernel
theorem dL_world_337 : decode cL_world 337 = .ok (.iadd, 1) := by decide +kernel
theorem dL_world_338 : decode cL_world 338 = .ok (.iload 4, 2) := by decide +kernel
theorem dL_world_340 : decode cL_world 340 = .ok (.bipush 12, 2) := by decide +kernel
theorem dL_world_342 : decode cL_world 342 = .ok (.ishr, 1) := by decide +kernel
theorem dL_world_343 : decode cL_world 343 = .ok (.bipush 7, 2) := by decide +kernel
theorem dL_world_345 : decode cL_world 345 = .ok (.iand, 1) := by decide +kernel
theorem dL_world_346 : decode cL_world 346 = .ok (.ifCond .eq 10, 3) := by decide +kernel
theorem dL_world_349 : decode cL_world 349 = .ok (.aload_n 2, 1) := by decide +kernel
theorem dL_world_350 : decode cL_world 350 = .ok (.bipush 32, 2) := by decide +kernel
theorem dL_world_352 : decode cL_world 352 = .ok (.iaload, 1) := by decide +kernel
theorem dL_world_353 : decode cL_world 353 = .ok (.ifCond .ne 7, 3) := by decide +kernel
theorem dL_world_356 : decode cL_world 356 = .ok (.iconst (-1), 1) := by decide +kernel
theorem dL_world_357 : decode cL_world 357 = .ok (.goto 15, 3) := by decide +kernel
theorem dL_world_360 : decode cL_world 360 = .ok (.iload 4, 2) := by decide +kernel
theorem dL_world_362 : decode cL_world 362 = .ok (.bipush 15, 2) := by decide +kernel
theorem dL_world_364 : decode cL_world 364 = .ok (.ishr, 1) := by decide +kernel
theorem dL_world_365 : decode cL_world 365 = .ok (.aload_n 2, 1) := by decide +kernel
theorem dL_world_366 : decode cL_world 366 = .ok (.bipush 32, 2) := by decide +kernel
theorem dL_world_368 : decode cL_world 368 = .ok (.iaload, 1) := by decide +kernel
theorem dL_world_369 : decode cL_world 369 = .ok (.invokestatic 13, 3) := by decide +kernel
theorem dL_world_372 : decode cL_world 372 = .ok (.iastore, 1) := by decide +kernel
theorem dL_world_373 : decode cL_world 373 = .ok (.aload_n 0, 1) := by decide +kernel
theorem dL_world_374 : decode cL_world 374 = .ok (.iload 5, 2) := by decide +kernel
theorem dL_world_376 : decode cL_world 376 = .ok (.iload 6, 2) := by decide +kernel
theorem dL_world_378 : decode cL_world 378 = .ok (.iload 7, 2) := by decide +kernel
theorem dL_world_380 : decode cL_world 380 = .ok (.invokevirtual 24, 3) := by decide +kernel
theorem dL_world_383 : decode cL_world 383 = .ok (.pop, 1) := by decide +kernel
theorem dL_world_384 : decode cL_world 384 = .ok (.aload_n 0, 1) := by decide +kernel
theorem dL_world_385 : decode cL_world 385 = .ok (.iload_n 3, 1) := by decide +kernel
theorem dL_world_386 : decode cL_world 386 = .ok (.aload_n 2, 1) := by decide +kernel
theorem dL_world_387 : decode cL_world 387 = .ok (.bipush 16, 2) := by decide +kernel
theorem dL_world_389 : decode cL_world 389 = .ok (.iload_n 3, 1) := by decide +kernel
theorem dL_world_390 : decode cL_world 390 = .ok (.iadd, 1) := by decide +kernel
theorem dL_world_391 : decode cL_world 391 = .ok (.iaload, 1) := by decide +kernel
theorem dL_world_392 : decode cL_world 392 = .ok (.invokevirtual 28, 3) := by decide +kernel
theorem dL_world_395 : decode cL_world 395 = .ok (.pop, 1) := by decide +kernel
theorem dL_world_396 : decode cL_world 396 = .ok (.iconst 0, 1) := by decide +kernel
theorem dL_world_397 : decode cL_world 397 = .ok (.istore 8, 2) := by decide +kernel
theorem dL_world_399 : decode cL_world 399 = .ok (.iload 8, 2) := by decide +kernel
theorem dL_world_401 : decode cL_world 401 = .ok (.iconst 2, 1) := by decide +kernel
theorem dL_world_402 : decode cL_world 402 = .ok (.if_icmp .ge 78, 3) := by decide +kernel
theorem dL_world_405 : decode cL_world 405 = .ok (.iload 4, 2) := by decide +kernel
theorem dL_world_407 : decode cL_world 407 = .ok (.bipush 19, 2) := by decide +kernel
theorem dL_world_409 : decode cL_world 409 = .ok (.iconst 4, 1) := by decide +kernel
theorem dL_world_410 : decode cL_world 410 = .ok (.iload 8, 2) := by decide +kernel
theorem dL_world_412 : decode cL_world 412 = .ok (.imul, 1) := by decide +kernel
theorem dL_world_413 : decode cL_world 413 = .ok (.iadd, 1) := by decide +kernel
theorem dL_world_414 : decode cL_world 414 = .ok (.ishr, 1) := by decide +kernel
theorem dL_world_415 : decode cL_world 415 = .ok (.bipush 16, 2) := by decide +kernel
theorem dL_world_417 : decode cL_world 417 = .ok (.invokestatic 13, 3) := by decide +kernel
theorem dL_world_420 : decode cL_world 420 = .ok (.istore 9, 2) := by decide +kernel
theorem dL_world_422 : decode cL_world 422 = .ok (.iload 4, 2) := by decide +kernel
theorem dL_world_424 : decode cL_world 424 = .ok (.bipush 27, 2) := by decide +kernel
theorem dL_world_426 : decode cL_world 426 = .ok (.iload 8, 2) := by decide +kernel
theorem dL_world_428 : decode cL_world 428 = .ok (.iadd, 1) := by decide +kernel
theorem dL_world_429 : decode cL_world 429 = .ok (.ishr, 1) := by decide +kernel
theorem dL_world_430 : decode cL_world 430 = .ok (.iconst 1, 1) := by decide +kernel
theorem dL_world_431 : decode cL_world 431 = .ok (.iand, 1) := by decide +kernel
theorem dL_world_432 : decode cL_world 432 = .ok (.ifCond .eq 42, 3) := by decide +kernel
theorem dL_world_435 : decode cL_world 435 = .ok (.aload_n 2, 1) := by decide +kernel
theorem dL_world_436 : decode cL_world 436 = .ok (.bipush 24, 2) := by decide +kernel
theorem dL_world_438 : decode cL_world 438 = .ok (.iload_n 3, 1) := by decide +kernel
theorem dL_world_439 : decode cL_world 439 = .ok (.iadd, 1) := by decide +kernel
theorem dL_world_440 : decode cL_world 440 = .ok (.iaload, 1) := by decide +kernel
theorem dL_world_441 : decode cL_world 441 = .ok (.iload 9, 2) := by decide +kernel
theorem dL_world_443 : decode cL_world 443 = .ok (.ishr, 1) := by decide +kernel
theorem dL_world_444 : decode cL_world 444 = .ok (.iconst 1, 1) := by decide +kernel
theorem dL_world_445 : decode cL_world 445 = .ok (.iand, 1) := by decide +kernel
theorem dL_world_446 : decode cL_world 446 = .ok (.iconst 1, 1) := by decide +kernel
theorem dL_world_447 : decode cL_world 447 = .ok (.if_icmp .ne 6, 3) := by decide +kernel
theorem dL_world_450 : decode cL_world 450 = .ok (.goto 24, 3) := by decide +kernel
theorem dL_world_453 : decode cL_world 453 = .ok (.aload_n 2, 1) := by decide +kernel
theorem dL_world_454 : decode cL_world 454 = .ok (.bipush 24, 2) := by decide +kernel
theorem dL_world_456 : decode cL_world 456 = .ok (.iload_n 3, 1) := by decide +kernel
theorem dL_world_457 : decode cL_world 457 = .ok (.iadd, 1) := by decide +kernel
theorem dL_world_458 : decode cL_world 458 = .ok (.dup2, 1) := by decide +kernel
theorem dL_world_459 : decode cL_world 459 = .ok (.iaload, 1) := by decide +kernel
theorem dL_world_460 : decode cL_world 460 = .ok (.iconst 1, 1) := by decide +kernel
theorem dL_world_461 : decode cL_world 461 = .ok (.iload 9, 2) := by decide +kernel
theorem dL_world_463 : decode cL_world 463 = .ok (.ishl, 1) := by decide +kernel
theorem dL_world_464 : decode cL_world 464 = .ok (.ior, 1) := by decide +kernel
theorem dL_world_465 : decode cL_world 465 = .ok (.iastore, 1) := by decide +kernel
theorem dL_world_466 : decode cL_world 466 = .ok (.aload_n 0, 1) := by decide +kernel
theorem dL_world_467 : decode cL_world 467 = .ok (.iload_n 3, 1) := by decide +kernel
theorem dL_world_468 : decode cL_world 468 = .ok (.iload 9, 2) := by decide +kernel
theorem dL_world_470 : decode cL_world 470 = .ok (.invokevirtual 31, 3) := by decide +kernel
theorem dL_world_473 : decode cL_world 473 = .ok (.pop, 1) := by decide +kernel
theorem dL_world_474 : decode cL_world 474 = .ok (.iinc 8 1, 3) := by decide +kernel
theorem dL_world_477 : decode cL_world 477 = .ok (.goto (-78), 3) := by decide +kernel
theorem dL_world_480 : decode cL_world 480 = .ok (.iinc 3 1, 3) := by decide +kernel
theorem dL_world_483 : decode cL_world 483 = .ok (.goto (-234), 3) := by decide +kernel
theorem dL_world_486 : decode cL_world 486 = .ok (.iconst 0, 1) := by decide +kernel
theorem dL_world_487 : decode cL_world 487 = .ok (.istore_n 3, 1) := by decide +kernel
theorem dL_world_488 : decode cL_world 488 = .ok (.iload_n 3, 1) := by decide +kernel
theorem dL_world_489 : decode cL_world 489 = .ok (.iconst 3, 1) := by decide +kernel
theorem dL_world_490 : decode cL_world 490 = .ok (.if_icmp .ge 21, 3) := by decide +kernel
theorem dL_world_493 : decode cL_world 493 = .ok (.aload_n 0, 1) := by decide +kernel
theorem dL_world_494 : decode cL_world 494 = .ok (.iload_n 3, 1) := by decide +kernel
theorem dL_world_495 : decode cL_world 495 = .ok (.aload_n 2, 1) := by decide +kernel
theorem dL_world_496 : decode cL_world 496 = .ok (.bipush 34, 2) := by decide +kernel
theorem dL_world_498 : decode cL_world 498 = .ok (.iload_n 3, 1) := by decide +kernel
theorem dL_world_499 : decode cL_world 499 = .ok (.iadd, 1) := by decide +kernel
theorem dL_world_500 : decode cL_world 500 = .ok (.iaload, 1) := by decide +kernel
theorem dL_world_501 : decode cL_world 501 = .ok (.invokevirtual 34, 3) := by decide +kernel
theorem dL_world_504 : decode cL_world 504 = .ok (.pop, 1) := by decide +kernel
theorem dL_world_505 : decode cL_world 505 = .ok (.iinc 3 1, 3) := by decide +kernel
theorem dL_world_508 : decode cL_world 508 = .ok (.goto (-20), 3) := by decide +kernel
theorem dL_world_511 : decode cL_world 511 = .ok (.return_, 1) := by decide +kernel
theorem dL_told_0 : decode cL_told 0 = .ok (.ldc2_w 37, 3) := by decide +kernel
theorem dL_told_3 : decode cL_told 3 = .ok (.lstore_n 1, 1) := by decide +kernel
theorem dL_told_4 : decode cL_told 4 = .ok (.aload_n 0, 1) := by decide +kernel
theorem dL_told_5 : decode cL_told 5 = .ok (.iconst 0, 1) := by decide +kernel
theorem dL_told_6 : decode cL_told 6 = .ok (.invokevirtual 39, 3) := by decide +kernel
theorem dL_told_9 : decode cL_told 9 = .ok (.istore_n 3, 1) := by decide +kernel
theorem dL_told_10 : decode cL_told 10 = .ok (.aload_n 0, 1) := by decide +kernel
theorem dL_told_11 : decode cL_told 11 = .ok (.iconst 1, 1) := by decide +kernel
theorem dL_told_12 : decode cL_told 12 = .ok (.invokevirtual 39, 3) := by decide +kernel
theorem dL_told_15 : decode cL_told 15 = .ok (.istore 4, 2) := by decide +kernel
theorem dL_told_17 : decode cL_told 17 = .ok (.iconst 0, 1) := by decide +kernel
theorem dL_told_18 : decode cL_told 18 = .ok (.istore 5, 2) := by decide +kernel
theorem dL_told_20 : decode cL_told 20 = .ok (.iload 5, 2) := by decide +kernel
theorem dL_told_22 : decode cL_told 22 = .ok (.bipush 8, 2) := by decide +kernel
theorem dL_told_24 : decode cL_told 24 = .ok (.if_icmp .ge 23, 3) := by decide +kernel
theorem dL_told_27 : decode cL_told 27 = .ok (.ldc2_w 42, 3) := by decide +kernel
theorem dL_told_30 : decode cL_told 30 = .ok (.lload_n 1, 1) := by decide +kernel
theorem dL_told_31 : decode cL_told 31 = .ok (.lmul, 1) := by decide +kernel
theorem dL_told_32 : decode cL_told 32 = .ok (.aload_n 0, 1) := by decide +kernel
theorem dL_told_33 : decode cL_told 33 = .ok (.iload 5, 2) := by decide +kernel
theorem dL_told_35 : decode cL_told 35 = .ok (.invokevirtual 39, 3) := by decide +kernel
theorem dL_told_38 : decode cL_told 38 = .ok (.i2l, 1) := by decide +kernel
theorem dL_told_39 : decode cL_told 39 = .ok (.ladd, 1) := by decide +kernel
theorem dL_told_40 : decode cL_told 40 = .ok (.lstore_n 1, 1) := by decide +kernel
theorem dL_told_41 : decode cL_told 41 = .ok (.iinc 5 1, 3) := by decide +kernel
theorem dL_told_44 : decode cL_told 44 = .ok (.goto (-24), 3) := by decide +kernel
theorem dL_told_47 : decode cL_told 47 = .ok (.iconst 0, 1) := by decide +kernel
theorem dL_told_48 : decode cL_told 48 = .ok (.istore 5, 2) := by decide +kernel
theorem dL_told_50 : decode cL_told 50 = .ok (.iload 5, 2) := by decide +kernel
theorem dL_told_52 : decode cL_told 52 = .ok (.iload_n 3, 1) := by decide +kernel
theorem dL_told_53 : decode cL_told 53 = .ok (.if_icmp .ge 59, 3) := by decide +kernel
theorem dL_told_56 : decode cL_told 56 = .ok (.ldc2_w 42, 3) := by decide +kernel
theorem dL_told_59 : decode cL_told 59 = .ok (.lload_n 1, 1) := by decide +kernel
theorem dL_told_60 : decode cL_told 60 = .ok (.lmul, 1) := by decide +kernel
theorem dL_told_61 : decode cL_told 61 = .ok (.aload_n 0, 1) := by decide +kernel
theorem dL_told_62 : decode cL_told 62 = .ok (.iload 5, 2) := by decide +kernel
theorem dL_told_64 : decode cL_told 64 = .ok (.invokevirtual 44, 3) := by decide +kernel
theorem dL_told_67 : decode cL_told 67 = .ok (.i2l, 1) := by decide +kernel
theorem dL_told_68 : decode cL_told 68 = .ok (.ladd, 1) := by decide +kernel
theorem dL_told_69 : decode cL_told 69 = .ok (.iconst 3, 1) := by decide +kernel
theorem dL_told_70 : decode cL_told 70 = .ok (.aload_n 0, 1) := by decide +kernel
theorem dL_told_71 : decode cL_told 71 = .ok (.iload 5, 2) := by decide +kernel
theorem dL_told_73 : decode cL_told 73 = .ok (.invokevirtual 47, 3) := by decide +kernel
theorem dL_told_76 : decode cL_told 76 = .ok (.imul, 1) := by decide +kernel
theorem dL_told_77 : decode cL_told 77 = .ok (.i2l, 1) := by decide +kernel
theorem dL_told_78 : decode cL_told 78 = .ok (.ladd, 1) := by decide +kernel
theorem dL_told_79 : decode cL_told 79 = .ok (.iconst 5, 1) := by decide +kernel
theorem dL_told_80 : decode cL_told 80 = .ok (.aload_n 0, 1) := by decide +kernel
theorem dL_told_81 : decode cL_told 81 = .ok (.iload 5, 2) := by decide +kernel
theorem dL_told_83 : decode cL_told 83 = .ok (.iconst 0, 1) := by decide +kernel
theorem dL_told_84 : decode cL_told 84 = .ok (.invokevirtual 50, 3) := by decide +kernel
theorem dL_told_87 : decode cL_told 87 = .ok (.imul, 1) := by decide +kernel
theorem dL_told_88 : decode cL_told 88 = .ok (.i2l, 1) := by decide +kernel
theorem dL_told_89 : decode cL_told 89 = .ok (.ladd, 1) := by decide +kernel
theorem dL_told_90 : decode cL_told 90 = .ok (.bipush 7, 2) := by decide +kernel
theorem dL_told_92 : decode cL_told 92 = .ok (.aload_n 0, 1) := by decide +kernel
theorem dL_told_93 : decode cL_told 93 = .ok (.aload_n 0, 1) := by decide +kernel
theorem dL_told_94 : decode cL_told 94 = .ok (.iload 5, 2) := by decide +kernel
theorem dL_told_96 : decode cL_told 96 = .ok (.invokevirtual 44, 3) := by decide +kernel
theorem dL_told_99 : decode cL_told 99 = .ok (.invokevirtual 53, 3) := by decide +kernel
theorem dL_told_102 : decode cL_told 102 = .ok (.imul, 1) := by decide +kernel
theorem dL_told_103 : decode cL_told 103 = .ok (.i2l, 1) := by decide +kernel
theorem dL_told_104 : decode cL_told 104 = .ok (.ladd, 1) := by decide +kernel
theorem dL_told_105 : decode cL_told 105 = .ok (.lstore_n 1, 1) := by decide +kernel
theorem dL_told_106 : decode cL_told 106 = .ok (.iinc 5 1, 3) := by decide +kernel
theorem dL_told_109 : decode cL_told 109 = .ok (.goto (-59), 3) := by decide +kernel
theorem dL_told_112 : decode cL_told 112 = .ok (.iload_n 3, 1) := by decide +kernel
theorem dL_told_113 : decode cL_told 113 = .ok (.iconst 1, 1) := by decide +kernel
theorem dL_told_114 : decode cL_told 114 = .ok (.if_icmp .le 24, 3) := by decide +kernel
theorem dL_told_117 : decode cL_told 117 = .ok (.ldc2_w 42, 3) := by decide +kernel
theorem dL_told_120 : decode cL_told 120 = .ok (.lload_n 1, 1) := by decide +kernel
theorem dL_told_121 : decode cL_told 121 = .ok (.lmul, 1) := by decide +kernel
theorem dL_told_122 : decode cL_told 122 = .ok (.aload_n 0, 1) := by decide +kernel
theorem dL_told_123 : decode cL_told 123 = .ok (.invokevirtual 56, 3) := by decide +kernel
theorem dL_told_126 : decode cL_told 126 = .ok (.i2l, 1) := by decide +kernel
theorem dL_told_127 : decode cL_told 127 = .ok (.ladd, 1) := by decide +kernel
theorem dL_told_128 : decode cL_told 128 = .ok (.iconst 3, 1) := by decide +kernel
theorem dL_told_129 : decode cL_told 129 = .ok (.aload_n 0, 1) := by decide +kernel
theorem dL_told_130 : decode cL_told 130 = .ok (.iconst 1, 1) := by decide +kernel
theorem dL_told_131 : decode cL_told 131 = .ok (.invokevirtual 60, 3) := by decide +kernel
theorem dL_told_134 : decode cL_told 134 = .ok (.imul, 1) := by decide +kernel
theorem dL_told_135 : decode cL_told 135 = .ok (.i2l, 1) := by decide +kernel
theorem dL_told_136 : decode cL_told 136 = .ok (.ladd, 1) := by decide +kernel
theorem dL_told_137 : decode cL_told 137 = .ok (.lstore_n 1, 1) := by decide +kernel
theorem dL_told_138 : decode cL_told 138 = .ok (.iconst 0, 1) := by decide +kernel
theorem dL_told_139 : decode cL_told 139 = .ok (.istore 5, 2) := by decide +kernel
theorem dL_told_141 : decode cL_told 141 = .ok (.iload 5, 2) := by decide +kernel
theorem dL_told_143 : decode cL_told 143 = .ok (.iload 4, 2) := by decide +kernel
theorem dL_told_145 : decode cL_told 145 = .ok (.if_icmp .ge 216, 3) := by decide +kernel
theorem dL_told_148 : decode cL_told 148 = .ok (.iconst 0, 1) := by decide +kernel
theorem dL_told_149 : decode cL_told 149 = .ok (.istore 6, 2) := by decide +kernel
theorem dL_told_151 : decode cL_told 151 = .ok (.iload 6, 2) := by decide +kernel
theorem dL_told_153 : decode cL_told 153 = .ok (.iconst 5, 1) := by decide +kernel
theorem dL_told_154 : decode cL_told 154 = .ok (.if_icmp .ge 25, 3) := by decide +kernel
theorem dL_told_157 : decode cL_told 157 = .ok (.ldc2_w 42, 3) := by decide +kernel
theorem dL_told_160 : decode cL_told 160 = .ok (.lload_n 1, 1) := by decide +kernel
theorem dL_told_161 : decode cL_told 161 = .ok (.lmul, 1) := by decide +kernel
theorem dL_told_162 : decode cL_told 162 = .ok (.aload_n 0, 1) := by decide +kernel
theorem dL_told_163 : decode cL_told 163 = .ok (.iload 5, 2) := by decide +kernel
theorem dL_told_165 : decode cL_told 165 = .ok (.iload 6, 2) := by decide +kernel
theorem dL_told_167 : decode cL_told 167 = .ok (.invokevirtual 63, 3) := by decide +kernel
theorem dL_told_170 : decode cL_told 170 = .ok (.i2l, 1) := by decide +kernel
theorem dL_told_171 : decode cL_told 171 = .ok (.ladd, 1) := by decide +kernel
theorem dL_told_172 : decode cL_told 172 = .ok (.lstore_n 1, 1) := by decide +kernel
theorem dL_told_173 : decode cL_told 173 = .ok (.iinc 6 1, 3) := by decide +kernel
theorem dL_told_176 : decode cL_told 176 = .ok (.goto (-25), 3) := by decide +kernel
theorem dL_told_179 : decode cL_told 179 = .ok (.iconst 0, 1) := by decide +kernel
theorem dL_told_180 : decode cL_told 180 = .ok (.istore 6, 2) := by decide +kernel
theorem dL_told_182 : decode cL_told 182 = .ok (.iload 6, 2) := by decide +kernel
theorem dL_told_184 : decode cL_told 184 = .ok (.bipush 17, 2) := by decide +kernel
theorem dL_told_186 : decode cL_told 186 = .ok (.if_icmp .ge 25, 3) := by decide +kernel
theorem dL_told_189 : decode cL_told 189 = .ok (.ldc2_w 42, 3) := by decide +kernel
theorem dL_told_192 : decode cL_told 192 = .ok (.lload_n 1, 1) := by decide +kernel
theorem dL_told_193 : decode cL_told 193 = .ok (.lmul, 1) := by decide +kernel
theorem dL_told_194 : decode cL_told 194 = .ok (.aload_n 0, 1) := by decide +kernel
theorem dL_told_195 : decode cL_told 195 = .ok (.iload 5, 2) := by decide +kernel
theorem dL_told_197 : decode cL_told 197 = .ok (.iload 6, 2) := by decide +kernel
theorem dL_told_199 : decode cL_told 199 = .ok (.invokevirtual 66, 3) := by decide +kernel
theorem dL_told_202 : decode cL_told 202 = .ok (.i2l, 1) := by decide +kernel
theorem dL_told_203 : decode cL_told 203 = .ok (.ladd, 1) := by decide +kernel
theorem dL_told_204 : decode cL_told 204 = .ok (.lstore_n 1, 1) := by decide +kernel
theorem dL_told_205 : decode cL_told 205 = .ok (.iinc 6 1, 3) := by decide +kernel
theorem dL_told_208 : decode cL_told 208 = .ok (.goto (-26), 3) := by decide +kernel
theorem dL_told_211 : decode cL_told 211 = .ok (.aload_n 0, 1) := by decide +kernel
theorem dL_told_212 : decode cL_told 212 = .ok (.iload 5, 2) := by decide +kernel
theorem dL_told_214 : decode cL_told 214 = .ok (.invokevirtual 69, 3) := by decide +kernel
theorem dL_told_217 : decode cL_told 217 = .ok (.istore 6, 2) := by decide +kernel
theorem dL_told_219 : decode cL_told 219 = .ok (.ldc2_w 42, 3) := by decide +kernel
theorem dL_told_222 : decode cL_told 222 = .ok (.lload_n 1, 1) := by decide +kernel
theorem dL_told_223 : decode cL_told 223 = .ok (.lmul, 1) := by decide +kernel
theorem dL_told_224 : decode cL_told 224 = .ok (.iload 6, 2) := by decide +kernel
theorem dL_told_226 : decode cL_told 226 = .ok (.i2l, 1) := by decide +kernel
theorem dL_told_227 : decode cL_told 227 = .ok (.ladd, 1) := by decide +kernel
theorem dL_told_228 : decode cL_told 228 = .ok (.iconst 3, 1) := by decide +kernel
theorem dL_told_229 : decode cL_told 229 = .ok (.aload_n 0, 1) := by decide +kernel
theorem dL_told_230 : decode cL_told 230 = .ok (.iload 5, 2) := by decide +kernel
theorem dL_told_232 : decode cL_told 232 = .ok (.invokevirtual 72, 3) := by decide +kernel
theorem dL_told_235 : decode cL_told 235 = .ok (.imul, 1) := by decide +kernel
theorem dL_told_236 : decode cL_told 236 = .ok (.i2l, 1) := by decide +kernel
theorem dL_told_237 : decode cL_told 237 = .ok (.ladd, 1) := by decide +kernel
theorem dL_told_238 : decode cL_told 238 = .ok (.iconst 5, 1) := by decide +kernel
theorem dL_told_239 : decode cL_told 239 = .ok (.aload_n 0, 1) := by decide +kernel
theorem dL_told_240 : decode cL_told 240 = .ok (.iload 5, 2) := by decide +kernel
theorem dL_told_242 : decode cL_told 242 = .ok (.bipush 9, 2) := by decide +kernel
theorem dL_told_244 : decode cL_told 244 = .ok (.invokevirtual 75, 3) := by decide +kernel
theorem dL_told_247 : decode cL_told 247 = .ok (.imul, 1) := by decide +kernel
theorem dL_told_248 : decode cL_told 248 = .ok (.i2l, 1) := by decide +kernel
theorem dL_told_249 : decode cL_told 249 = .ok (.ladd, 1) := by decide +kernel
theorem dL_told_250 : decode cL_told 250 = .ok (.bipush 7, 2) := by decide +kernel
theorem dL_told_252 : decode cL_told 252 = .ok (.aload_n 0, 1) := by decide +kernel
theorem dL_told_253 : decode cL_told 253 = .ok (.iload 5, 2) := by decide +kernel
theorem dL_told_255 : decode cL_told 255 = .ok (.iload 6, 2) := by decide +kernel
theorem dL_told_257 : decode cL_told 257 = .ok (.iconst 3, 1) := by decide +kernel
theorem dL_told_258 : decode cL_told 258 = .ok (.invokevirtual 78, 3) := by decide +kernel
theorem dL_told_261 : decode cL_told 261 = .ok (.imul, 1) := by decide +kernel
theorem dL_told_262 : decode cL_told 262 = .ok (.i2l, 1) := by decide +kernel
theorem dL_told_263 : decode cL_told 263 = .ok (.ladd, 1) := by decide +kernel
theorem dL_told_264 : decode cL_told 264 = .ok (.bipush 11, 2) := by decide +kernel
theorem dL_told_266 : decode cL_told 266 = .ok (.aload_n 0, 1) := by decide +kernel
theorem dL_told_267 : decode cL_told 267 = .ok (.iload 5, 2) := by decide +kernel
theorem dL_told_269 : decode cL_told 269 = .ok (.iconst (-1), 1) := by decide +kernel
theorem dL_told_270 : decode cL_told 270 = .ok (.iconst 2, 1) := by decide +kernel
theorem dL_told_271 : decode cL_told 271 = .ok (.iconst 5, 1) := by decide +kernel
theorem dL_told_272 : decode cL_told 272 = .ok (.invokevirtual 81, 3) := by decide +kernel
theorem dL_told_275 : decode cL_told 275 = .ok (.imul, 1) := by decide +kernel
theorem dL_told_276 : decode cL_told 276 = .ok (.i2l, 1) := by decide +kernel
theorem dL_told_277 : decode cL_told 277 = .ok (.ladd, 1) := by decide +kernel
theorem dL_told_278 : decode cL_told 278 = .ok (.bipush 13, 2) := by decide +kernel
theorem dL_told_280 : decode cL_told 280 = .ok (.aload_n 0, 1) := by decide +kernel
theorem dL_told_281 : decode cL_told 281 = .ok (.iload 5, 2) := by decide +kernel
theorem dL_told_283 : decode cL_told 283 = .ok (.sipush 4095, 3) := by decide +kernel
theorem dL_told_286 : decode cL_told 286 = .ok (.iconst 1, 1) := by decide +kernel
theorem dL_told_287 : decode cL_told 287 = .ok (.invokevirtual 85, 3) := by decide +kernel
theorem dL_told_290 : decode cL_told 290 = .ok (.imul, 1) := by decide +kernel
theorem dL_told_291 : decode cL_told 291 = .ok (.i2l, 1) := by decide +kernel
theorem dL_told_292 : decode cL_told 292 = .ok (.ladd, 1) := by decide +kernel
theorem dL_told_293 : decode cL_told 293 = .ok (.lstore_n 1, 1) := by decide +kernel
theorem dL_told_294 : decode cL_told 294 = .ok (.iload 6, 2) := by decide +kernel
theorem dL_told_296 : decode cL_told 296 = .ok (.ifCond .lt 59, 3) := by decide +kernel
theorem dL_told_299 : decode cL_told 299 = .ok (.ldc2_w 42, 3) := by decide +kernel
theorem dL_told_302 : decode cL_told 302 = .ok (.lload_n 1, 1) := by decide +kernel
theorem dL_told_303 : decode cL_told 303 = .ok (.lmul, 1) := by decide +kernel
theorem dL_told_304 : decode cL_told 304 = .ok (.aload_n 0, 1) := by decide +kernel
theorem dL_told_305 : decode cL_told 305 = .ok (.iload 5, 2) := by decide +kernel
theorem dL_told_307 : decode cL_told 307 = .ok (.iload 6, 2) := by decide +kernel
theorem dL_told_309 : decode cL_told 309 = .ok (.invokevirtual 88, 3) := by decide +kernel
theorem dL_told_312 : decode cL_told 312 = .ok (.i2l, 1) := by decide +kernel
theorem dL_told_313 : decode cL_told 313 = .ok (.ladd, 1) := by decide +kernel
theorem dL_told_314 : decode cL_told 314 = .ok (.iconst 3, 1) := by decide +kernel
theorem dL_told_315 : decode cL_told 315 = .ok (.aload_n 0, 1) := by decide +kernel
theorem dL_told_316 : decode cL_told 316 = .ok (.iload 5, 2) := by decide +kernel
theorem dL_told_318 : decode cL_told 318 = .ok (.iload 6, 2) := by decide +kernel
theorem dL_told_320 : decode cL_told 320 = .ok (.iconst 4, 1) := by decide +kernel
theorem dL_told_321 : decode cL_told 321 = .ok (.invokevirtual 91, 3) := by decide +kernel
theorem dL_told_324 : decode cL_told 324 = .ok (.imul, 1) := by decide +kernel
theorem dL_told_325 : decode cL_told 325 = .ok (.i2l, 1) := by decide +kernel
theorem dL_told_326 : decode cL_told 326 = .ok (.ladd, 1) := by decide +kernel
theorem dL_told_327 : decode cL_told 327 = .ok (.iconst 5, 1) := by decide +kernel
theorem dL_told_328 : decode cL_told 328 = .ok (.aload_n 0, 1) := by decide +kernel
theorem dL_told_329 : decode cL_told 329 = .ok (.iload 5, 2) := by decide +kernel
theorem dL_told_331 : decode cL_told 331 = .ok (.iload 6, 2) := by decide +kernel
theorem dL_told_333 : decode cL_told 333 = .ok (.iconst 2, 1) := by decide +kernel
theorem dL_told_334 : decode cL_told 334 = .ok (.invokevirtual 94, 3) := by decide +kernel
theorem dL_told_337 : decode cL_told 337 = .ok (.imul, 1) := by decide +kernel
theorem dL_told_338 : decode cL_told 338 = .ok (.i2l, 1) := by decide +kernel
theorem dL_told_339 : decode cL_told 339 = .ok (.ladd, 1) := by decide +kernel
theorem dL_told_340 : decode cL_told 340 = .ok (.bipush 7, 2) := by decide +kernel
theorem dL_told_342 : decode cL_told 342 = .ok (.aload_n 0, 1) := by decide +kernel
theorem dL_told_343 : decode cL_told 343 = .ok (.iload 5, 2) := by decide +kernel
theorem dL_told_345 : decode cL_told 345 = .ok (.iload 6, 2) := by decide +kernel
theorem dL_told_347 : decode cL_told 347 = .ok (.iconst 0, 1) := by decide +kernel
theorem dL_told_348 : decode cL_told 348 = .ok (.invokevirtual 97, 3) := by decide +kernel
theorem dL_told_351 : decode cL_told 351 = .ok (.imul, 1) := by decide +kernel
theorem dL_told_352 : decode cL_told 352 = .ok (.i2l, 1) := by decide +kernel
theorem dL_told_353 : decode cL_told 353 = .ok (.ladd, 1) := by decide +kernel
theorem dL_told_354 : decode cL_told 354 = .ok (.lstore_n 1, 1) := by decide +kernel
theorem dL_told_355 : decode cL_told 355 = .ok (.iinc 5 1, 3) := by decide +kernel
theorem dL_told_358 : decode cL_told 358 = .ok (.goto (-217), 3) := by decide +kernel
theorem dL_told_361 : decode cL_told 361 = .ok (.iconst 0, 1) := by decide +kernel
theorem dL_told_362 : decode cL_told 362 = .ok (.istore 5, 2) := by decide +kernel
theorem dL_told_364 : decode cL_told 364 = .ok (.iload 5, 2) := by decide +kernel
theorem dL_told_366 : decode cL_told 366 = .ok (.bipush 25, 2) := by decide +kernel
theorem dL_told_368 : decode cL_told 368 = .ok (.if_icmp .ge 23, 3) := by decide +kernel
theorem dL_told_371 : decode cL_told 371 = .ok (.ldc2_w 42, 3) := by decide +kernel
theorem dL_told_374 : decode cL_told 374 = .ok (.lload_n 1, 1) := by decide +kernel
theorem dL_told_375 : decode cL_told 375 = .ok (.lmul, 1) := by decide +kernel
theorem dL_told_376 : decode cL_told 376 = .ok (.aload_n 0, 1) := by decide +kernel
theorem dL_told_377 : decode cL_told 377 = .ok (.iload 5, 2) := by decide +kernel
theorem dL_told_379 : decode cL_told 379 = .ok (.invokevirtual 100, 3) := by decide +kernel
theorem dL_told_382 : decode cL_told 382 = .ok (.i2l, 1) := by decide +kernel
theorem dL_told_383 : decode cL_told 383 = .ok (.ladd, 1) := by decide +kernel
theorem dL_told_384 : decode cL_told 384 = .ok (.lstore_n 1, 1) := by decide +kernel
theorem dL_told_385 : decode cL_told 385 = .ok (.iinc 5 3, 3) := by decide +kernel
theorem dL_told_388 : decode cL_told 388 = .ok (.goto (-24), 3) := by decide +kernel
theorem dL_told_391 : decode cL_told 391 = .ok (.ldc2_w 42, 3) := by decide +kernel
theorem dL_told_394 : decode cL_told 394 = .ok (.lload_n 1, 1) := by decide +kernel
theorem dL_told_395 : decode cL_told 395 = .ok (.lmul, 1) := by decide +kernel
theorem dL_told_396 : decode cL_told 396 = .ok (.iconst 3, 1) := by decide +kernel
theorem dL_told_397 : decode cL_told 397 = .ok (.aload_n 0, 1) := by decide +kernel
theorem dL_told_398 : decode cL_told 398 = .ok (.invokevirtual 103, 3) := by decide +kernel
theorem dL_told_401 : decode cL_told 401 = .ok (.imul, 1) := by decide +kernel
theorem dL_told_402 : decode cL_told 402 = .ok (.i2l, 1) := by decide +kernel
theorem dL_told_403 : decode cL_told 403 = .ok (.ladd, 1) := by decide +kernel
theorem dL_told_404 : decode cL_told 404 = .ok (.iconst 5, 1) := by decide +kernel
theorem dL_told_405 : decode cL_told 405 = .ok (.aload_n 0, 1) := by decide +kernel
theorem dL_told_406 : decode cL_told 406 = .ok (.invokevirtual 106, 3) := by decide +kernel
theorem dL_told_409 : decode cL_told 409 = .ok (.imul, 1) := by decide +kernel
theorem dL_told_410 : decode cL_told 410 = .ok (.i2l, 1) := by decide +kernel
theorem dL_told_411 : decode cL_told 411 = .ok (.ladd, 1) := by decide +kernel
theorem dL_told_412 : decode cL_told 412 = .ok (.lreturn, 1) := by decide +kernel
theorem dL_law_0 : decode cL_law 0 = .ok (.new 19, 3) := by decide +kernel
theorem dL_law_3 : decode cL_law 3 = .ok (.dup, 1) := by decide +kernel
theorem dL_law_4 : decode cL_law 4 = .ok (.invokespecial 109, 3) := by decide +kernel
theorem dL_law_7 : decode cL_law 7 = .ok (.invokevirtual 110, 3) := by decide +kernel
theorem dL_law_10 : decode cL_law 10 = .ok (.bipush (-6), 2) := by decide +kernel
theorem dL_law_12 : decode cL_law 12 = .ok (.if_icmp .ne 16, 3) := by decide +kernel
theorem dL_law_15 : decode cL_law 15 = .ok (.new 19, 3) := by decide +kernel
theorem dL_law_18 : decode cL_law 18 = .ok (.dup, 1) := by decide +kernel
theorem dL_law_19 : decode cL_law 19 = .ok (.invokespecial 109, 3) := by decide +kernel
theorem dL_law_22 : decode cL_law 22 = .ok (.invokevirtual 113, 3) := by decide +kernel
theorem dL_law_25 : decode cL_law 25 = .ok (.ifCond .eq 5, 3) := by decide +kernel
theorem dL_law_28 : decode cL_law 28 = .ok (.iconst 0, 1) := by decide +kernel
theorem dL_law_29 : decode cL_law 29 = .ok (.ireturn, 1) := by decide +kernel
theorem dL_law_30 : decode cL_law 30 = .ok (.new 19, 3) := by decide +kernel
theorem dL_law_33 : decode cL_law 33 = .ok (.dup, 1) := by decide +kernel
theorem dL_law_34 : decode cL_law 34 = .ok (.invokespecial 109, 3) := by decide +kernel
theorem dL_law_37 : decode cL_law 37 = .ok (.astore_n 1, 1) := by decide +kernel
theorem dL_law_38 : decode cL_law 38 = .ok (.bipush 37, 2) := by decide +kernel
theorem dL_law_40 : decode cL_law 40 = .ok (.newarray .int, 2) := by decide +kernel
theorem dL_law_42 : decode cL_law 42 = .ok (.astore_n 2, 1) := by decide +kernel
theorem dL_law_43 : decode cL_law 43 = .ok (.aload_n 1, 1) := by decide +kernel
theorem dL_law_44 : decode cL_law 44 = .ok (.aload_n 0, 1) := by decide +kernel
theorem dL_law_45 : decode cL_law 45 = .ok (.aload_n 2, 1) := by decide +kernel
theorem dL_law_46 : decode cL_law 46 = .ok (.invokestatic 116, 3) := by decide +kernel
theorem dL_law_49 : decode cL_law 49 = .ok (.aload_n 2, 1) := by decide +kernel
theorem dL_law_50 : decode cL_law 50 = .ok (.bipush 32, 2) := by decide +kernel
theorem dL_law_52 : decode cL_law 52 = .ok (.iaload, 1) := by decide +kernel
theorem dL_law_53 : decode cL_law 53 = .ok (.istore_n 3, 1) := by decide +kernel
theorem dL_law_54 : decode cL_law 54 = .ok (.aload_n 2, 1) := by decide +kernel
theorem dL_law_55 : decode cL_law 55 = .ok (.bipush 33, 2) := by decide +kernel
theorem dL_law_57 : decode cL_law 57 = .ok (.iaload, 1) := by decide +kernel
theorem dL_law_58 : decode cL_law 58 = .ok (.istore 4, 2) := by decide +kernel
theorem dL_law_60 : decode cL_law 60 = .ok (.aload_n 1, 1) := by decide +kernel
theorem dL_law_61 : decode cL_law 61 = .ok (.invokevirtual 120, 3) := by decide +kernel
theorem dL_law_64 : decode cL_law 64 = .ok (.pop, 1) := by decide +kernel
theorem dL_law_65 : decode cL_law 65 = .ok (.aload_n 1, 1) := by decide +kernel
theorem dL_law_66 : decode cL_law 66 = .ok (.iconst 1, 1) := by decide +kernel
theorem dL_law_67 : decode cL_law 67 = .ok (.aload_n 0, 1) := by decide +kernel
theorem dL_law_68 : decode cL_law 68 = .ok (.bipush 17, 2) := by decide +kernel
theorem dL_law_70 : decode cL_law 70 = .ok (.invokestatic 7, 3) := by decide +kernel
theorem dL_law_73 : decode cL_law 73 = .ok (.bipush 9, 2) := by decide +kernel
theorem dL_law_75 : decode cL_law 75 = .ok (.invokestatic 13, 3) := by decide +kernel
theorem dL_law_78 : decode cL_law 78 = .ok (.iadd, 1) := by decide +kernel
theorem dL_law_79 : decode cL_law 79 = .ok (.invokevirtual 123, 3) := by decide +kernel
theorem dL_law_82 : decode cL_law 82 = .ok (.pop, 1) := by decide +kernel
theorem dL_law_83 : decode cL_law 83 = .ok (.iload 4, 2) := by decide +kernel
theorem dL_law_85 : decode cL_law 85 = .ok (.ifCond .le 32, 3) := by decide +kernel
theorem dL_law_88 : decode cL_law 88 = .ok (.aload_n 1, 1) := by decide +kernel
theorem dL_law_89 : decode cL_law 89 = .ok (.aload_n 0, 1) := by decide +kernel
theorem dL_law_90 : decode cL_law 90 = .ok (.bipush 18, 2) := by decide +kernel
theorem dL_law_92 : decode cL_law 92 = .ok (.invokestatic 7, 3) := by decide +kernel
theorem dL_law_95 : decode cL_law 95 = .ok (.iload 4, 2) := by decide +kernel
theorem dL_law_97 : decode cL_law 97 = .ok (.invokestatic 13, 3) := by decide +kernel
theorem dL_law_100 : decode cL_law 100 = .ok (.aload_n 0, 1) := by decide +kernel
theorem dL_law_101 : decode cL_law 101 = .ok (.bipush 18, 2) := by decide +kernel
theorem dL_law_103 : decode cL_law 103 = .ok (.invokestatic 7, 3) := by decide +kernel
theorem dL_law_106 : decode cL_law 106 = .ok (.iconst 4, 1) := by decide +kernel
theorem dL_law_107 : decode cL_law 107 = .ok (.ishr, 1) := by decide +kernel
theorem dL_law_108 : decode cL_law 108 = .ok (.bipush 16, 2) := by decide +kernel
theorem dL_law_110 : decode cL_law 110 = .ok (.invokestatic 13, 3) := by decide +kernel
theorem dL_law_113 : decode cL_law 113 = .ok (.invokevirtual 126, 3) := by decide +kernel
theorem dL_law_116 : decode cL_law 116 = .ok (.pop, 1) := by decide +kernel
theorem dL_law_117 : decode cL_law 117 = .ok (.aload_n 1, 1) := by decide +kernel
theorem dL_law_118 : decode cL_law 118 = .ok (.invokestatic 129, 3) := by decide +kernel
theorem dL_law_121 : decode cL_law 121 = .ok (.lstore 5, 2) := by decide +kernel
theorem dL_law_123 : decode cL_law 123 = .ok (.aload_n 1, 1) := by decide +kernel
theorem dL_law_124 : decode cL_law 124 = .ok (.invokestatic 129, 3) := by decide +kernel
theorem dL_law_127 : decode cL_law 127 = .ok (.lload 5, 2) := by decide +kernel
theorem dL_law_129 : decode cL_law 129 = .ok (.lcmp, 1) := by decide +kernel
theorem dL_law_130 : decode cL_law 130 = .ok (.ifCond .ne 22, 3) := by decide +kernel
theorem dL_law_133 : decode cL_law 133 = .ok (.aload_n 1, 1) := by decide +kernel
theorem dL_law_134 : decode cL_law 134 = .ok (.invokevirtual 113, 3) := by decide +kernel
theorem dL_law_137 : decode cL_law 137 = .ok (.iload 4, 2) := by decide +kernel
theorem dL_law_139 : decode cL_law 139 = .ok (.if_icmp .ne 13, 3) := by decide +kernel
theorem dL_law_142 : decode cL_law 142 = .ok (.aload_n 1, 1) := by decide +kernel
theorem dL_law_143 : decode cL_law 143 = .ok (.invokestatic 129, 3) := by decide +kernel
theorem dL_law_146 : decode cL_law 146 = .ok (.lload 5, 2) := by decide +kernel
theorem dL_law_148 : decode cL_law 148 = .ok (.lcmp, 1) := by decide +kernel
theorem dL_law_149 : decode cL_law 149 = .ok (.ifCond .eq 5, 3) := by decide +kernel
theorem dL_law_152 : decode cL_law 152 = .ok (.iconst 0, 1) := by decide +kernel
theorem dL_law_153 : decode cL_law 153 = .ok (.ireturn, 1) := by decide +kernel
theorem dL_law_154 : decode cL_law 154 = .ok (.aload_n 1, 1) := by decide +kernel
theorem dL_law_155 : decode cL_law 155 = .ok (.iconst (-1), 1) := by decide +kernel
theorem dL_law_156 : decode cL_law 156 = .ok (.invokevirtual 18, 3) := by decide +kernel
theorem dL_law_159 : decode cL_law 159 = .ok (.bipush (-6), 2) := by decide +kernel
theorem dL_law_161 : decode cL_law 161 = .ok (.if_icmp .ne 136, 3) := by decide +kernel
theorem dL_law_164 : decode cL_law 164 = .ok (.aload_n 1, 1) := by decide +kernel
theorem dL_law_165 : decode cL_law 165 = .ok (.bipush 7, 2) := by decide +kernel
theorem dL_law_167 : decode cL_law 167 = .ok (.iconst 0, 1) := by decide +kernel
theorem dL_law_168 : decode cL_law 168 = .ok (.iconst 0, 1) := by decide +kernel
theorem dL_law_169 : decode cL_law 169 = .ok (.invokevirtual 24, 3) := by decide +kernel
theorem dL_law_172 : decode cL_law 172 = .ok (.iconst (-1), 1) := by decide +kernel
theorem dL_law_173 : decode cL_law 173 = .ok (.if_icmp .ne 124, 3) := by decide +kernel
theorem dL_law_176 : decode cL_law 176 = .ok (.aload_n 1, 1) := by decide +kernel
theorem dL_law_177 : decode cL_law 177 = .ok (.iconst 0, 1) := by decide +kernel
theorem dL_law_178 : decode cL_law 178 = .ok (.bipush 10, 2) := by decide +kernel
theorem dL_law_180 : decode cL_law 180 = .ok (.iconst 0, 1) := by decide +kernel
theorem dL_law_181 : decode cL_law 181 = .ok (.invokevirtual 24, 3) := by decide +kernel
theorem dL_law_184 : decode cL_law 184 = .ok (.bipush (-6), 2) := by decide +kernel
theorem dL_law_186 : decode cL_law 186 = .ok (.if_icmp .ne 111, 3) := by decide +kernel
theorem dL_law_189 : decode cL_law 189 = .ok (.aload_n 1, 1) := by decide +kernel
theorem dL_law_190 : decode cL_law 190 = .ok (.iload 4, 2) := by decide +kernel
theorem dL_law_192 : decode cL_law 192 = .ok (.iconst 0, 1) := by decide +kernel
theorem dL_law_193 : decode cL_law 193 = .ok (.invokevirtual 28, 3) := by decide +kernel
theorem dL_law_196 : decode cL_law 196 = .ok (.iconst (-1), 1) := by decide +kernel
theorem dL_law_197 : decode cL_law 197 = .ok (.if_icmp .ne 100, 3) := by decide +kernel
theorem dL_law_200 : decode cL_law 200 = .ok (.aload_n 1, 1) := by decide +kernel
theorem dL_law_201 : decode cL_law 201 = .ok (.iconst 0, 1) := by decide +kernel
theorem dL_law_202 : decode cL_law 202 = .ok (.bipush 41, 2) := by decide +kernel
theorem dL_law_204 : decode cL_law 204 = .ok (.invokevirtual 34, 3) := by decide +kernel
theorem dL_law_207 : decode cL_law 207 = .ok (.bipush (-6), 2) := by decide +kernel
theorem dL_law_209 : decode cL_law 209 = .ok (.if_icmp .ne 88, 3) := by decide +kernel
theorem dL_law_212 : decode cL_law 212 = .ok (.aload_n 1, 1) := by decide +kernel
theorem dL_law_213 : decode cL_law 213 = .ok (.iconst (-1), 1) := by decide +kernel
theorem dL_law_214 : decode cL_law 214 = .ok (.iconst 0, 1) := by decide +kernel
theorem dL_law_215 : decode cL_law 215 = .ok (.invokevirtual 133, 3) := by decide +kernel
theorem dL_law_218 : decode cL_law 218 = .ok (.iconst (-1), 1) := by decide +kernel
theorem dL_law_219 : decode cL_law 219 = .ok (.if_icmp .ne 78, 3) := by decide +kernel
theorem dL_law_222 : decode cL_law 222 = .ok (.aload_n 1, 1) := by decide +kernel
theorem dL_law_223 : decode cL_law 223 = .ok (.iconst 0, 1) := by decide +kernel
theorem dL_law_224 : decode cL_law 224 = .ok (.invokevirtual 136, 3) := by decide +kernel
theorem dL_law_227 : decode cL_law 227 = .ok (.bipush (-3), 2) := by decide +kernel
theorem dL_law_229 : decode cL_law 229 = .ok (.if_icmp .ne 68, 3) := by decide +kernel
theorem dL_law_232 : decode cL_law 232 = .ok (.aload_n 1, 1) := by decide +kernel
theorem dL_law_233 : decode cL_law 233 = .ok (.iconst 0, 1) := by decide +kernel
theorem dL_law_234 : decode cL_law 234 = .ok (.invokevirtual 123, 3) := by decide +kernel
theorem dL_law_237 : decode cL_law 237 = .ok (.bipush (-6), 2) := by decide +kernel
theorem dL_law_239 : decode cL_law 239 = .ok (.if_icmp .ne 58, 3) := by decide +kernel
theorem dL_law_242 : decode cL_law 242 = .ok (.aload_n 1, 1) := by decide +kernel
theorem dL_law_243 : decode cL_law 243 = .ok (.iload 4, 2) := by decide +kernel
theorem dL_law_245 : decode cL_law 245 = .ok (.iconst 0, 1) := by decide +kernel
theorem dL_law_246 : decode cL_law 246 = .ok (.invokevirtual 126, 3) := by decide +kernel
theorem dL_law_249 : decode cL_law 249 = .ok (.iconst (-1), 1) := by decide +kernel
theorem dL_law_250 : decode cL_law 250 = .ok (.if_icmp .ne 47, 3) := by decide +kernel
theorem dL_law_253 : decode cL_law 253 = .ok (.aload_n 1, 1) := by decide +kernel
theorem dL_law_254 : decode cL_law 254 = .ok (.iconst (-1), 1) := by decide +kernel
theorem dL_law_255 : decode cL_law 255 = .ok (.iconst 0, 1) := by decide +kernel
theorem dL_law_256 : decode cL_law 256 = .ok (.invokevirtual 31, 3) := by decide +kernel
theorem dL_law_259 : decode cL_law 259 = .ok (.iconst (-1), 1) := by decide +kernel
theorem dL_law_260 : decode cL_law 260 = .ok (.if_icmp .ne 37, 3) := by decide +kernel
theorem dL_law_263 : decode cL_law 263 = .ok (.aload_n 1, 1) := by decide +kernel
theorem dL_law_264 : decode cL_law 264 = .ok (.bipush 41, 2) := by decide +kernel
theorem dL_law_266 : decode cL_law 266 = .ok (.invokevirtual 139, 3) := by decide +kernel
theorem dL_law_269 : decode cL_law 269 = .ok (.bipush (-6), 2) := by decide +kernel
theorem dL_law_271 : decode cL_law 271 = .ok (.if_icmp .ne 26, 3) := by decide +kernel
theorem dL_law_274 : decode cL_law 274 = .ok (.aload_n 1, 1) := by decide +kernel
theorem dL_law_275 : decode cL_law 275 = .ok (.iconst 0, 1) := by decide +kernel
theorem dL_law_276 : decode cL_law 276 = .ok (.iconst 4, 1) := by decide +kernel
theorem dL_law_277 : decode cL_law 277 = .ok (.iconst 3, 1) := by decide +kernel
theorem dL_law_278 : decode cL_law 278 = .ok (.invokevirtual 142, 3) := by decide +kernel
theorem dL_law_281 : decode cL_law 281 = .ok (.bipush (-6), 2) := by decide +kernel
theorem dL_law_283 : decode cL_law 283 = .ok (.if_icmp .ne 14, 3) := by decide +kernel
theorem dL_law_286 : decode cL_law 286 = .ok (.aload_n 1, 1) := by decide +kernel
theorem dL_law_287 : decode cL_law 287 = .ok (.iconst 0, 1) := by decide +kernel
theorem dL_law_288 : decode cL_law 288 = .ok (.bipush 8, 2) := by decide +kernel
theorem dL_law_290 : decode cL_law 290 = .ok (.invokevirtual 145, 3) := by decide +kernel
theorem dL_law_293 : decode cL_law 293 = .ok (.iconst (-1), 1) := by decide +kernel
theorem dL_law_294 : decode cL_law 294 = .ok (.if_icmp .eq 5, 3) := by decide +kernel
theorem dL_law_297 : decode cL_law 297 = .ok (.iconst 0, 1) := by decide +kernel
theorem dL_law_298 : decode cL_law 298 = .ok (.ireturn, 1) := by decide +kernel
theorem dL_law_299 : decode cL_law 299 = .ok (.aload_n 1, 1) := by decide +kernel
theorem dL_law_300 : decode cL_law 300 = .ok (.invokestatic 129, 3) := by decide +kernel
theorem dL_law_303 : decode cL_law 303 = .ok (.lload 5, 2) := by decide +kernel
theorem dL_law_305 : decode cL_law 305 = .ok (.lcmp, 1) := by decide +kernel
theorem dL_law_306 : decode cL_law 306 = .ok (.ifCond .eq 5, 3) := by decide +kernel
theorem dL_law_309 : decode cL_law 309 = .ok (.iconst 0, 1) := by decide +kernel
theorem dL_law_310 : decode cL_law 310 = .ok (.ireturn, 1) := by decide +kernel
theorem dL_law_311 : decode cL_law 311 = .ok (.iconst 0, 1) := by decide +kernel
theorem dL_law_312 : decode cL_law 312 = .ok (.istore 7, 2) := by decide +kernel
theorem dL_law_314 : decode cL_law 314 = .ok (.iload 7, 2) := by decide +kernel
theorem dL_law_316 : decode cL_law 316 = .ok (.iload 4, 2) := by decide +kernel
theorem dL_law_318 : decode cL_law 318 = .ok (.if_icmp .ge 373, 3) := by decide +kernel
theorem dL_law_321 : decode cL_law 321 = .ok (.aload_n 0, 1) := by decide +kernel
theorem dL_law_322 : decode cL_law 322 = .ok (.bipush 19, 2) := by decide +kernel
theorem dL_law_324 : decode cL_law 324 = .ok (.invokestatic 7, 3) := by decide +kernel
theorem dL_law_327 : decode cL_law 327 = .ok (.iload 7, 2) := by decide +kernel
theorem dL_law_329 : decode cL_law 329 = .ok (.ishr, 1) := by decide +kernel
theorem dL_law_330 : decode cL_law 330 = .ok (.iload_n 3, 1) := by decide +kernel
theorem dL_law_331 : decode cL_law 331 = .ok (.iconst 1, 1) := by decide +kernel
theorem dL_law_332 : decode cL_law 332 = .ok (.iadd, 1) := by decide +kernel
theorem dL_law_333 : decode cL_law 333 = .ok (.invokestatic 13, 3) := by decide +kernel
theorem dL_law_336 : decode cL_law 336 = .ok (.iconst 1, 1) := by decide +kernel
theorem dL_law_337 : decode cL_law 337 = .ok (.isub, 1) := by decide +kernel
theorem dL_law_338 : decode cL_law 338 = .ok (.istore 8, 2) := by decide +kernel
theorem dL_law_340 : decode cL_law 340 = .ok (.aload_n 0, 1) := by decide +kernel
theorem dL_law_341 : decode cL_law 341 = .ok (.bipush 20, 2) := by decide +kernel
theorem dL_law_343 : decode cL_law 343 = .ok (.invokestatic 7, 3) := by decide +kernel
theorem dL_law_346 : decode cL_law 346 = .ok (.iload 7, 2) := by decide +kernel
theorem dL_law_348 : decode cL_law 348 = .ok (.ishr, 1) := by decide +kernel
theorem dL_law_349 : decode cL_law 349 = .ok (.iconst 4, 1) := by decide +kernel
theorem dL_law_350 : decode cL_law 350 = .ok (.invokestatic 13, 3) := by decide +kernel
theorem dL_law_353 : decode cL_law 353 = .ok (.istore 9, 2) := by decide +kernel
theorem dL_law_355 : decode cL_law 355 = .ok (.iload 9, 2) := by decide +kernel
theorem dL_law_357 : decode cL_law 357 = .ok (.bipush 16, 2) := by decide +kernel
theorem dL_law_359 : decode cL_law 359 = .ok (.if_icmp .ge 208, 3) := by decide +kernel
theorem dL_law_362 : decode cL_law 362 = .ok (.aload_n 1, 1) := by decide +kernel
theorem dL_law_363 : decode cL_law 363 = .ok (.iload 7, 2) := by decide +kernel
theorem dL_law_365 : decode cL_law 365 = .ok (.iload 8, 2) := by decide +kernel
theorem dL_law_367 : decode cL_law 367 = .ok (.iconst 0, 1) := by decide +kernel
theorem dL_law_368 : decode cL_law 368 = .ok (.iload 9, 2) := by decide +kernel
theorem dL_law_370 : decode cL_law 370 = .ok (.invokevirtual 81, 3) := by decide +kernel
theorem dL_law_373 : decode cL_law 373 = .ok (.istore 10, 2) := by decide +kernel
theorem dL_law_375 : decode cL_law 375 = .ok (.iload 10, 2) := by decide +kernel
theorem dL_law_377 : decode cL_law 377 = .ok (.ifCond .lt 31, 3) := by decide +kernel
theorem dL_law_380 : decode cL_law 380 = .ok (.iload 10, 2) := by decide +kernel
theorem dL_law_382 : decode cL_law 382 = .ok (.bipush 20, 2) := by decide +kernel
theorem dL_law_384 : decode cL_law 384 = .ok (.if_icmp .gt 24, 3) := by decide +kernel
theorem dL_law_387 : decode cL_law 387 = .ok (.aload_n 1, 1) := by decide +kernel
theorem dL_law_388 : decode cL_law 388 = .ok (.iload 7, 2) := by decide +kernel
theorem dL_law_390 : decode cL_law 390 = .ok (.iconst 4, 1) := by decide +kernel
theorem dL_law_391 : decode cL_law 391 = .ok (.invokevirtual 63, 3) := by decide +kernel
theorem dL_law_394 : decode cL_law 394 = .ok (.iload 9, 2) := by decide +kernel
theorem dL_law_396 : decode cL_law 396 = .ok (.ishr, 1) := by decide +kernel
theorem dL_law_397 : decode cL_law 397 = .ok (.iconst 1, 1) := by decide +kernel
theorem dL_law_398 : decode cL_law 398 = .ok (.iand, 1) := by decide +kernel
theorem dL_law_399 : decode cL_law 399 = .ok (.iconst 1, 1) := by decide +kernel
theorem dL_law_400 : decode cL_law 400 = .ok (.if_icmp .ne 10, 3) := by decide +kernel
theorem dL_law_403 : decode cL_law 403 = .ok (.iload 10, 2) := by decide +kernel
theorem dL_law_405 : decode cL_law 405 = .ok (.ifCond .le 5, 3) := by decide +kernel
theorem dL_law_408 : decode cL_law 408 = .ok (.iconst 0, 1) := by decide +kernel
theorem dL_law_409 : decode cL_law 409 = .ok (.ireturn, 1) := by decide +kernel
theorem dL_law_410 : decode cL_law 410 = .ok (.iconst 1, 1) := by decide +kernel
theorem dL_law_411 : decode cL_law 411 = .ok (.istore 11, 2) := by decide +kernel
theorem dL_law_413 : decode cL_law 413 = .ok (.iload 11, 2) := by decide +kernel
theorem dL_law_415 : decode cL_law 415 = .ok (.bipush 25, 2) := by decide +kernel
theorem dL_law_417 : decode cL_law 417 = .ok (.if_icmp .ge 144, 3) := by decide +kernel
theorem dL_law_420 : decode cL_law 420 = .ok (.aload_n 1, 1) := by decide +kernel
theorem dL_law_421 : decode cL_law 421 = .ok (.iload 7, 2) := by decide +kernel
theorem dL_law_423 : decode cL_law 423 = .ok (.iload 8, 2) := by decide +kernel
theorem dL_law_425 : decode cL_law 425 = .ok (.iload 11, 2) := by decide +kernel
theorem dL_law_427 : decode cL_law 427 = .ok (.iload 9, 2) := by decide +kernel
theorem dL_law_429 : decode cL_law 429 = .ok (.invokevirtual 81, 3) := by decide +kernel
theorem dL_law_432 : decode cL_law 432 = .ok (.istore 12, 2) := by decide +kernel
theorem dL_law_434 : decode cL_law 434 = .ok (.iload 12, 2) := by decide +kernel
theorem dL_law_436 : decode cL_law 436 = .ok (.ifCond .lt 113, 3) := by decide +kernel
theorem dL_law_439 : decode cL_law 439 = .ok (.iload 12, 2) := by decide +kernel
theorem dL_law_441 : decode cL_law 441 = .ok (.iload 10, 2) := by decide +kernel
theorem dL_law_443 : decode cL_law 443 = .ok (.if_icmp .gt 106, 3) := by decide +kernel
theorem dL_law_446 : decode cL_law 446 = .ok (.iload 10, 2) := by decide +kernel
theorem dL_law_448 : decode cL_law 448 = .ok (.ifCond .le 28, 3) := by decide +kernel
theorem dL_law_451 : decode cL_law 451 = .ok (.iload 12, 2) := by decide +kernel
theorem dL_law_453 : decode cL_law 453 = .ok (.iload 10, 2) := by decide +kernel
theorem dL_law_455 : decode cL_law 455 = .ok (.aload_n 1, 1) := by decide +kernel
theorem dL_law_456 : decode cL_law 456 = .ok (.iload 7, 2) := by decide +kernel
theorem dL_law_458 : decode cL_law 458 = .ok (.iload 11, 2) := by decide +kernel
theorem dL_law_460 : decode cL_law 460 = .ok (.iconst 1, 1) := by decide +kernel
theorem dL_law_461 : decode cL_law 461 = .ok (.isub, 1) := by decide +kernel
theorem dL_law_462 : decode cL_law 462 = .ok (.invokevirtual 75, 3) := by decide +kernel
theorem dL_law_465 : decode cL_law 465 = .ok (.isub, 1) := by decide +kernel
theorem dL_law_466 : decode cL_law 466 = .ok (.iconst 1, 1) := by decide +kernel
theorem dL_law_467 : decode cL_law 467 = .ok (.isub, 1) := by decide +kernel
theorem dL_law_468 : decode cL_law 468 = .ok (.if_icmp .ge 8, 3) := by decide +kernel
theorem dL_law_471 : decode cL_law 471 = .ok (.iload 12, 2) := by decide +kernel
theorem dL_law_473 : decode cL_law 473 = .ok (.ifCond .gt 76, 3) := by decide +kernel
theorem dL_law_476 : decode cL_law 476 = .ok (.iload 10, 2) := by decide +kernel
theorem dL_law_478 : decode cL_law 478 = .ok (.iload 12, 2) := by decide +kernel
theorem dL_law_480 : decode cL_law 480 = .ok (.isub, 1) := by decide +kernel
theorem dL_law_481 : decode cL_law 481 = .ok (.aload_n 1, 1) := by decide +kernel
theorem dL_law_482 : decode cL_law 482 = .ok (.iload 7, 2) := by decide +kernel
theorem dL_law_484 : decode cL_law 484 = .ok (.iload 11, 2) := by decide +kernel
theorem dL_law_486 : decode cL_law 486 = .ok (.iconst 1, 1) := by decide +kernel
theorem dL_law_487 : decode cL_law 487 = .ok (.isub, 1) := by decide +kernel
theorem dL_law_488 : decode cL_law 488 = .ok (.invokevirtual 75, 3) := by decide +kernel
theorem dL_law_491 : decode cL_law 491 = .ok (.iconst 1, 1) := by decide +kernel
theorem dL_law_492 : decode cL_law 492 = .ok (.iadd, 1) := by decide +kernel
theorem dL_law_493 : decode cL_law 493 = .ok (.if_icmp .gt 56, 3) := by decide +kernel
theorem dL_law_496 : decode cL_law 496 = .ok (.aload_n 1, 1) := by decide +kernel
theorem dL_law_497 : decode cL_law 497 = .ok (.iload 7, 2) := by decide +kernel
theorem dL_law_499 : decode cL_law 499 = .ok (.iload 11, 2) := by decide +kernel
theorem dL_law_501 : decode cL_law 501 = .ok (.iconst 1, 1) := by decide +kernel
theorem dL_law_502 : decode cL_law 502 = .ok (.isub, 1) := by decide +kernel
theorem dL_law_503 : decode cL_law 503 = .ok (.invokevirtual 75, 3) := by decide +kernel
theorem dL_law_506 : decode cL_law 506 = .ok (.ifCond .le 15, 3) := by decide +kernel
theorem dL_law_509 : decode cL_law 509 = .ok (.iload 12, 2) := by decide +kernel
theorem dL_law_511 : decode cL_law 511 = .ok (.iload 10, 2) := by decide +kernel
theorem dL_law_513 : decode cL_law 513 = .ok (.if_icmp .ne 8, 3) := by decide +kernel
theorem dL_law_516 : decode cL_law 516 = .ok (.iload 10, 2) := by decide +kernel
theorem dL_law_518 : decode cL_law 518 = .ok (.ifCond .gt 31, 3) := by decide +kernel
theorem dL_law_521 : decode cL_law 521 = .ok (.aload_n 1, 1) := by decide +kernel
theorem dL_law_522 : decode cL_law 522 = .ok (.iload 7, 2) := by decide +kernel
theorem dL_law_524 : decode cL_law 524 = .ok (.iload 8, 2) := by decide +kernel
theorem dL_law_526 : decode cL_law 526 = .ok (.iload 11, 2) := by decide +kernel
theorem dL_law_528 : decode cL_law 528 = .ok (.invokevirtual 78, 3) := by decide +kernel
theorem dL_law_531 : decode cL_law 531 = .ok (.iload 9, 2) := by decide +kernel
theorem dL_law_533 : decode cL_law 533 = .ok (.ishr, 1) := by decide +kernel
theorem dL_law_534 : decode cL_law 534 = .ok (.iconst 1, 1) := by decide +kernel
theorem dL_law_535 : decode cL_law 535 = .ok (.iand, 1) := by decide +kernel
theorem dL_law_536 : decode cL_law 536 = .ok (.iload 12, 2) := by decide +kernel
theorem dL_law_538 : decode cL_law 538 = .ok (.ifCond .le 7, 3) := by decide +kernel
theorem dL_law_541 : decode cL_law 541 = .ok (.iconst 1, 1) := by decide +kernel
theorem dL_law_542 : decode cL_law 542 = .ok (.goto 4, 3) := by decide +kernel
theorem dL_law_545 : decode cL_law 545 = .ok (.iconst 0, 1) := by decide +kernel
theorem dL_law_546 : decode cL_law 546 = .ok (.if_icmp .eq 5, 3) := by decide +kernel
theorem dL_law_549 : decode cL_law 549 = .ok (.iconst 0, 1) := by decide +kernel
theorem dL_law_550 : decode cL_law 550 = .ok (.ireturn, 1) := by decide +kernel
theorem dL_law_551 : decode cL_law 551 = .ok (.iload 12, 2) := by decide +kernel
theorem dL_law_553 : decode cL_law 553 = .ok (.istore 10, 2) := by decide +kernel
theorem dL_law_555 : decode cL_law 555 = .ok (.iinc 11 1, 3) := by decide +kernel
theorem dL_law_558 : decode cL_law 558 = .ok (.goto (-145), 3) := by decide +kernel
theorem dL_law_561 : decode cL_law 561 = .ok (.iinc 9 4, 3) := by decide +kernel
theorem dL_law_564 : decode cL_law 564 = .ok (.goto (-209), 3) := by decide +kernel
theorem dL_law_567 : decode cL_law 567 = .ok (.iload 8, 2) := by decide +kernel
theorem dL_law_569 : decode cL_law 569 = .ok (.ifCond .ge 6, 3) := by decide +kernel
theorem dL_law_572 : decode cL_law 572 = .ok (.goto 113, 3) := by decide +kernel
theorem dL_law_575 : decode cL_law 575 = .ok (.aload_n 1, 1) := by decide +kernel
theorem dL_law_576 : decode cL_law 576 = .ok (.iload 7, 2) := by decide +kernel
theorem dL_law_578 : decode cL_law 578 = .ok (.iload 8, 2) := by decide +kernel
theorem dL_law_580 : decode cL_law 580 = .ok (.invokevirtual 88, 3) := by decide +kernel
theorem dL_law_583 : decode cL_law 583 = .ok (.istore 9, 2) := by decide +kernel
theorem dL_law_585 : decode cL_law 585 = .ok (.iconst 0, 1) := by decide +kernel
theorem dL_law_586 : decode cL_law 586 = .ok (.istore 10, 2) := by decide +kernel
theorem dL_law_588 : decode cL_law 588 = .ok (.iload 10, 2) := by decide +kernel
theorem dL_law_590 : decode cL_law 590 = .ok (.iload 9, 2) := by decide +kernel
theorem dL_law_592 : decode cL_law 592 = .ok (.if_icmp .gt 52, 3) := by decide +kernel
theorem dL_law_595 : decode cL_law 595 = .ok (.aload_n 1, 1) := by decide +kernel
theorem dL_law_596 : decode cL_law 596 = .ok (.iload 7, 2) := by decide +kernel
theorem dL_law_598 : decode cL_law 598 = .ok (.iload 8, 2) := by decide +kernel
theorem dL_law_600 : decode cL_law 600 = .ok (.iload 10, 2) := by decide +kernel
theorem dL_law_602 : decode cL_law 602 = .ok (.invokevirtual 148, 3) := by decide +kernel
theorem dL_law_605 : decode cL_law 605 = .ok (.iload 8, 2) := by decide +kernel
theorem dL_law_607 : decode cL_law 607 = .ok (.if_icmp .ne 29, 3) := by decide +kernel
theorem dL_law_610 : decode cL_law 610 = .ok (.aload_n 1, 1) := by decide +kernel
theorem dL_law_611 : decode cL_law 611 = .ok (.iload 7, 2) := by decide +kernel
theorem dL_law_613 : decode cL_law 613 = .ok (.aload_n 1, 1) := by decide +kernel
theorem dL_law_614 : decode cL_law 614 = .ok (.iload 7, 2) := by decide +kernel
theorem dL_law_616 : decode cL_law 616 = .ok (.iload 8, 2) := by decide +kernel
theorem dL_law_618 : decode cL_law 618 = .ok (.iload 10, 2) := by decide +kernel
theorem dL_law_620 : decode cL_law 620 = .ok (.invokevirtual 78, 3) := by decide +kernel
theorem dL_law_623 : decode cL_law 623 = .ok (.iload 10, 2) := by decide +kernel
theorem dL_law_625 : decode cL_law 625 = .ok (.invokevirtual 85, 3) := by decide +kernel
theorem dL_law_628 : decode cL_law 628 = .ok (.iload 8, 2) := by decide +kernel
theorem dL_law_630 : decode cL_law 630 = .ok (.ishr, 1) := by decide +kernel
theorem dL_law_631 : decode cL_law 631 = .ok (.iconst 1, 1) := by decide +kernel
theorem dL_law_632 : decode cL_law 632 = .ok (.iand, 1) := by decide +kernel
theorem dL_law_633 : decode cL_law 633 = .ok (.ifCond .ne 5, 3) := by decide +kernel
theorem dL_law_636 : decode cL_law 636 = .ok (.iconst 0, 1) := by decide +kernel
theorem dL_law_637 : decode cL_law 637 = .ok (.ireturn, 1) := by decide +kernel
theorem dL_law_638 : decode cL_law 638 = .ok (.iinc 10 1, 3) := by decide +kernel
theorem dL_law_641 : decode cL_law 641 = .ok (.goto (-53), 3) := by decide +kernel
theorem dL_law_644 : decode cL_law 644 = .ok (.iload 9, 2) := by decide +kernel
theorem dL_law_646 : decode cL_law 646 = .ok (.bipush 24, 2) := by decide +kernel
theorem dL_law_648 : decode cL_law 648 = .ok (.if_icmp .ge 20, 3) := by decide +kernel
theorem dL_law_651 : decode cL_law 651 = .ok (.aload_n 1, 1) := by decide +kernel
theorem dL_law_652 : decode cL_law 652 = .ok (.iload 7, 2) := by decide +kernel
theorem dL_law_654 : decode cL_law 654 = .ok (.iload 8, 2) := by decide +kernel
theorem dL_law_656 : decode cL_law 656 = .ok (.iload 9, 2) := by decide +kernel
theorem dL_law_658 : decode cL_law 658 = .ok (.iconst 1, 1) := by decide +kernel
theorem dL_law_659 : decode cL_law 659 = .ok (.iadd, 1) := by decide +kernel
theorem dL_law_660 : decode cL_law 660 = .ok (.invokevirtual 148, 3) := by decide +kernel
theorem dL_law_663 : decode cL_law 663 = .ok (.iload 8, 2) := by decide +kernel
theorem dL_law_665 : decode cL_law 665 = .ok (.if_icmp .eq 18, 3) := by decide +kernel
theorem dL_law_668 : decode cL_law 668 = .ok (.aload_n 1, 1) := by decide +kernel
theorem dL_law_669 : decode cL_law 669 = .ok (.iload 8, 2) := by decide +kernel
theorem dL_law_671 : decode cL_law 671 = .ok (.invokevirtual 47, 3) := by decide +kernel
theorem dL_law_674 : decode cL_law 674 = .ok (.iload 8, 2) := by decide +kernel
theorem dL_law_676 : decode cL_law 676 = .ok (.ishr, 1) := by decide +kernel
theorem dL_law_677 : decode cL_law 677 = .ok (.iconst 1, 1) := by decide +kernel
theorem dL_law_678 : decode cL_law 678 = .ok (.iand, 1) := by decide +kernel
theorem dL_law_679 : decode cL_law 679 = .ok (.iconst 1, 1) := by decide +kernel
theorem dL_law_680 : decode cL_law 680 = .ok (.if_icmp .ne 5, 3) := by decide +kernel
theorem dL_law_683 : decode cL_law 683 = .ok (.iconst 0, 1) := by decide +kernel
theorem dL_law_684 : decode cL_law 684 = .ok (.ireturn, 1) := by decide +kernel
theorem dL_law_685 : decode cL_law 685 = .ok (.iinc 7 1, 3) := by decide +kernel
theorem dL_law_688 : decode cL_law 688 = .ok (.goto (-374), 3) := by decide +kernel
theorem dL_law_691 : decode cL_law 691 = .ok (.iconst 0, 1) := by decide +kernel
theorem dL_law_692 : decode cL_law 692 = .ok (.istore 7, 2) := by decide +kernel
theorem dL_law_694 : decode cL_law 694 = .ok (.iload 7, 2) := by decide +kernel
theorem dL_law_696 : decode cL_law 696 = .ok (.iload 4, 2) := by decide +kernel
theorem dL_law_698 : decode cL_law 698 = .ok (.if_icmp .ge 60, 3) := by decide +kernel
theorem dL_law_701 : decode cL_law 701 = .ok (.aload_n 1, 1) := by decide +kernel
theorem dL_law_702 : decode cL_law 702 = .ok (.iload 7, 2) := by decide +kernel
theorem dL_law_704 : decode cL_law 704 = .ok (.aload_n 0, 1) := by decide +kernel
theorem dL_law_705 : decode cL_law 705 = .ok (.bipush 21, 2) := by decide +kernel
theorem dL_law_707 : decode cL_law 707 = .ok (.invokestatic 7, 3) := by decide +kernel
theorem dL_law_710 : decode cL_law 710 = .ok (.iload 7, 2) := by decide +kernel
theorem dL_law_712 : decode cL_law 712 = .ok (.ishr, 1) := by decide +kernel
theorem dL_law_713 : decode cL_law 713 = .ok (.iload_n 3, 1) := by decide +kernel
theorem dL_law_714 : decode cL_law 714 = .ok (.iconst 1, 1) := by decide +kernel
theorem dL_law_715 : decode cL_law 715 = .ok (.iadd, 1) := by decide +kernel
theorem dL_law_716 : decode cL_law 716 = .ok (.invokestatic 13, 3) := by decide +kernel
theorem dL_law_719 : decode cL_law 719 = .ok (.iconst 1, 1) := by decide +kernel
theorem dL_law_720 : decode cL_law 720 = .ok (.isub, 1) := by decide +kernel
theorem dL_law_721 : decode cL_law 721 = .ok (.invokevirtual 28, 3) := by decide +kernel
theorem dL_law_724 : decode cL_law 724 = .ok (.ifCond .lt 26, 3) := by decide +kernel
theorem dL_law_727 : decode cL_law 727 = .ok (.aload_n 1, 1) := by decide +kernel
theorem dL_law_728 : decode cL_law 728 = .ok (.iload 7, 2) := by decide +kernel
theorem dL_law_730 : decode cL_law 730 = .ok (.aload_n 0, 1) := by decide +kernel
theorem dL_law_731 : decode cL_law 731 = .ok (.bipush 22, 2) := by decide +kernel
theorem dL_law_733 : decode cL_law 733 = .ok (.invokestatic 7, 3) := by decide +kernel
theorem dL_law_736 : decode cL_law 736 = .ok (.iload 7, 2) := by decide +kernel
theorem dL_law_738 : decode cL_law 738 = .ok (.ishr, 1) := by decide +kernel
theorem dL_law_739 : decode cL_law 739 = .ok (.bipush 10, 2) := by decide +kernel
theorem dL_law_741 : decode cL_law 741 = .ok (.invokestatic 13, 3) := by decide +kernel
theorem dL_law_744 : decode cL_law 744 = .ok (.invokevirtual 133, 3) := by decide +kernel
theorem dL_law_747 : decode cL_law 747 = .ok (.ifCond .ge 5, 3) := by decide +kernel
theorem dL_law_750 : decode cL_law 750 = .ok (.iconst 0, 1) := by decide +kernel
theorem dL_law_751 : decode cL_law 751 = .ok (.ireturn, 1) := by decide +kernel
theorem dL_law_752 : decode cL_law 752 = .ok (.iinc 7 1, 3) := by decide +kernel
theorem dL_law_755 : decode cL_law 755 = .ok (.goto (-61), 3) := by decide +kernel
theorem dL_law_758 : decode cL_law 758 = .ok (.aload_n 1, 1) := by decide +kernel
theorem dL_law_759 : decode cL_law 759 = .ok (.bipush 99, 2) := by decide +kernel
theorem dL_law_761 : decode cL_law 761 = .ok (.invokevirtual 151, 3) := by decide +kernel
theorem dL_law_764 : decode cL_law 764 = .ok (.iconst 1, 1) := by decide +kernel
theorem dL_law_765 : decode cL_law 765 = .ok (.if_icmp .ne 40, 3) := by decide +kernel
theorem dL_law_768 : decode cL_law 768 = .ok (.aload_n 1, 1) := by decide +kernel
theorem dL_law_769 : decode cL_law 769 = .ok (.iconst 3, 1) := by decide +kernel
theorem dL_law_770 : decode cL_law 770 = .ok (.invokevirtual 139, 3) := by decide +kernel
theorem dL_law_773 : decode cL_law 773 = .ok (.ifCond .lt 32, 3) := by decide +kernel
theorem dL_law_776 : decode cL_law 776 = .ok (.aload_n 1, 1) := by decide +kernel
theorem dL_law_777 : decode cL_law 777 = .ok (.iconst 0, 1) := by decide +kernel
theorem dL_law_778 : decode cL_law 778 = .ok (.bipush 7, 2) := by decide +kernel
theorem dL_law_780 : decode cL_law 780 = .ok (.invokevirtual 34, 3) := by decide +kernel
theorem dL_law_783 : decode cL_law 783 = .ok (.ifCond .lt 22, 3) := by decide +kernel
theorem dL_law_786 : decode cL_law 786 = .ok (.aload_n 1, 1) := by decide +kernel
theorem dL_law_787 : decode cL_law 787 = .ok (.iconst 1, 1) := by decide +kernel
theorem dL_law_788 : decode cL_law 788 = .ok (.bipush 9, 2) := by decide +kernel
theorem dL_law_790 : decode cL_law 790 = .ok (.invokevirtual 34, 3) := by decide +kernel
theorem dL_law_793 : decode cL_law 793 = .ok (.ifCond .lt 12, 3) := by decide +kernel
theorem dL_law_796 : decode cL_law 796 = .ok (.aload_n 1, 1) := by decide +kernel
theorem dL_law_797 : decode cL_law 797 = .ok (.iconst 2, 1) := by decide +kernel
theorem dL_law_798 : decode cL_law 798 = .ok (.iconst 0, 1) := by decide +kernel
theorem dL_law_799 : decode cL_law 799 = .ok (.invokevirtual 34, 3) := by decide +kernel
theorem dL_law_802 : decode cL_law 802 = .ok (.ifCond .ge 5, 3) := by decide +kernel
theorem dL_law_805 : decode cL_law 805 = .ok (.iconst 0, 1) := by decide +kernel
theorem dL_law_806 : decode cL_law 806 = .ok (.ireturn, 1) := by decide +kernel
theorem dL_law_807 : decode cL_law 807 = .ok (.iconst 0, 1) := by decide +kernel
theorem dL_law_808 : decode cL_law 808 = .ok (.istore 7, 2) := by decide +kernel
theorem dL_law_810 : decode cL_law 810 = .ok (.iload 7, 2) := by decide +kernel
theorem dL_law_812 : decode cL_law 812 = .ok (.iload 4, 2) := by decide +kernel
theorem dL_law_814 : decode cL_law 814 = .ok (.if_icmp .ge 34, 3) := by decide +kernel
theorem dL_law_817 : decode cL_law 817 = .ok (.iconst 0, 1) := by decide +kernel
theorem dL_law_818 : decode cL_law 818 = .ok (.istore 8, 2) := by decide +kernel
theorem dL_law_820 : decode cL_law 820 = .ok (.iload 8, 2) := by decide +kernel
theorem dL_law_822 : decode cL_law 822 = .ok (.bipush 16, 2) := by decide +kernel
theorem dL_law_824 : decode cL_law 824 = .ok (.if_icmp .ge 18, 3) := by decide +kernel
theorem dL_law_827 : decode cL_law 827 = .ok (.aload_n 1, 1) := by decide +kernel
theorem dL_law_828 : decode cL_law 828 = .ok (.iload 7, 2) := by decide +kernel
theorem dL_law_830 : decode cL_law 830 = .ok (.iload 8, 2) := by decide +kernel
theorem dL_law_832 : decode cL_law 832 = .ok (.invokevirtual 31, 3) := by decide +kernel
theorem dL_law_835 : decode cL_law 835 = .ok (.pop, 1) := by decide +kernel
theorem dL_law_836 : decode cL_law 836 = .ok (.iinc 8 5, 3) := by decide +kernel
theorem dL_law_839 : decode cL_law 839 = .ok (.goto (-19), 3) := by decide +kernel
theorem dL_law_842 : decode cL_law 842 = .ok (.iinc 7 1, 3) := by decide +kernel
theorem dL_law_845 : decode cL_law 845 = .ok (.goto (-35), 3) := by decide +kernel
theorem dL_law_848 : decode cL_law 848 = .ok (.iconst 0, 1) := by decide +kernel
theorem dL_law_849 : decode cL_law 849 = .ok (.istore 7, 2) := by decide +kernel
theorem dL_law_851 : decode cL_law 851 = .ok (.aload_n 1, 1) := by decide +kernel
theorem dL_law_852 : decode cL_law 852 = .ok (.bipush 17, 2) := by decide +kernel
theorem dL_law_854 : decode cL_law 854 = .ok (.iload 7, 2) := by decide +kernel
theorem dL_law_856 : decode cL_law 856 = .ok (.imul, 1) := by decide +kernel
theorem dL_law_857 : decode cL_law 857 = .ok (.invokevirtual 18, 3) := by decide +kernel
theorem dL_law_860 : decode cL_law 860 = .ok (.ifCond .lt 9, 3) := by decide +kernel
theorem dL_law_863 : decode cL_law 863 = .ok (.iinc 7 1, 3) := by decide +kernel
theorem dL_law_866 : decode cL_law 866 = .ok (.goto (-15), 3) := by decide +kernel
theorem dL_law_869 : decode cL_law 869 = .ok (.iload_n 3, 1) := by decide +kernel
theorem dL_law_870 : decode cL_law 870 = .ok (.iload 7, 2) := by decide +kernel
theorem dL_law_872 : decode cL_law 872 = .ok (.iadd, 1) := by decide +kernel
theorem dL_law_873 : decode cL_law 873 = .ok (.bipush 8, 2) := by decide +kernel
theorem dL_law_875 : decode cL_law 875 = .ok (.if_icmp .eq 5, 3) := by decide +kernel
theorem dL_law_878 : decode cL_law 878 = .ok (.iconst 0, 1) := by decide +kernel
theorem dL_law_879 : decode cL_law 879 = .ok (.ireturn, 1) := by decide +kernel
theorem dL_law_880 : decode cL_law 880 = .ok (.iconst 0, 1) := by decide +kernel
theorem dL_law_881 : decode cL_law 881 = .ok (.istore 7, 2) := by decide +kernel
theorem dL_law_883 : decode cL_law 883 = .ok (.aload_n 1, 1) := by decide +kernel
theorem dL_law_884 : decode cL_law 884 = .ok (.iload 7, 2) := by decide +kernel
theorem dL_law_886 : decode cL_law 886 = .ok (.bipush 7, 2) := by decide +kernel
theorem dL_law_888 : decode cL_law 888 = .ok (.irem, 1) := by decide +kernel
theorem dL_law_889 : decode cL_law 889 = .ok (.iconst 3, 1) := by decide +kernel
theorem dL_law_890 : decode cL_law 890 = .ok (.iload 7, 2) := by decide +kernel
theorem dL_law_892 : decode cL_law 892 = .ok (.invokevirtual 24, 3) := by decide +kernel
theorem dL_law_895 : decode cL_law 895 = .ok (.ifCond .lt 9, 3) := by decide +kernel
theorem dL_law_898 : decode cL_law 898 = .ok (.iinc 7 1, 3) := by decide +kernel
theorem dL_law_901 : decode cL_law 901 = .ok (.goto (-18), 3) := by decide +kernel
theorem dL_law_904 : decode cL_law 904 = .ok (.iload 4, 2) := by decide +kernel
theorem dL_law_906 : decode cL_law 906 = .ok (.iload 7, 2) := by decide +kernel
theorem dL_law_908 : decode cL_law 908 = .ok (.iadd, 1) := by decide +kernel
theorem dL_law_909 : decode cL_law 909 = .ok (.bipush 8, 2) := by decide +kernel
theorem dL_law_911 : decode cL_law 911 = .ok (.if_icmp .ne 53, 3) := by decide +kernel
theorem dL_law_914 : decode cL_law 914 = .ok (.aload_n 1, 1) := by decide +kernel
theorem dL_law_915 : decode cL_law 915 = .ok (.iconst 1, 1) := by decide +kernel
theorem dL_law_916 : decode cL_law 916 = .ok (.bipush 7, 2) := by decide +kernel
theorem dL_law_918 : decode cL_law 918 = .ok (.invokevirtual 145, 3) := by decide +kernel
theorem dL_law_921 : decode cL_law 921 = .ok (.iconst 1, 1) := by decide +kernel
theorem dL_law_922 : decode cL_law 922 = .ok (.if_icmp .ne 42, 3) := by decide +kernel
theorem dL_law_925 : decode cL_law 925 = .ok (.iload 4, 2) := by decide +kernel
theorem dL_law_927 : decode cL_law 927 = .ok (.ifCond .le 13, 3) := by decide +kernel
theorem dL_law_930 : decode cL_law 930 = .ok (.aload_n 1, 1) := by decide +kernel
theorem dL_law_931 : decode cL_law 931 = .ok (.iconst 2, 1) := by decide +kernel
theorem dL_law_932 : decode cL_law 932 = .ok (.iconst 0, 1) := by decide +kernel
theorem dL_law_933 : decode cL_law 933 = .ok (.invokevirtual 145, 3) := by decide +kernel
theorem dL_law_936 : decode cL_law 936 = .ok (.iconst 1, 1) := by decide +kernel
theorem dL_law_937 : decode cL_law 937 = .ok (.if_icmp .ne 27, 3) := by decide +kernel
theorem dL_law_940 : decode cL_law 940 = .ok (.aload_n 1, 1) := by decide +kernel
theorem dL_law_941 : decode cL_law 941 = .ok (.iconst 3, 1) := by decide +kernel
theorem dL_law_942 : decode cL_law 942 = .ok (.iconst 1, 1) := by decide +kernel
theorem dL_law_943 : decode cL_law 943 = .ok (.iconst 5, 1) := by decide +kernel
theorem dL_law_944 : decode cL_law 944 = .ok (.invokevirtual 142, 3) := by decide +kernel
theorem dL_law_947 : decode cL_law 947 = .ok (.iconst 1, 1) := by decide +kernel
theorem dL_law_948 : decode cL_law 948 = .ok (.if_icmp .ne 16, 3) := by decide +kernel
theorem dL_law_951 : decode cL_law 951 = .ok (.aload_n 1, 1) := by decide +kernel
theorem dL_law_952 : decode cL_law 952 = .ok (.iconst 3, 1) := by decide +kernel
theorem dL_law_953 : decode cL_law 953 = .ok (.iconst 1, 1) := by decide +kernel
theorem dL_law_954 : decode cL_law 954 = .ok (.ldc2_w 154, 3) := by decide +kernel
theorem dL_law_957 : decode cL_law 957 = .ok (.invokevirtual 156, 3) := by decide +kernel
theorem dL_law_960 : decode cL_law 960 = .ok (.iconst 1, 1) := by decide +kernel
theorem dL_law_961 : decode cL_law 961 = .ok (.if_icmp .eq 5, 3) := by decide +kernel
theorem dL_law_964 : decode cL_law 964 = .ok (.iconst 0, 1) := by decide +kernel
theorem dL_law_965 : decode cL_law 965 = .ok (.ireturn, 1) := by decide +kernel
theorem dL_law_966 : decode cL_law 966 = .ok (.aload_n 1, 1) := by decide +kernel
theorem dL_law_967 : decode cL_law 967 = .ok (.invokevirtual 110, 3) := by decide +kernel
theorem dL_law_970 : decode cL_law 970 = .ok (.iload 4, 2) := by decide +kernel
theorem dL_law_972 : decode cL_law 972 = .ok (.if_icmp .ne 75, 3) := by decide +kernel
theorem dL_law_975 : decode cL_law 975 = .ok (.aload_n 1, 1) := by decide +kernel
theorem dL_law_976 : decode cL_law 976 = .ok (.invokestatic 129, 3) := by decide +kernel
theorem dL_law_979 : decode cL_law 979 = .ok (.lload 5, 2) := by decide +kernel
theorem dL_law_981 : decode cL_law 981 = .ok (.lcmp, 1) := by decide +kernel
theorem dL_law_982 : decode cL_law 982 = .ok (.ifCond .ne 65, 3) := by decide +kernel
theorem dL_law_985 : decode cL_law 985 = .ok (.aload_n 1, 1) := by decide +kernel
theorem dL_law_986 : decode cL_law 986 = .ok (.iconst 1, 1) := by decide +kernel
theorem dL_law_987 : decode cL_law 987 = .ok (.invokevirtual 160, 3) := by decide +kernel
theorem dL_law_990 : decode cL_law 990 = .ok (.iload 4, 2) := by decide +kernel
theorem dL_law_992 : decode cL_law 992 = .ok (.bipush 8, 2) := by decide +kernel
theorem dL_law_994 : decode cL_law 994 = .ok (.if_icmp .ne 8, 3) := by decide +kernel
theorem dL_law_997 : decode cL_law 997 = .ok (.bipush 7, 2) := by decide +kernel
theorem dL_law_999 : decode cL_law 999 = .ok (.goto 4, 3) := by decide +kernel
theorem dL_law_1002 : decode cL_law 1002 = .ok (.iconst (-1), 1) := by decide +kernel
theorem dL_law_1003 : decode cL_law 1003 = .ok (.if_icmp .ne 44, 3) := by decide +kernel
theorem dL_law_1006 : decode cL_law 1006 = .ok (.aload_n 1, 1) := by decide +kernel
theorem dL_law_1007 : decode cL_law 1007 = .ok (.iconst 2, 1) := by decide +kernel
theorem dL_law_1008 : decode cL_law 1008 = .ok (.invokevirtual 160, 3) := by decide +kernel
theorem dL_law_1011 : decode cL_law 1011 = .ok (.iload 4, 2) := by decide +kernel
theorem dL_law_1013 : decode cL_law 1013 = .ok (.ifCond .le 7, 3) := by decide +kernel
theorem dL_law_1016 : decode cL_law 1016 = .ok (.iconst 0, 1) := by decide +kernel
theorem dL_law_1017 : decode cL_law 1017 = .ok (.goto 4, 3) := by decide +kernel
theorem dL_law_1020 : decode cL_law 1020 = .ok (.iconst (-1), 1) := by decide +kernel
theorem dL_law_1021 : decode cL_law 1021 = .ok (.if_icmp .ne 26, 3) := by decide +kernel
theorem dL_law_1024 : decode cL_law 1024 = .ok (.aload_n 1, 1) := by decide +kernel
theorem dL_law_1025 : decode cL_law 1025 = .ok (.iconst 3, 1) := by decide +kernel
theorem dL_law_1026 : decode cL_law 1026 = .ok (.invokevirtual 160, 3) := by decide +kernel
theorem dL_law_1029 : decode cL_law 1029 = .ok (.bipush 101, 2) := by decide +kernel
theorem dL_law_1031 : decode cL_law 1031 = .ok (.if_icmp .ne 16, 3) := by decide +kernel
theorem dL_law_1034 : decode cL_law 1034 = .ok (.aload_n 1, 1) := by decide +kernel
theorem dL_law_1035 : decode cL_law 1035 = .ok (.iconst 3, 1) := by decide +kernel
theorem dL_law_1036 : decode cL_law 1036 = .ok (.iconst 1, 1) := by decide +kernel
theorem dL_law_1037 : decode cL_law 1037 = .ok (.invokevirtual 163, 3) := by decide +kernel
theorem dL_law_1040 : decode cL_law 1040 = .ok (.ldc2_w 154, 3) := by decide +kernel
theorem dL_law_1043 : decode cL_law 1043 = .ok (.lcmp, 1) := by decide +kernel
theorem dL_law_1044 : decode cL_law 1044 = .ok (.ifCond .eq 5, 3) := by decide +kernel
theorem dL_law_1047 : decode cL_law 1047 = .ok (.iconst 0, 1) := by decide +kernel
theorem dL_law_1048 : decode cL_law 1048 = .ok (.ireturn, 1) := by decide +kernel
theorem dL_law_1049 : decode cL_law 1049 = .ok (.aload_n 1, 1) := by decide +kernel
theorem dL_law_1050 : decode cL_law 1050 = .ok (.invokevirtual 110, 3) := by decide +kernel
theorem dL_law_1053 : decode cL_law 1053 = .ok (.iload 4, 2) := by decide +kernel
theorem dL_law_1055 : decode cL_law 1055 = .ok (.if_icmp .ne 17, 3) := by decide +kernel
theorem dL_law_1058 : decode cL_law 1058 = .ok (.aload_n 1, 1) := by decide +kernel
theorem dL_law_1059 : decode cL_law 1059 = .ok (.invokestatic 129, 3) := by decide +kernel
theorem dL_law_1062 : decode cL_law 1062 = .ok (.lload 5, 2) := by decide +kernel
theorem dL_law_1064 : decode cL_law 1064 = .ok (.lcmp, 1) := by decide +kernel
theorem dL_law_1065 : decode cL_law 1065 = .ok (.ifCond .ne 7, 3) := by decide +kernel
theorem dL_law_1068 : decode cL_law 1068 = .ok (.iconst 1, 1) := by decide +kernel
theorem dL_law_1069 : decode cL_law 1069 = .ok (.goto 4, 3) := by decide +kernel
theorem dL_law_1072 : decode cL_law 1072 = .ok (.iconst 0, 1) := by decide +kernel
theorem dL_law_1073 : decode cL_law 1073 = .ok (.ireturn, 1) := by decide +kernel
