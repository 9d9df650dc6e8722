def v_L_some (a1 : Int32) (a2 : Int32) : Int32 := if (jrem a1 a2) < 0 then (jrem a1 a2) + a2 else (jrem a1 a2)
def k_L_some (a1 : Int32) (a2 : Int32) : Prop := ¬ a2 = 0
set_option maxRecDepth 100000 in
theorem p_L_some {l : Launch} {g : zG} {I : zI} {L : zL} {a1 : Int32} {a2 : Int32}  (hk0 : k_L_some a1 a2) : Call l g 1 M_L_some [vI a1, vI a2] I L (zp (some (vI (v_L_some a1 a2))) I L) := by
  refine aw_entry (by decide) (Nat.le_of_ble_eq_true rfl) (fun k hk (X : zX k g cL_some RL 3 (some .int) 1) E => ?_)
  show AW k g 3 I L 0 [(0, vI a1), (1, vI a2)] []
  subst hk
  have n1 : ¬ a2 = 0 := hk0
  have hJ : ∀ w1 : Int32, w1 = (if (jrem a1 a2) < 0 then (jrem a1 a2) + a2 else (jrem a1 a2)) → zp (some (vI (v_L_some a1 a2))) I L (some (vI w1)) I L := fun w1 e1 => ⟨by rw [e1]; rfl, rfl, rfl⟩
  refine aw_iload_n X 0 dL_some_0 rfl ?_
  refine aw_iload_n X 1 dL_some_1 rfl ?_
  refine aw_irem X dL_some_2 n1 ?_
  refine aw_istore_n X dL_some_3 (by decide) rfl ?_
  refine aw_iload_n X 0 dL_some_4 rfl ?_
  have hJ3 : ∀ (w1 : Int32), w1 = (if (jrem a1 a2) < 0 then (jrem a1 a2) + a2 else (jrem a1 a2)) → AW k g 3 I L 15 [] [vI w1] := by
    intro w1 q1
    subst q1
    exact aw_iret X E rfl dL_some_15 (hJ _ rfl)
  refine aw_if_gen X 14 dL_some_5 rfl (fun c2 => ?_) (fun c2 => ?_)
  · refine aw_iload_n X 0 dL_some_8 rfl ?_
    refine aw_iload_n X 2 dL_some_9 rfl ?_
    refine aw_iadd X dL_some_10 ?_
    refine aw_goto X 15 dL_some_11 rfl ?_
    refine aw_perm (ks9 := []) [] rfl ?_
    exact hJ3 _ (if_pos c2).symm
  · refine aw_iload_n X 0 dL_some_14 rfl ?_
    refine aw_perm (ks9 := []) [] rfl ?_
    exact hJ3 _ (if_neg c2).symm
theorem ksome_lit {a1 a2 : Int32} (h : ¬ a2 = 0) : k_L_some a1 a2 := h
set_option maxRecDepth 100000 in
theorem s_L_told_20 {k : zK} {g : zG} {Q : Option zv → zI → zL → Prop} {I : zI} {L : zL} {y1 : Int64} {y3 : Int32} {y4 : Int32} {y5 : Int32}  (X : zX k g cL_told RL 7 (some .long) 8) (E : zE k g Q) (h : if y5 < 8 then (Call (kl k) g 2 M_X6_status [vR 1, vI y5] I L (zi fun r2 I2 L2 => AW k g 7 I2 L2 20 [(0, vR 1), (1, vL ((31 * y1) + r2.toInt64)), (3, vI y3), (4, vI y4), (5, vI (y5 + 1))] [])) else (AW k g 7 I L 50 [(0, vR 1), (1, vL y1), (3, vI y3), (4, vI y4), (5, vI 0)] [])) : AW k g 7 I L 20 [(0, vR 1), (1, vL y1), (3, vI y3), (4, vI y4), (5, vI y5)] [] := by
  refine aw_iload X 4 dL_told_20 rfl ?_
  refine aw_bipush (v := 8) X dL_told_22 (by decide) ?_
  refine aw_icmp_gen X 47 dL_told_24 rfl (fun c1 => ?_) (fun c1 => ?_)
  · replace h := zifp c1 h
    refine aw_ldc2 X zw_787 dL_told_27 ?_
    refine aw_lload_n X 1 dL_told_30 rfl ?_
    refine aw_lmul X dL_told_31 ?_
    refine aw_aload_n X 0 dL_told_32 rfl ?_
    refine aw_iload X 4 dL_told_33 rfl ?_
    refine aw_callV X (as := [vI y5]) mf_X6_status zw_779 h zs_1 rfl rfl (by decide) (Nat.le_of_ble_eq_true rfl) dL_told_35 (fun v I2 L2 h => ?_)
    obtain ⟨r2, rfl, h⟩ := h
    refine aw_i2l X dL_told_38 ?_
    refine aw_ladd X dL_told_39 ?_
    refine aw_lstore_n X dL_told_40 (by decide) rfl ?_
    refine aw_iinc (v := y5 + 1) X 4 dL_told_41 rfl rfl (by decide) rfl ?_
    refine aw_goto X 20 dL_told_44 rfl ?_
    refine aw_perm (ks9 := [(0, vR 1), (1, vL ((31 * y1) + r2.toInt64)), (3, vI y3), (4, vI y4), (5, vI (y5 + 1))]) [2, 1, 3, 4, 0] rfl ?_
    exact h
  · replace h := zifn c1 h
    refine aw_iconst (v := 0) X dL_told_47 (by decide) ?_
    refine aw_istore X dL_told_48 (by decide) rfl ?_
    refine aw_perm (ks9 := [(0, vR 1), (1, vL y1), (3, vI y3), (4, vI y4), (5, vI 0)]) [1, 2, 3, 4, 0] rfl ?_
    exact h
set_option maxRecDepth 100000 in
theorem s_L_told_50 {k : zK} {g : zG} {Q : Option zv → zI → zL → Prop} {I : zI} {L : zL} {y1 : Int64} {y3 : Int32} {y4 : Int32} {y5 : Int32}  (X : zX k g cL_told RL 7 (some .long) 8) (E : zE k g Q) (h : if y5 < y3 then (Call (kl k) g 3 M_X6_formOf [vR 1, vI y5] I L (zi fun r2 I2 L2 => Call (kl k) g 6 M_X6_becomes [vR 1, vI y5] I2 L2 (zi fun r3 I3 L3 => Call (kl k) g 4 M_X6_unlike [vR 1, vI y5, vI 0] I3 L3 (zi fun r4 I4 L4 => Call (kl k) g 3 M_X6_formOf [vR 1, vI y5] I4 L4 (zi fun r5 I5 L5 => Call (kl k) g 4 M_X6_reads [vR 1, vI r5] I5 L5 (zi fun r6 I6 L6 => AW k g 7 I6 L6 50 [(0, vR 1), (1, vL (((((31 * y1) + r2.toInt64) + ((3 * r3).toInt64)) + ((5 * r4).toInt64)) + ((7 * r6).toInt64))), (3, vI y3), (4, vI y4), (5, vI (y5 + 1))] [])))))) else (if 1 < y3 then (Call (kl k) g 5 M_X6_closest [vR 1] I L (zi fun r8 I8 L8 => Call (kl k) g 5 M_X6_mend [vR 1, vI 1] I8 L8 (zi fun r9 I9 L9 => AW k g 7 I9 L9 141 [(0, vR 1), (1, vL (((31 * y1) + r8.toInt64) + ((3 * r9).toInt64))), (4, vI y4), (5, vI 0)] []))) else (AW k g 7 I L 141 [(0, vR 1), (1, vL y1), (4, vI y4), (5, vI 0)] []))) : AW k g 7 I L 50 [(0, vR 1), (1, vL y1), (3, vI y3), (4, vI y4), (5, vI y5)] [] := by
  refine aw_iload X 4 dL_told_50 rfl ?_
  refine aw_iload_n X 2 dL_told_52 rfl ?_
  refine aw_icmp_gen X 112 dL_told_53 rfl (fun c1 => ?_) (fun c1 => ?_)
  · replace h := zifp c1 h
    refine aw_ldc2 X zw_787 dL_told_56 ?_
    refine aw_lload_n X 1 dL_told_59 rfl ?_
    refine aw_lmul X dL_told_60 ?_
    refine aw_aload_n X 0 dL_told_61 rfl ?_
    refine aw_iload X 4 dL_told_62 rfl ?_
    refine aw_callV X (as := [vI y5]) mf_X6_formOf zw_788 h zs_1 rfl rfl (by decide) (Nat.le_of_ble_eq_true rfl) dL_told_64 (fun v I2 L2 h => ?_)
    obtain ⟨r2, rfl, h⟩ := h
    refine aw_i2l X dL_told_67 ?_
    refine aw_ladd X dL_told_68 ?_
    refine aw_iconst (v := 3) X dL_told_69 (by decide) ?_
    refine aw_aload_n X 0 dL_told_70 rfl ?_
    refine aw_iload X 4 dL_told_71 rfl ?_
    refine aw_callV X (as := [vI y5]) mf_X6_becomes zw_673 h zs_1 rfl rfl (by decide) (Nat.le_of_ble_eq_true rfl) dL_told_73 (fun v I3 L3 h => ?_)
    obtain ⟨r3, rfl, h⟩ := h
    refine aw_imul X dL_told_76 ?_
    refine aw_i2l X dL_told_77 ?_
    refine aw_ladd X dL_told_78 ?_
    refine aw_iconst (v := 5) X dL_told_79 (by decide) ?_
    refine aw_aload_n X 0 dL_told_80 rfl ?_
    refine aw_iload X 4 dL_told_81 rfl ?_
    refine aw_iconst (v := 0) X dL_told_83 (by decide) ?_
    refine aw_callV X (as := [vI y5, vI 0]) mf_X6_unlike zw_793 h zs_1 rfl rfl (by decide) (Nat.le_of_ble_eq_true rfl) dL_told_84 (fun v I4 L4 h => ?_)
    obtain ⟨r4, rfl, h⟩ := h
    refine aw_imul X dL_told_87 ?_
    refine aw_i2l X dL_told_88 ?_
    refine aw_ladd X dL_told_89 ?_
    refine aw_bipush (v := 7) X dL_told_90 (by decide) ?_
    refine aw_aload_n X 0 dL_told_92 rfl ?_
    refine aw_aload_n X 0 dL_told_93 rfl ?_
    refine aw_iload X 4 dL_told_94 rfl ?_
    refine aw_callV X (as := [vI y5]) mf_X6_formOf zw_788 h zs_1 rfl rfl (by decide) (Nat.le_of_ble_eq_true rfl) dL_told_96 (fun v I5 L5 h => ?_)
    obtain ⟨r5, rfl, h⟩ := h
    refine aw_callV X (as := [vI r5]) mf_X6_reads zw_801 h zs_1 rfl rfl (by decide) (Nat.le_of_ble_eq_true rfl) dL_told_99 (fun v I6 L6 h => ?_)
    obtain ⟨r6, rfl, h⟩ := h
    refine aw_imul X dL_told_102 ?_
    refine aw_i2l X dL_told_103 ?_
    refine aw_ladd X dL_told_104 ?_
    refine aw_lstore_n X dL_told_105 (by decide) rfl ?_
    refine aw_iinc (v := y5 + 1) X 4 dL_told_106 rfl rfl (by decide) rfl ?_
    refine aw_goto X 50 dL_told_109 rfl ?_
    refine aw_perm (ks9 := [(0, vR 1), (1, vL (((((31 * y1) + r2.toInt64) + ((3 * r3).toInt64)) + ((5 * r4).toInt64)) + ((7 * r6).toInt64))), (3, vI y3), (4, vI y4), (5, vI (y5 + 1))]) [2, 1, 3, 4, 0] rfl ?_
    exact h
  · replace h := zifn c1 h
    refine aw_iload_n X 2 dL_told_112 rfl ?_
    refine aw_iconst (v := 1) X dL_told_113 (by decide) ?_
    refine aw_icmp_len X 138 dL_told_114 rfl (fun c7 => ?_) (fun c7 => ?_)
    · replace h := zifp c7 h
      refine aw_ldc2 X zw_787 dL_told_117 ?_
      refine aw_lload_n X 1 dL_told_120 rfl ?_
      refine aw_lmul X dL_told_121 ?_
      refine aw_aload_n X 0 dL_told_122 rfl ?_
      refine aw_callV X (as := []) mf_X6_closest zw_805 h zs_1 rfl rfl (by decide) (Nat.le_of_ble_eq_true rfl) dL_told_123 (fun v I8 L8 h => ?_)
      obtain ⟨r8, rfl, h⟩ := h
      refine aw_i2l X dL_told_126 ?_
      refine aw_ladd X dL_told_127 ?_
      refine aw_iconst (v := 3) X dL_told_128 (by decide) ?_
      refine aw_aload_n X 0 dL_told_129 rfl ?_
      refine aw_iconst (v := 1) X dL_told_130 (by decide) ?_
      refine aw_callV X (as := [vI 1]) mf_X6_mend zw_814 h zs_1 rfl rfl (by decide) (Nat.le_of_ble_eq_true rfl) dL_told_131 (fun v I9 L9 h => ?_)
      obtain ⟨r9, rfl, h⟩ := h
      refine aw_imul X dL_told_134 ?_
      refine aw_i2l X dL_told_135 ?_
      refine aw_ladd X dL_told_136 ?_
      refine aw_lstore_n X dL_told_137 (by decide) rfl ?_
      refine aw_iconst (v := 0) X dL_told_138 (by decide) ?_
      refine aw_istore X dL_told_139 (by decide) rfl ?_
      refine aw_perm (ks9 := [(0, vR 1), (1, vL (((31 * y1) + r8.toInt64) + ((3 * r9).toInt64))), (4, vI y4), (5, vI 0)]) [2, 1, 4, 0] rfl ?_
      exact h
    · replace h := zifn c7 h
      refine aw_iconst (v := 0) X dL_told_138 (by decide) ?_
      refine aw_istore X dL_told_139 (by decide) rfl ?_
      refine aw_perm (ks9 := [(0, vR 1), (1, vL y1), (4, vI y4), (5, vI 0)]) [1, 2, 4, 0] rfl ?_
      exact h
set_option maxRecDepth 100000 in
theorem s_L_told_141 {k : zK} {g : zG} {Q : Option zv → zI → zL → Prop} {I : zI} {L : zL} {y1 : Int64} {y4 : Int32} {y5 : Int32}  (X : zX k g cL_told RL 7 (some .long) 8) (E : zE k g Q) (h : if y5 < y4 then (AW k g 7 I L 151 [(0, vR 1), (1, vL y1), (4, vI y4), (5, vI y5), (6, vI 0)] []) else (AW k g 7 I L 364 [(0, vR 1), (1, vL y1), (5, vI 0)] [])) : AW k g 7 I L 141 [(0, vR 1), (1, vL y1), (4, vI y4), (5, vI y5)] [] := by
  refine aw_iload X 3 dL_told_141 rfl ?_
  refine aw_iload X 2 dL_told_143 rfl ?_
  refine aw_icmp_gen X 361 dL_told_145 rfl (fun c1 => ?_) (fun c1 => ?_)
  · replace h := zifp c1 h
    refine aw_iconst (v := 0) X dL_told_148 (by decide) ?_
    refine aw_istore X dL_told_149 (by decide) rfl ?_
    refine aw_perm (ks9 := [(0, vR 1), (1, vL y1), (4, vI y4), (5, vI y5), (6, vI 0)]) [1, 2, 3, 4, 0] rfl ?_
    exact h
  · replace h := zifn c1 h
    refine aw_iconst (v := 0) X dL_told_361 (by decide) ?_
    refine aw_istore X dL_told_362 (by decide) rfl ?_
    refine aw_perm (ks9 := [(0, vR 1), (1, vL y1), (5, vI 0)]) [1, 2, 0] rfl ?_
    exact h
set_option maxRecDepth 100000 in
theorem s_L_told_151 {k : zK} {g : zG} {Q : Option zv → zI → zL → Prop} {I : zI} {L : zL} {y1 : Int64} {y4 : Int32} {y5 : Int32} {y6 : Int32}  (X : zX k g cL_told RL 7 (some .long) 8) (E : zE k g Q) (h : if y6 < 5 then (Call (kl k) g 4 M_X6_paneOf [vR 1, vI y5, vI y6] I L (zi fun r2 I2 L2 => AW k g 7 I2 L2 151 [(0, vR 1), (1, vL ((31 * y1) + r2.toInt64)), (4, vI y4), (5, vI y5), (6, vI (y6 + 1))] [])) else (AW k g 7 I L 182 [(0, vR 1), (1, vL y1), (4, vI y4), (5, vI y5), (6, vI 0)] [])) : AW k g 7 I L 151 [(0, vR 1), (1, vL y1), (4, vI y4), (5, vI y5), (6, vI y6)] [] := by
  refine aw_iload X 4 dL_told_151 rfl ?_
  refine aw_iconst (v := 5) X dL_told_153 (by decide) ?_
  refine aw_icmp_gen X 179 dL_told_154 rfl (fun c1 => ?_) (fun c1 => ?_)
  · replace h := zifp c1 h
    refine aw_ldc2 X zw_787 dL_told_157 ?_
    refine aw_lload_n X 1 dL_told_160 rfl ?_
    refine aw_lmul X dL_told_161 ?_
    refine aw_aload_n X 0 dL_told_162 rfl ?_
    refine aw_iload X 3 dL_told_163 rfl ?_
    refine aw_iload X 4 dL_told_165 rfl ?_
    refine aw_callV X (as := [vI y5, vI y6]) mf_X6_paneOf zw_369 h zs_1 rfl rfl (by decide) (Nat.le_of_ble_eq_true rfl) dL_told_167 (fun v I2 L2 h => ?_)
    obtain ⟨r2, rfl, h⟩ := h
    refine aw_i2l X dL_told_170 ?_
    refine aw_ladd X dL_told_171 ?_
    refine aw_lstore_n X dL_told_172 (by decide) rfl ?_
    refine aw_iinc (v := y6 + 1) X 4 dL_told_173 rfl rfl (by decide) rfl ?_
    refine aw_goto X 151 dL_told_176 rfl ?_
    refine aw_perm (ks9 := [(0, vR 1), (1, vL ((31 * y1) + r2.toInt64)), (4, vI y4), (5, vI y5), (6, vI (y6 + 1))]) [2, 1, 3, 4, 0] rfl ?_
    exact h
  · replace h := zifn c1 h
    refine aw_iconst (v := 0) X dL_told_179 (by decide) ?_
    refine aw_istore X dL_told_180 (by decide) rfl ?_
    refine aw_perm (ks9 := [(0, vR 1), (1, vL y1), (4, vI y4), (5, vI y5), (6, vI 0)]) [1, 2, 3, 4, 0] rfl ?_
    exact h
set_option maxRecDepth 100000 in
theorem s_L_told_182 {k : zK} {g : zG} {Q : Option zv → zI → zL → Prop} {I : zI} {L : zL} {y1 : Int64} {y4 : Int32} {y5 : Int32} {y6 : Int32}  (X : zX k g cL_told RL 7 (some .long) 8) (E : zE k g Q) (h : if y6 < 17 then (Call (kl k) g 2 M_X6_truth [vR 1, vI y5, vI y6] I L (zi fun r2 I2 L2 => AW k g 7 I2 L2 182 [(0, vR 1), (1, vL ((31 * y1) + r2.toInt64)), (4, vI y4), (5, vI y5), (6, vI (y6 + 1))] [])) else (Call (kl k) g 3 M_X6_hangs [vR 1, vI y5] I L (zi fun r3 I3 L3 => Call (kl k) g 4 M_X6_readOf [vR 1, vI y5] I3 L3 (zi fun r4 I4 L4 => Call (kl k) g 3 M_X6_melt [vR 1, vI y5, vI 9] I4 L4 (zi fun r5 I5 L5 => Call (kl k) g 6 M_X6_shape [vR 1, vI y5, vI r3, vI 3] I5 L5 (zi fun r6 I6 L6 => Call (kl k) g 7 M_X6_ice [vR 1, vI y5, vI (-1), vI 2, vI 5] I6 L6 (zi fun r7 I7 L7 => Call (kl k) g 7 M_X6_could [vR 1, vI y5, vI 4095, vI 1] I7 L7 (zi fun r8 I8 L8 => if r3 < 0 then (AW k g 7 I8 L8 141 [(0, vR 1), (1, vL (((((((31 * y1) + r3.toInt64) + ((3 * r4).toInt64)) + ((5 * r5).toInt64)) + ((7 * r6).toInt64)) + ((11 * r7).toInt64)) + ((13 * r8).toInt64))), (4, vI y4), (5, vI (y5 + 1))] []) else (Call (kl k) g 6 M_X6_lasts [vR 1, vI y5, vI r3] I8 L8 (zi fun r10 I10 L10 => Call (kl k) g 6 M_X6_stove [vR 1, vI y5, vI r3, vI 4] I10 L10 (zi fun r11 I11 L11 => Call (kl k) g 6 M_X6_chill [vR 1, vI y5, vI r3, vI 2] I11 L11 (zi fun r12 I12 L12 => Call (kl k) g 6 M_X6_turns [vR 1, vI y5, vI r3, vI 0] I12 L12 (zi fun r13 I13 L13 => AW k g 7 I13 L13 141 [(0, vR 1), (1, vL (((((31 * (((((((31 * y1) + r3.toInt64) + ((3 * r4).toInt64)) + ((5 * r5).toInt64)) + ((7 * r6).toInt64)) + ((11 * r7).toInt64)) + ((13 * r8).toInt64))) + r10.toInt64) + ((3 * r11).toInt64)) + ((5 * r12).toInt64)) + ((7 * r13).toInt64))), (4, vI y4), (5, vI (y5 + 1))] []))))))))))))) : AW k g 7 I L 182 [(0, vR 1), (1, vL y1), (4, vI y4), (5, vI y5), (6, vI y6)] [] := by
  refine aw_iload X 4 dL_told_182 rfl ?_
  refine aw_bipush (v := 17) X dL_told_184 (by decide) ?_
  refine aw_icmp_gen X 211 dL_told_186 rfl (fun c1 => ?_) (fun c1 => ?_)
  · replace h := zifp c1 h
    refine aw_ldc2 X zw_787 dL_told_189 ?_
    refine aw_lload_n X 1 dL_told_192 rfl ?_
    refine aw_lmul X dL_told_193 ?_
    refine aw_aload_n X 0 dL_told_194 rfl ?_
    refine aw_iload X 3 dL_told_195 rfl ?_
    refine aw_iload X 4 dL_told_197 rfl ?_
    refine aw_callV X (as := [vI y5, vI y6]) mf_X6_truth zw_827 h zs_1 rfl rfl (by decide) (Nat.le_of_ble_eq_true rfl) dL_told_199 (fun v I2 L2 h => ?_)
    obtain ⟨r2, rfl, h⟩ := h
    refine aw_i2l X dL_told_202 ?_
    refine aw_ladd X dL_told_203 ?_
    refine aw_lstore_n X dL_told_204 (by decide) rfl ?_
    refine aw_iinc (v := y6 + 1) X 4 dL_told_205 rfl rfl (by decide) rfl ?_
    refine aw_goto X 182 dL_told_208 rfl ?_
    refine aw_perm (ks9 := [(0, vR 1), (1, vL ((31 * y1) + r2.toInt64)), (4, vI y4), (5, vI y5), (6, vI (y6 + 1))]) [2, 1, 3, 4, 0] rfl ?_
    exact h
  · replace h := zifn c1 h
    refine aw_aload_n X 0 dL_told_211 rfl ?_
    refine aw_iload X 3 dL_told_212 rfl ?_
    refine aw_callV X (as := [vI y5]) mf_X6_hangs zw_833 h zs_1 rfl rfl (by decide) (Nat.le_of_ble_eq_true rfl) dL_told_214 (fun v I3 L3 h => ?_)
    obtain ⟨r3, rfl, h⟩ := h
    refine aw_istore X dL_told_217 (by decide) rfl ?_
    refine aw_ldc2 X zw_787 dL_told_219 ?_
    refine aw_lload_n X 2 dL_told_222 rfl ?_
    refine aw_lmul X dL_told_223 ?_
    refine aw_iload X 0 dL_told_224 rfl ?_
    refine aw_i2l X dL_told_226 ?_
    refine aw_ladd X dL_told_227 ?_
    refine aw_iconst (v := 3) X dL_told_228 (by decide) ?_
    refine aw_aload_n X 1 dL_told_229 rfl ?_
    refine aw_iload X 4 dL_told_230 rfl ?_
    refine aw_callV X (as := [vI y5]) mf_X6_readOf zw_837 h zs_1 rfl rfl (by decide) (Nat.le_of_ble_eq_true rfl) dL_told_232 (fun v I4 L4 h => ?_)
    obtain ⟨r4, rfl, h⟩ := h
    refine aw_imul X dL_told_235 ?_
    refine aw_i2l X dL_told_236 ?_
    refine aw_ladd X dL_told_237 ?_
    refine aw_iconst (v := 5) X dL_told_238 (by decide) ?_
    refine aw_aload_n X 1 dL_told_239 rfl ?_
    refine aw_iload X 4 dL_told_240 rfl ?_
    refine aw_bipush (v := 9) X dL_told_242 (by decide) ?_
    refine aw_callV X (as := [vI y5, vI 9]) mf_X6_melt zw_555 h zs_1 rfl rfl (by decide) (Nat.le_of_ble_eq_true rfl) dL_told_244 (fun v I5 L5 h => ?_)
    obtain ⟨r5, rfl, h⟩ := h
    refine aw_imul X dL_told_247 ?_
    refine aw_i2l X dL_told_248 ?_
    refine aw_ladd X dL_told_249 ?_
    refine aw_bipush (v := 7) X dL_told_250 (by decide) ?_
    refine aw_aload_n X 1 dL_told_252 rfl ?_
    refine aw_iload X 4 dL_told_253 rfl ?_
    refine aw_iload X 0 dL_told_255 rfl ?_
    refine aw_iconst (v := 3) X dL_told_257 (by decide) ?_
    refine aw_callV X (as := [vI y5, vI r3, vI 3]) mf_X6_shape zw_635 h zs_1 rfl rfl (by decide) (Nat.le_of_ble_eq_true rfl) dL_told_258 (fun v I6 L6 h => ?_)
    obtain ⟨r6, rfl, h⟩ := h
    refine aw_imul X dL_told_261 ?_
    refine aw_i2l X dL_told_262 ?_
    refine aw_ladd X dL_told_263 ?_
    refine aw_bipush (v := 11) X dL_told_264 (by decide) ?_
    refine aw_aload_n X 1 dL_told_266 rfl ?_
    refine aw_iload X 4 dL_told_267 rfl ?_
    refine aw_iconst (v := (-1)) X dL_told_269 (by decide) ?_
    refine aw_iconst (v := 2) X dL_told_270 (by decide) ?_
    refine aw_iconst (v := 5) X dL_told_271 (by decide) ?_
    refine aw_callV X (as := [vI y5, vI (-1), vI 2, vI 5]) mf_X6_ice zw_563 h zs_1 rfl rfl (by decide) (Nat.le_of_ble_eq_true rfl) dL_told_272 (fun v I7 L7 h => ?_)
    obtain ⟨r7, rfl, h⟩ := h
    refine aw_imul X dL_told_275 ?_
    refine aw_i2l X dL_told_276 ?_
    refine aw_ladd X dL_told_277 ?_
    refine aw_bipush (v := 13) X dL_told_278 (by decide) ?_
    refine aw_aload_n X 1 dL_told_280 rfl ?_
    refine aw_iload X 4 dL_told_281 rfl ?_
    refine aw_sipush (v := 4095) X dL_told_283 (by decide) ?_
    refine aw_iconst (v := 1) X dL_told_286 (by decide) ?_
    refine aw_callV X (as := [vI y5, vI 4095, vI 1]) mf_X6_could zw_686 h zs_1 rfl rfl (by decide) (Nat.le_of_ble_eq_true rfl) dL_told_287 (fun v I8 L8 h => ?_)
    obtain ⟨r8, rfl, h⟩ := h
    refine aw_imul X dL_told_290 ?_
    refine aw_i2l X dL_told_291 ?_
    refine aw_ladd X dL_told_292 ?_
    refine aw_lstore_n X dL_told_293 (by decide) rfl ?_
    refine aw_iload X 1 dL_told_294 rfl ?_
    refine aw_if_lt X 355 dL_told_296 rfl (fun c9 => ?_) (fun c9 => ?_)
    · replace h := zifp c9 h
      refine aw_iinc (v := y5 + 1) X 4 dL_told_355 rfl rfl (by decide) rfl ?_
      refine aw_goto X 141 dL_told_358 rfl ?_
      refine aw_perm (ks9 := [(0, vR 1), (1, vL (((((((31 * y1) + r3.toInt64) + ((3 * r4).toInt64)) + ((5 * r5).toInt64)) + ((7 * r6).toInt64)) + ((11 * r7).toInt64)) + ((13 * r8).toInt64))), (4, vI y4), (5, vI (y5 + 1))]) [3, 1, 4, 0] rfl ?_
      exact h
    · replace h := zifn c9 h
      refine aw_ldc2 X zw_787 dL_told_299 ?_
      refine aw_lload_n X 0 dL_told_302 rfl ?_
      refine aw_lmul X dL_told_303 ?_
      refine aw_aload_n X 2 dL_told_304 rfl ?_
      refine aw_iload X 4 dL_told_305 rfl ?_
      refine aw_iload X 1 dL_told_307 rfl ?_
      refine aw_callV X (as := [vI y5, vI r3]) mf_X6_lasts zw_657 h zs_1 rfl rfl (by decide) (Nat.le_of_ble_eq_true rfl) dL_told_309 (fun v I10 L10 h => ?_)
      obtain ⟨r10, rfl, h⟩ := h
      refine aw_i2l X dL_told_312 ?_
      refine aw_ladd X dL_told_313 ?_
      refine aw_iconst (v := 3) X dL_told_314 (by decide) ?_
      refine aw_aload_n X 2 dL_told_315 rfl ?_
      refine aw_iload X 4 dL_told_316 rfl ?_
      refine aw_iload X 1 dL_told_318 rfl ?_
      refine aw_iconst (v := 4) X dL_told_320 (by decide) ?_
      refine aw_callV X (as := [vI y5, vI r3, vI 4]) mf_X6_stove zw_841 h zs_1 rfl rfl (by decide) (Nat.le_of_ble_eq_true rfl) dL_told_321 (fun v I11 L11 h => ?_)
      obtain ⟨r11, rfl, h⟩ := h
      refine aw_imul X dL_told_324 ?_
      refine aw_i2l X dL_told_325 ?_
      refine aw_ladd X dL_told_326 ?_
      refine aw_iconst (v := 5) X dL_told_327 (by decide) ?_
      refine aw_aload_n X 2 dL_told_328 rfl ?_
      refine aw_iload X 4 dL_told_329 rfl ?_
      refine aw_iload X 1 dL_told_331 rfl ?_
      refine aw_iconst (v := 2) X dL_told_333 (by decide) ?_
      refine aw_callV X (as := [vI y5, vI r3, vI 2]) mf_X6_chill zw_849 h zs_1 rfl rfl (by decide) (Nat.le_of_ble_eq_true rfl) dL_told_334 (fun v I12 L12 h => ?_)
      obtain ⟨r12, rfl, h⟩ := h
      refine aw_imul X dL_told_337 ?_
      refine aw_i2l X dL_told_338 ?_
      refine aw_ladd X dL_told_339 ?_
      refine aw_bipush (v := 7) X dL_told_340 (by decide) ?_
      refine aw_aload_n X 2 dL_told_342 rfl ?_
      refine aw_iload X 4 dL_told_343 rfl ?_
      refine aw_iload X 1 dL_told_345 rfl ?_
      refine aw_iconst (v := 0) X dL_told_347 (by decide) ?_
      refine aw_callV X (as := [vI y5, vI r3, vI 0]) mf_X6_turns zw_857 h zs_1 rfl rfl (by decide) (Nat.le_of_ble_eq_true rfl) dL_told_348 (fun v I13 L13 h => ?_)
      obtain ⟨r13, rfl, h⟩ := h
      refine aw_imul X dL_told_351 ?_
      refine aw_i2l X dL_told_352 ?_
      refine aw_ladd X dL_told_353 ?_
      refine aw_lstore_n X dL_told_354 (by decide) rfl ?_
      refine aw_iinc (v := y5 + 1) X 4 dL_told_355 rfl rfl (by decide) rfl ?_
      refine aw_goto X 141 dL_told_358 rfl ?_
      refine aw_perm (ks9 := [(0, vR 1), (1, vL (((((31 * (((((((31 * y1) + r3.toInt64) + ((3 * r4).toInt64)) + ((5 * r5).toInt64)) + ((7 * r6).toInt64)) + ((11 * r7).toInt64)) + ((13 * r8).toInt64))) + r10.toInt64) + ((3 * r11).toInt64)) + ((5 * r12).toInt64)) + ((7 * r13).toInt64))), (4, vI y4), (5, vI (y5 + 1))]) [3, 1, 4, 0] rfl ?_
      exact h
set_option maxRecDepth 100000 in
theorem s_L_told_364 {k : zK} {g : zG} {Q : Option zv → zI → zL → Prop} {I : zI} {L : zL} {y1 : Int64} {y5 : Int32}  (X : zX k g cL_told RL 7 (some .long) 8) (E : zE k g Q) (h : if y5 < 25 then (Call (kl k) g 7 M_X6_page [vR 1, vI y5] I L (zi fun r2 I2 L2 => AW k g 7 I2 L2 364 [(0, vR 1), (1, vL ((31 * y1) + r2.toInt64)), (5, vI (y5 + 3))] [])) else (Call (kl k) g 7 M_X6_mistaken [vR 1] I L (zi fun r3 I3 L3 => Call (kl k) g 7 M_X6_let [vR 1] I3 L3 (zi fun r4 I4 L4 => Q (some (vL (((31 * y1) + ((3 * r3).toInt64)) + ((5 * r4).toInt64)))) I4 L4)))) : AW k g 7 I L 364 [(0, vR 1), (1, vL y1), (5, vI y5)] [] := by
  refine aw_iload X 2 dL_told_364 rfl ?_
  refine aw_bipush (v := 25) X dL_told_366 (by decide) ?_
  refine aw_icmp_gen X 391 dL_told_368 rfl (fun c1 => ?_) (fun c1 => ?_)
  · replace h := zifp c1 h
    refine aw_ldc2 X zw_787 dL_told_371 ?_
    refine aw_lload_n X 1 dL_told_374 rfl ?_
    refine aw_lmul X dL_told_375 ?_
    refine aw_aload_n X 0 dL_told_376 rfl ?_
    refine aw_iload X 2 dL_told_377 rfl ?_
    refine aw_callV X (as := [vI y5]) mf_X6_page zw_865 h zs_1 rfl rfl (by decide) (Nat.le_of_ble_eq_true rfl) dL_told_379 (fun v I2 L2 h => ?_)
    obtain ⟨r2, rfl, h⟩ := h
    refine aw_i2l X dL_told_382 ?_
    refine aw_ladd X dL_told_383 ?_
    refine aw_lstore_n X dL_told_384 (by decide) rfl ?_
    refine aw_iinc (v := y5 + 3) X 2 dL_told_385 rfl rfl (by decide) rfl ?_
    refine aw_goto X 364 dL_told_388 rfl ?_
    refine aw_perm (ks9 := [(0, vR 1), (1, vL ((31 * y1) + r2.toInt64)), (5, vI (y5 + 3))]) [2, 1, 0] rfl ?_
    exact h
  · replace h := zifn c1 h
    refine aw_ldc2 X zw_787 dL_told_391 ?_
    refine aw_lload_n X 1 dL_told_394 rfl ?_
    refine aw_lmul X dL_told_395 ?_
    refine aw_iconst (v := 3) X dL_told_396 (by decide) ?_
    refine aw_aload_n X 0 dL_told_397 rfl ?_
    refine aw_callV X (as := []) mf_X6_mistaken zw_873 h zs_1 rfl rfl (by decide) (Nat.le_of_ble_eq_true rfl) dL_told_398 (fun v I3 L3 h => ?_)
    obtain ⟨r3, rfl, h⟩ := h
    refine aw_imul X dL_told_401 ?_
    refine aw_i2l X dL_told_402 ?_
    refine aw_ladd X dL_told_403 ?_
    refine aw_iconst (v := 5) X dL_told_404 (by decide) ?_
    refine aw_aload_n X 0 dL_told_405 rfl ?_
    refine aw_callV X (as := []) mf_X6_let zw_881 h zs_1 rfl rfl (by decide) (Nat.le_of_ble_eq_true rfl) dL_told_406 (fun v I4 L4 h => ?_)
    obtain ⟨r4, rfl, h⟩ := h
    refine aw_imul X dL_told_409 ?_
    refine aw_i2l X dL_told_410 ?_
    refine aw_ladd X dL_told_411 ?_
    exact aw_lret X E rfl dL_told_412 h
set_option maxRecDepth 100000 in
theorem m_L_told {l : Launch} {g : zG} {Q : Option zv → zI → zL → Prop} {I : zI} {L : zL}   (h : ∀ k : zK, kl k = l → zX k g cL_told RL 7 (some .long) 8 → zE k g Q → (Call (kl k) g 2 M_X6_status [vR 1, vI 0] I L (zi fun r1 I1 L1 => Call (kl k) g 2 M_X6_status [vR 1, vI 1] I1 L1 (zi fun r2 I2 L2 => AW k g 7 I2 L2 20 [(0, vR 1), (1, vL 7), (3, vI r1), (4, vI r2), (5, vI 0)] [])))) : Call l g 8 M_L_told [vR 1] I L Q := by
  refine aw_entry (by decide) (Nat.le_of_ble_eq_true rfl) (fun k hk (X : zX k g cL_told RL 7 (some .long) 8) E => ?_)
  show AW k g 7 I L 0 [(0, vR 1)] []
  replace h := h k hk X E
  subst hk
  refine aw_ldc2 X zw_778 dL_told_0 ?_
  refine aw_lstore_n X dL_told_3 (by decide) rfl ?_
  refine aw_aload_n X 1 dL_told_4 rfl ?_
  refine aw_iconst (v := 0) X dL_told_5 (by decide) ?_
  refine aw_callV X (as := [vI 0]) mf_X6_status zw_779 h zs_1 rfl rfl (by decide) (Nat.le_of_ble_eq_true rfl) dL_told_6 (fun v I1 L1 h => ?_)
  obtain ⟨r1, rfl, h⟩ := h
  refine aw_istore_n X dL_told_9 (by decide) rfl ?_
  refine aw_aload_n X 2 dL_told_10 rfl ?_
  refine aw_iconst (v := 1) X dL_told_11 (by decide) ?_
  refine aw_callV X (as := [vI 1]) mf_X6_status zw_779 h zs_1 rfl rfl (by decide) (Nat.le_of_ble_eq_true rfl) dL_told_12 (fun v I2 L2 h => ?_)
  obtain ⟨r2, rfl, h⟩ := h
  refine aw_istore X dL_told_15 (by decide) rfl ?_
  refine aw_iconst (v := 0) X dL_told_17 (by decide) ?_
  refine aw_istore X dL_told_18 (by decide) rfl ?_
  refine aw_perm (ks9 := [(0, vR 1), (1, vL 7), (3, vI r1), (4, vI r2), (5, vI 0)]) [4, 3, 2, 1, 0] rfl ?_
  exact h
set_option maxRecDepth 100000 in
theorem s_L_world_130 {k : zK} {g : zG} {Q : Option zv → zI → zL → Prop} {I : zI} {L : zL} {y3 : Int32} (hb : gb g = true) (X : zX k g cL_world RL 10 none 4) (E : zE k g Q) (h : if y3 < (I 87 32) then (k_L_at g (1 + y3) ∧ (vp_in y3 37 ∧ ((∀ I4 : zI, I4 = (zs I 87 y3.toNatClampNeg ((v_L_at g (1 + y3)) &&& 65535)) → if ((jshr (v_L_at g (1 + y3)) 16) &&& 3) = 0 then (if 0 < y3 then (k_L_some (jshr (v_L_at g (1 + y3)) 18) y3 ∧ (vp_in (v_L_some (jshr (v_L_at g (1 + y3)) 18) y3) 37 ∧ (AW k g 10 (zs I4 87 y3.toNatClampNeg (((I4 87 ((v_L_some (jshr (v_L_at g (1 + y3)) 18) y3).toNatClampNeg)) ^^^ (jshl 1 (v_L_some (jshr (v_L_at g (1 + y3)) 22) 16))) ^^^ (jshl 1 (v_L_some (jshr (v_L_at g (1 + y3)) 26) 16)))) L 209 [(0, vR 1), (1, vR 3000), (2, vR 87), (3, vI y3), (4, vI (v_L_at g (1 + y3)))] []))) else (AW k g 10 I4 L 209 [(0, vR 1), (1, vR 3000), (2, vR 87), (3, vI y3), (4, vI (v_L_at g (1 + y3)))] [])) else (AW k g 10 I4 L 209 [(0, vR 1), (1, vR 3000), (2, vR 87), (3, vI y3), (4, vI (v_L_at g (1 + y3)))] []))))) else (AW k g 10 I L 249 [(0, vR 1), (1, vR 3000), (2, vR 87), (3, vI 0)] [])) : AW k g 10 I L 130 [(0, vR 1), (1, vR 3000), (2, vR 87), (3, vI y3)] [] := by
  refine aw_iload_n X 3 dL_world_130 rfl ?_
  refine aw_aload_n X 2 dL_world_131 rfl ?_
  refine aw_bipush (v := 32) X dL_world_132 (by decide) ?_
  refine aw_baldj (j := 32) X hb (zinof (m := 37) (by decide) (by decide) (by decide)) (by decide) dL_world_134 ?_
  refine aw_icmp_gen X 247 dL_world_135 rfl (fun c1 => ?_) (fun c1 => ?_)
  · replace h := zifp c1 h
    refine aw_aload_n X 1 dL_world_138 rfl ?_
    refine aw_iconst (v := 1) X dL_world_139 (by decide) ?_
    refine aw_iload_n X 3 dL_world_140 rfl ?_
    refine aw_iadd X dL_world_141 ?_
    have n2 := h.1
    replace h := h.2
    refine aw_pS X (as := [vR 3000, vI (1 + y3)]) mf_L_at zw_765 (p_L_at n2) rfl rfl (by decide) (Nat.le_of_ble_eq_true rfl) dL_world_142 ?_
    refine aw_istore X dL_world_145 (by decide) rfl ?_
    refine aw_aload_n X 3 dL_world_147 rfl ?_
    refine aw_iload_n X 4 dL_world_148 rfl ?_
    refine aw_iload X 0 dL_world_149 rfl ?_
    refine aw_ldc X zw_774 dL_world_151 ?_
    refine aw_iand X dL_world_153 ?_
    have n3 := h.1
    replace h := h.2
    refine aw_bastj (j := y3.toNatClampNeg) X hb n3 rfl dL_world_154 ?_
    refine aw_iload X 0 dL_world_155 rfl ?_
    refine aw_bipush (v := 16) X dL_world_157 (by decide) ?_
    refine aw_nameI (fun I4 e4 => ?_)
    replace h := h I4 e4
    refine aw_ishr X dL_world_159 ?_
    refine aw_iconst (v := 3) X dL_world_160 (by decide) ?_
    refine aw_iand X dL_world_161 ?_
    refine aw_if_ne X 209 dL_world_162 rfl (fun c5 => ?_) (fun c5 => ?_)
    · replace h := zifn c5 h
      refine aw_perm (ks9 := [(0, vR 1), (1, vR 3000), (2, vR 87), (3, vI y3), (4, vI (v_L_at g (1 + y3)))]) [1, 2, 3, 4, 0] rfl ?_
      exact h
    · replace h := zifp c5 h
      refine aw_iload_n X 4 dL_world_165 rfl ?_
      refine aw_if_len X 209 dL_world_166 rfl (fun c6 => ?_) (fun c6 => ?_)
      · replace h := zifp c6 h
        refine aw_aload_n X 3 dL_world_169 rfl ?_
        refine aw_iload_n X 4 dL_world_170 rfl ?_
        refine aw_aload_n X 3 dL_world_171 rfl ?_
        refine aw_iload X 0 dL_world_172 rfl ?_
        refine aw_bipush (v := 18) X dL_world_174 (by decide) ?_
        refine aw_ishr X dL_world_176 ?_
        refine aw_iload_n X 4 dL_world_177 rfl ?_
        have n7 := h.1
        replace h := h.2
        refine aw_pS X (as := [vI (jshr (v_L_at g (1 + y3)) 18), vI y3]) mf_L_some zw_768 (p_L_some n7) rfl rfl (by decide) (Nat.le_of_ble_eq_true rfl) dL_world_178 ?_
        have n8 := h.1
        replace h := h.2
        refine aw_baldj (j := (v_L_some (jshr (v_L_at g (1 + y3)) 18) y3).toNatClampNeg) X hb n8 rfl dL_world_181 ?_
        refine aw_iconst (v := 1) X dL_world_182 (by decide) ?_
        refine aw_iload X 0 dL_world_183 rfl ?_
        refine aw_bipush (v := 22) X dL_world_185 (by decide) ?_
        refine aw_ishr X dL_world_187 ?_
        refine aw_bipush (v := 16) X dL_world_188 (by decide) ?_
        refine aw_pS X (as := [vI (jshr (v_L_at g (1 + y3)) 22), vI 16]) mf_L_some zw_768 (p_L_some (ksome_lit (by decide))) rfl rfl (by decide) (Nat.le_of_ble_eq_true rfl) dL_world_190 ?_
        refine aw_ishl X dL_world_193 ?_
        refine aw_ixor X dL_world_194 ?_
        refine aw_iconst (v := 1) X dL_world_195 (by decide) ?_
        refine aw_iload X 0 dL_world_196 rfl ?_
        refine aw_bipush (v := 26) X dL_world_198 (by decide) ?_
        refine aw_ishr X dL_world_200 ?_
        refine aw_bipush (v := 16) X dL_world_201 (by decide) ?_
        refine aw_pS X (as := [vI (jshr (v_L_at g (1 + y3)) 26), vI 16]) mf_L_some zw_768 (p_L_some (ksome_lit (by decide))) rfl rfl (by decide) (Nat.le_of_ble_eq_true rfl) dL_world_203 ?_
        refine aw_ishl X dL_world_206 ?_
        refine aw_ixor X dL_world_207 ?_
        refine aw_bastj (j := y3.toNatClampNeg) X hb n3 rfl dL_world_208 ?_
        refine aw_perm (ks9 := [(0, vR 1), (1, vR 3000), (2, vR 87), (3, vI y3), (4, vI (v_L_at g (1 + y3)))]) [1, 2, 3, 4, 0] rfl ?_
        exact h
      · replace h := zifn c6 h
        refine aw_perm (ks9 := [(0, vR 1), (1, vR 3000), (2, vR 87), (3, vI y3), (4, vI (v_L_at g (1 + y3)))]) [1, 2, 3, 4, 0] rfl ?_
        exact h
  · replace h := zifn c1 h
    refine aw_iconst (v := 0) X dL_world_247 (by decide) ?_
    refine aw_istore_n X dL_world_248 (by decide) rfl ?_
    refine aw_perm (ks9 := [(0, vR 1), (1, vR 3000), (2, vR 87), (3, vI 0)]) [1, 2, 3, 0] rfl ?_
    exact h
set_option maxRecDepth 100000 in
theorem s_L_world_209 {k : zK} {g : zG} {Q : Option zv → zI → zL → Prop} {I : zI} {L : zL} {y3 : Int32} {y4 : Int32} (hb : gb g = true) (X : zX k g cL_world RL 10 none 4) (E : zE k g Q) (h : if ((jshr y4 16) &&& 3) = 1 then (vp_in y3 37 ∧ (AW k g 10 (zs I 87 y3.toNatClampNeg ((I 87 y3.toNatClampNeg) ||| ((jshr y4 4) &&& 65535))) L 233 [(0, vR 1), (1, vR 3000), (2, vR 87), (3, vI y3)] [])) else (AW k g 10 I L 233 [(0, vR 1), (1, vR 3000), (2, vR 87), (3, vI y3)] [])) : AW k g 10 I L 209 [(0, vR 1), (1, vR 3000), (2, vR 87), (3, vI y3), (4, vI y4)] [] := by
  refine aw_iload X 4 dL_world_209 rfl ?_
  refine aw_bipush (v := 16) X dL_world_211 (by decide) ?_
  refine aw_ishr X dL_world_213 ?_
  refine aw_iconst (v := 3) X dL_world_214 (by decide) ?_
  refine aw_iand X dL_world_215 ?_
  refine aw_iconst (v := 1) X dL_world_216 (by decide) ?_
  refine aw_icmp_ne X 233 dL_world_217 rfl (fun c1 => ?_) (fun c1 => ?_)
  · replace h := zifn c1 h
    refine aw_perm (ks9 := [(0, vR 1), (1, vR 3000), (2, vR 87), (3, vI y3)]) [0, 1, 2, 3] rfl ?_
    exact h
  · replace h := zifp c1 h
    refine aw_aload_n X 2 dL_world_220 rfl ?_
    refine aw_iload_n X 3 dL_world_221 rfl ?_
    refine aw_dup2 X dL_world_222 rfl rfl ?_
    have n2 := h.1
    replace h := h.2
    refine aw_baldj (j := y3.toNatClampNeg) X hb n2 rfl dL_world_223 ?_
    refine aw_iload X 4 dL_world_224 rfl ?_
    refine aw_iconst (v := 4) X dL_world_226 (by decide) ?_
    refine aw_ishr X dL_world_227 ?_
    refine aw_ldc X zw_774 dL_world_228 ?_
    refine aw_iand X dL_world_230 ?_
    refine aw_ior X dL_world_231 ?_
    refine aw_bastj (j := y3.toNatClampNeg) X hb n2 rfl dL_world_232 ?_
    refine aw_perm (ks9 := [(0, vR 1), (1, vR 3000), (2, vR 87), (3, vI y3)]) [0, 1, 2, 3] rfl ?_
    exact h
set_option maxRecDepth 100000 in
theorem s_L_world_233 {k : zK} {g : zG} {Q : Option zv → zI → zL → Prop} {I : zI} {L : zL} {y3 : Int32} (hb : gb g = true) (X : zX k g cL_world RL 10 none 4) (E : zE k g Q) (h : vp_in y3 37 ∧ (Call (kl k) g 3 M_X6_form [vR 1, vI (I 87 y3.toNatClampNeg)] I L (zi fun r2 I2 L2 => AW k g 10 I2 L2 130 [(0, vR 1), (1, vR 3000), (2, vR 87), (3, vI (y3 + 1))] []))) : AW k g 10 I L 233 [(0, vR 1), (1, vR 3000), (2, vR 87), (3, vI y3)] [] := by
  refine aw_aload_n X 0 dL_world_233 rfl ?_
  refine aw_aload_n X 2 dL_world_234 rfl ?_
  refine aw_iload_n X 3 dL_world_235 rfl ?_
  have n1 := h.1
  replace h := h.2
  refine aw_baldj (j := y3.toNatClampNeg) X hb n1 rfl dL_world_236 ?_
  refine aw_callV X (as := [vI (I 87 y3.toNatClampNeg)]) mf_X6_form zw_330 h zs_1 rfl rfl (by decide) (Nat.le_of_ble_eq_true rfl) dL_world_237 (fun v I2 L2 h => ?_)
  obtain ⟨r2, rfl, h⟩ := h
  refine aw_pop X dL_world_240 rfl ?_
  refine aw_iinc (v := y3 + 1) X 3 dL_world_241 rfl rfl (by decide) rfl ?_
  refine aw_goto X 130 dL_world_244 rfl ?_
  refine aw_perm (ks9 := [(0, vR 1), (1, vR 3000), (2, vR 87), (3, vI (y3 + 1))]) [1, 2, 3, 0] rfl ?_
  exact h
set_option maxRecDepth 100000 in
theorem s_L_world_249 {k : zK} {g : zG} {Q : Option zv → zI → zL → Prop} {I : zI} {L : zL} {y3 : Int32} (hb : gb g = true) (X : zX k g cL_world RL 10 none 4) (E : zE k g Q) (h : if y3 < (I 87 33) then (k_L_at g (9 + y3) ∧ (k_L_some (jshr (v_L_at g (9 + y3)) 3) (if ((jshr (v_L_at g (9 + y3)) 7) &&& 1) = 0 then 10 else (3 : Int32)) ∧ (vp_in (8 + y3) 37 ∧ ((∀ I7 : zI, I7 = (zs I 87 ((8 + y3).toNatClampNeg) (((v_L_some (v_L_at g (9 + y3)) 7) + (10 * (v_L_some (jshr (v_L_at g (9 + y3)) 3) (if ((jshr (v_L_at g (9 + y3)) 7) &&& 1) = 0 then 10 else (3 : Int32))))) + (100 * (v_L_some (jshr (v_L_at g (9 + y3)) 8) 10)))) → (¬ (((jshr (v_L_at g (9 + y3)) 12) &&& 7) = 0) → (¬ ((I7 87 32) = 0) → k_L_some (jshr (v_L_at g (9 + y3)) 15) (I7 87 32))) ∧ ((∀ u14 : Int32, u14 = (if ((jshr (v_L_at g (9 + y3)) 12) &&& 7) = 0 then (-1) else if (I7 87 32) = 0 then (-1) else (v_L_some (jshr (v_L_at g (9 + y3)) 15) (I7 87 32))) → vp_in (16 + y3) 37 ∧ ((∀ I16 : zI, I16 = (zs I7 87 ((16 + y3).toNatClampNeg) u14) → Call (kl k) g 3 M_X6_pane [vR 1, vI (v_L_some (v_L_at g (9 + y3)) 7), vI (v_L_some (jshr (v_L_at g (9 + y3)) 3) (if ((jshr (v_L_at g (9 + y3)) 7) &&& 1) = 0 then 10 else (3 : Int32))), vI (v_L_some (jshr (v_L_at g (9 + y3)) 8) 10)] I16 L (zi fun r17 I17 L17 => Call (kl k) g 3 M_X6_hang [vR 1, vI y3, vI (I17 87 ((16 + y3).toNatClampNeg))] I17 L17 (zi fun r18 I18 L18 => AW k g 10 I18 L18 399 [(0, vR 1), (1, vR 3000), (2, vR 87), (3, vI y3), (4, vI (v_L_at g (9 + y3))), (8, vI 0)] []))))))))))) else (AW k g 10 I L 488 [(0, vR 1), (2, vR 87), (3, vI 0)] [])) : AW k g 10 I L 249 [(0, vR 1), (1, vR 3000), (2, vR 87), (3, vI y3)] [] := by
  refine aw_iload_n X 3 dL_world_249 rfl ?_
  refine aw_aload_n X 2 dL_world_250 rfl ?_
  refine aw_bipush (v := 33) X dL_world_251 (by decide) ?_
  refine aw_baldj (j := 33) X hb (zinof (m := 37) (by decide) (by decide) (by decide)) (by decide) dL_world_253 ?_
  refine aw_icmp_gen X 486 dL_world_254 rfl (fun c1 => ?_) (fun c1 => ?_)
  · replace h := zifp c1 h
    refine aw_aload_n X 1 dL_world_257 rfl ?_
    refine aw_bipush (v := 9) X dL_world_258 (by decide) ?_
    refine aw_iload_n X 3 dL_world_260 rfl ?_
    refine aw_iadd X dL_world_261 ?_
    have n2 := h.1
    replace h := h.2
    refine aw_pS X (as := [vR 3000, vI (9 + y3)]) mf_L_at zw_765 (p_L_at n2) rfl rfl (by decide) (Nat.le_of_ble_eq_true rfl) dL_world_262 ?_
    refine aw_istore X dL_world_265 (by decide) rfl ?_
    refine aw_iload X 0 dL_world_267 rfl ?_
    refine aw_bipush (v := 7) X dL_world_269 (by decide) ?_
    refine aw_pS X (as := [vI (v_L_at g (9 + y3)), vI 7]) mf_L_some zw_768 (p_L_some (ksome_lit (by decide))) rfl rfl (by decide) (Nat.le_of_ble_eq_true rfl) dL_world_271 ?_
    refine aw_istore X dL_world_274 (by decide) rfl ?_
    refine aw_iload X 1 dL_world_276 rfl ?_
    refine aw_iconst (v := 3) X dL_world_278 (by decide) ?_
    refine aw_ishr X dL_world_279 ?_
    refine aw_iload X 1 dL_world_280 rfl ?_
    refine aw_bipush (v := 7) X dL_world_282 (by decide) ?_
    refine aw_ishr X dL_world_284 ?_
    refine aw_iconst (v := 1) X dL_world_285 (by decide) ?_
    refine aw_iand X dL_world_286 ?_
    have hJ4 : ∀ (w1 : Int32), w1 = (if ((jshr (v_L_at g (9 + y3)) 7) &&& 1) = 0 then 10 else (3 : Int32)) → AW k g 10 I L 296 [(0, vR 1), (1, vR 3000), (2, vR 87), (3, vI y3), (4, vI (v_L_at g (9 + y3))), (5, vI (v_L_some (v_L_at g (9 + y3)) 7))] [vI w1, vI (jshr (v_L_at g (9 + y3)) 3)] := by
      intro w1 q1
      subst q1
      have n5 := h.1
      replace h := h.2
      refine aw_pS X (as := [vI (jshr (v_L_at g (9 + y3)) 3), vI (if ((jshr (v_L_at g (9 + y3)) 7) &&& 1) = 0 then 10 else (3 : Int32))]) mf_L_some zw_768 (p_L_some n5) rfl rfl (by decide) (Nat.le_of_ble_eq_true rfl) dL_world_296 ?_
      refine aw_istore X dL_world_299 (by decide) rfl ?_
      refine aw_iload X 5 dL_world_301 rfl ?_
      refine aw_bipush (v := 8) X dL_world_303 (by decide) ?_
      refine aw_ishr X dL_world_305 ?_
      refine aw_bipush (v := 10) X dL_world_306 (by decide) ?_
      refine aw_pS X (as := [vI (jshr (v_L_at g (9 + y3)) 8), vI 10]) mf_L_some zw_768 (p_L_some (ksome_lit (by decide))) rfl rfl (by decide) (Nat.le_of_ble_eq_true rfl) dL_world_308 ?_
      refine aw_istore X dL_world_311 (by decide) rfl ?_
      refine aw_aload_n X 4 dL_world_313 rfl ?_
      refine aw_bipush (v := 8) X dL_world_314 (by decide) ?_
      refine aw_iload_n X 5 dL_world_316 rfl ?_
      refine aw_iadd X dL_world_317 ?_
      refine aw_iload X 7 dL_world_318 rfl ?_
      refine aw_bipush (v := 10) X dL_world_320 (by decide) ?_
      refine aw_iload X 1 dL_world_322 rfl ?_
      refine aw_imul X dL_world_324 ?_
      refine aw_iadd X dL_world_325 ?_
      refine aw_bipush (v := 100) X dL_world_326 (by decide) ?_
      refine aw_iload X 0 dL_world_328 rfl ?_
      refine aw_imul X dL_world_330 ?_
      refine aw_iadd X dL_world_331 ?_
      have n6 := h.1
      replace h := h.2
      refine aw_bastj (j := (8 + y3).toNatClampNeg) X hb n6 rfl dL_world_332 ?_
      refine aw_aload_n X 4 dL_world_333 rfl ?_
      refine aw_bipush (v := 16) X dL_world_334 (by decide) ?_
      refine aw_iload_n X 5 dL_world_336 rfl ?_
      refine aw_iadd X dL_world_337 ?_
      refine aw_iload X 6 dL_world_338 rfl ?_
      refine aw_bipush (v := 12) X dL_world_340 (by decide) ?_
      refine aw_nameI (fun I7 e7 => ?_)
      replace h := h I7 e7
      refine aw_ishr X dL_world_342 ?_
      refine aw_bipush (v := 7) X dL_world_343 (by decide) ?_
      refine aw_iand X dL_world_345 ?_
      have n12 := h.1
      replace h := h.2
      have hJ13 : ∀ (u14 : Int32), u14 = (if ((jshr (v_L_at g (9 + y3)) 12) &&& 7) = 0 then (-1) else if (I7 87 32) = 0 then (-1) else (v_L_some (jshr (v_L_at g (9 + y3)) 15) (I7 87 32))) → AW k g 10 I7 L 372 [(0, vR 1), (1, vR 3000), (2, vR 87), (3, vI y3), (4, vI (v_L_at g (9 + y3))), (5, vI (v_L_some (v_L_at g (9 + y3)) 7)), (6, vI (v_L_some (jshr (v_L_at g (9 + y3)) 3) (if ((jshr (v_L_at g (9 + y3)) 7) &&& 1) = 0 then 10 else (3 : Int32)))), (7, vI (v_L_some (jshr (v_L_at g (9 + y3)) 8) 10))] [vI u14, vI (16 + y3), vR 87] := by
        intro u14 q1
        replace h := h u14 q1
        have n15 := h.1
        replace h := h.2
        refine aw_bastj (j := (16 + y3).toNatClampNeg) X hb n15 rfl dL_world_372 ?_
        refine aw_aload_n X 0 dL_world_373 rfl ?_
        refine aw_iload X 5 dL_world_374 rfl ?_
        refine aw_iload X 6 dL_world_376 rfl ?_
        refine aw_iload X 7 dL_world_378 rfl ?_
        refine aw_nameI (fun I16 e16 => ?_)
        replace h := h I16 e16
        refine aw_callV X (as := [vI (v_L_some (v_L_at g (9 + y3)) 7), vI (v_L_some (jshr (v_L_at g (9 + y3)) 3) (if ((jshr (v_L_at g (9 + y3)) 7) &&& 1) = 0 then 10 else (3 : Int32))), vI (v_L_some (jshr (v_L_at g (9 + y3)) 8) 10)]) mf_X6_pane zw_347 h zs_1 rfl rfl (by decide) (Nat.le_of_ble_eq_true rfl) dL_world_380 (fun v I17 L17 h => ?_)
        obtain ⟨r17, rfl, h⟩ := h
        refine aw_pop X dL_world_383 rfl ?_
        refine aw_aload_n X 0 dL_world_384 rfl ?_
        refine aw_iload_n X 3 dL_world_385 rfl ?_
        refine aw_aload_n X 2 dL_world_386 rfl ?_
        refine aw_bipush (v := 16) X dL_world_387 (by decide) ?_
        refine aw_iload_n X 3 dL_world_389 rfl ?_
        refine aw_iadd X dL_world_390 ?_
        refine aw_baldj (j := (16 + y3).toNatClampNeg) X hb n15 rfl dL_world_391 ?_
        refine aw_callV X (as := [vI y3, vI (I17 87 ((16 + y3).toNatClampNeg))]) mf_X6_hang zw_388 h zs_1 rfl rfl (by decide) (Nat.le_of_ble_eq_true rfl) dL_world_392 (fun v I18 L18 h => ?_)
        obtain ⟨r18, rfl, h⟩ := h
        refine aw_pop X dL_world_395 rfl ?_
        refine aw_iconst (v := 0) X dL_world_396 (by decide) ?_
        refine aw_istore X dL_world_397 (by decide) rfl ?_
        refine aw_perm (ks9 := [(0, vR 1), (1, vR 3000), (2, vR 87), (3, vI y3), (4, vI (v_L_at g (9 + y3))), (8, vI 0)]) [1, 2, 3, 4, 5, 0] rfl ?_
        exact h
      refine aw_if_eq X 356 dL_world_346 rfl (fun c8 => ?_) (fun c8 => ?_)
      · refine aw_iconst (v := (-1)) X dL_world_356 (by decide) ?_
        refine aw_goto X 372 dL_world_357 rfl ?_
        refine aw_perm (ks9 := [(0, vR 1), (1, vR 3000), (2, vR 87), (3, vI y3), (4, vI (v_L_at g (9 + y3))), (5, vI (v_L_some (v_L_at g (9 + y3)) 7)), (6, vI (v_L_some (jshr (v_L_at g (9 + y3)) 3) (if ((jshr (v_L_at g (9 + y3)) 7) &&& 1) = 0 then 10 else (3 : Int32)))), (7, vI (v_L_some (jshr (v_L_at g (9 + y3)) 8) 10))]) [2, 3, 4, 5, 6, 7, 1, 0] rfl ?_
        exact hJ13 _ (if_pos c8).symm
      · have n11 := (n12 c8)
        refine aw_aload_n X 4 dL_world_349 rfl ?_
        refine aw_bipush (v := 32) X dL_world_350 (by decide) ?_
        refine aw_baldj (j := 32) X hb (zinof (m := 37) (by decide) (by decide) (by decide)) (by decide) dL_world_352 ?_
        refine aw_if_ne X 360 dL_world_353 rfl (fun c9 => ?_) (fun c9 => ?_)
        · have n10 := (n11 c9)
          refine aw_iload X 6 dL_world_360 rfl ?_
          refine aw_bipush (v := 15) X dL_world_362 (by decide) ?_
          refine aw_ishr X dL_world_364 ?_
          refine aw_aload_n X 4 dL_world_365 rfl ?_
          refine aw_bipush (v := 32) X dL_world_366 (by decide) ?_
          refine aw_baldj (j := 32) X hb (zinof (m := 37) (by decide) (by decide) (by decide)) (by decide) dL_world_368 ?_
          refine aw_pS X (as := [vI (jshr (v_L_at g (9 + y3)) 15), vI (I7 87 32)]) mf_L_some zw_768 (p_L_some n10) rfl rfl (by decide) (Nat.le_of_ble_eq_true rfl) dL_world_369 ?_
          refine aw_perm (ks9 := [(0, vR 1), (1, vR 3000), (2, vR 87), (3, vI y3), (4, vI (v_L_at g (9 + y3))), (5, vI (v_L_some (v_L_at g (9 + y3)) 7)), (6, vI (v_L_some (jshr (v_L_at g (9 + y3)) 3) (if ((jshr (v_L_at g (9 + y3)) 7) &&& 1) = 0 then 10 else (3 : Int32)))), (7, vI (v_L_some (jshr (v_L_at g (9 + y3)) 8) 10))]) [2, 3, 4, 5, 6, 7, 1, 0] rfl ?_
          exact hJ13 _ ((if_neg c9).symm.trans (if_neg c8).symm)
        · refine aw_iconst (v := (-1)) X dL_world_356 (by decide) ?_
          refine aw_goto X 372 dL_world_357 rfl ?_
          refine aw_perm (ks9 := [(0, vR 1), (1, vR 3000), (2, vR 87), (3, vI y3), (4, vI (v_L_at g (9 + y3))), (5, vI (v_L_some (v_L_at g (9 + y3)) 7)), (6, vI (v_L_some (jshr (v_L_at g (9 + y3)) 3) (if ((jshr (v_L_at g (9 + y3)) 7) &&& 1) = 0 then 10 else (3 : Int32)))), (7, vI (v_L_some (jshr (v_L_at g (9 + y3)) 8) 10))]) [2, 3, 4, 5, 6, 7, 1, 0] rfl ?_
          exact hJ13 _ ((if_pos c9).symm.trans (if_neg c8).symm)
    refine aw_if_ne X 295 dL_world_287 rfl (fun c3 => ?_) (fun c3 => ?_)
    · refine aw_iconst (v := 3) X dL_world_295 (by decide) ?_
      refine aw_perm (ks9 := [(0, vR 1), (1, vR 3000), (2, vR 87), (3, vI y3), (4, vI (v_L_at g (9 + y3))), (5, vI (v_L_some (v_L_at g (9 + y3)) 7))]) [2, 3, 4, 5, 1, 0] rfl ?_
      exact hJ4 _ (if_neg c3).symm
    · refine aw_bipush (v := 10) X dL_world_290 (by decide) ?_
      refine aw_goto X 296 dL_world_292 rfl ?_
      refine aw_perm (ks9 := [(0, vR 1), (1, vR 3000), (2, vR 87), (3, vI y3), (4, vI (v_L_at g (9 + y3))), (5, vI (v_L_some (v_L_at g (9 + y3)) 7))]) [2, 3, 4, 5, 1, 0] rfl ?_
      exact hJ4 _ (if_pos c3).symm
  · replace h := zifn c1 h
    refine aw_iconst (v := 0) X dL_world_486 (by decide) ?_
    refine aw_istore_n X dL_world_487 (by decide) rfl ?_
    refine aw_perm (ks9 := [(0, vR 1), (2, vR 87), (3, vI 0)]) [1, 3, 0] rfl ?_
    exact h
set_option maxRecDepth 100000 in
theorem s_L_world_399 {k : zK} {g : zG} {Q : Option zv → zI → zL → Prop} {I : zI} {L : zL} {y3 : Int32} {y4 : Int32} {y8 : Int32} (hb : gb g = true) (X : zX k g cL_world RL 10 none 4) (E : zE k g Q) (h : if y8 < 2 then (if ((jshr y4 (27 + y8)) &&& 1) = 0 then (AW k g 10 I L 399 [(0, vR 1), (1, vR 3000), (2, vR 87), (3, vI y3), (4, vI y4), (8, vI (y8 + 1))] []) else (vp_in (24 + y3) 37 ∧ (if ((jshr (I 87 ((24 + y3).toNatClampNeg)) (v_L_some (jshr y4 (19 + (4 * y8))) 16)) &&& 1) = 1 then (AW k g 10 I L 399 [(0, vR 1), (1, vR 3000), (2, vR 87), (3, vI y3), (4, vI y4), (8, vI (y8 + 1))] []) else ((∀ I5 : zI, I5 = (zs I 87 ((24 + y3).toNatClampNeg) ((I 87 ((24 + y3).toNatClampNeg)) ||| (jshl 1 (v_L_some (jshr y4 (19 + (4 * y8))) 16)))) → Call (kl k) g 3 M_X6_scratch [vR 1, vI y3, vI (v_L_some (jshr y4 (19 + (4 * y8))) 16)] I5 L (zi fun r6 I6 L6 => AW k g 10 I6 L6 399 [(0, vR 1), (1, vR 3000), (2, vR 87), (3, vI y3), (4, vI y4), (8, vI (y8 + 1))] [])))))) else (AW k g 10 I L 249 [(0, vR 1), (1, vR 3000), (2, vR 87), (3, vI (y3 + 1))] [])) : AW k g 10 I L 399 [(0, vR 1), (1, vR 3000), (2, vR 87), (3, vI y3), (4, vI y4), (8, vI y8)] [] := by
  refine aw_iload X 5 dL_world_399 rfl ?_
  refine aw_iconst (v := 2) X dL_world_401 (by decide) ?_
  refine aw_icmp_gen X 480 dL_world_402 rfl (fun c1 => ?_) (fun c1 => ?_)
  · replace h := zifp c1 h
    refine aw_iload X 4 dL_world_405 rfl ?_
    refine aw_bipush (v := 19) X dL_world_407 (by decide) ?_
    refine aw_iconst (v := 4) X dL_world_409 (by decide) ?_
    refine aw_iload X 5 dL_world_410 rfl ?_
    refine aw_imul X dL_world_412 ?_
    refine aw_iadd X dL_world_413 ?_
    refine aw_ishr X dL_world_414 ?_
    refine aw_bipush (v := 16) X dL_world_415 (by decide) ?_
    refine aw_pS X (as := [vI (jshr y4 (19 + (4 * y8))), vI 16]) mf_L_some zw_768 (p_L_some (ksome_lit (by decide))) rfl rfl (by decide) (Nat.le_of_ble_eq_true rfl) dL_world_417 ?_
    refine aw_istore X dL_world_420 (by decide) rfl ?_
    refine aw_iload X 5 dL_world_422 rfl ?_
    refine aw_bipush (v := 27) X dL_world_424 (by decide) ?_
    refine aw_iload X 6 dL_world_426 rfl ?_
    refine aw_iadd X dL_world_428 ?_
    refine aw_ishr X dL_world_429 ?_
    refine aw_iconst (v := 1) X dL_world_430 (by decide) ?_
    refine aw_iand X dL_world_431 ?_
    refine aw_if_eq X 474 dL_world_432 rfl (fun c2 => ?_) (fun c2 => ?_)
    · replace h := zifp c2 h
      refine aw_iinc (v := y8 + 1) X 6 dL_world_474 rfl rfl (by decide) rfl ?_
      refine aw_goto X 399 dL_world_477 rfl ?_
      refine aw_perm (ks9 := [(0, vR 1), (1, vR 3000), (2, vR 87), (3, vI y3), (4, vI y4), (8, vI (y8 + 1))]) [2, 3, 4, 5, 6, 0] rfl ?_
      exact h
    · replace h := zifn c2 h
      refine aw_aload_n X 3 dL_world_435 rfl ?_
      refine aw_bipush (v := 24) X dL_world_436 (by decide) ?_
      refine aw_iload_n X 4 dL_world_438 rfl ?_
      refine aw_iadd X dL_world_439 ?_
      have n3 := h.1
      replace h := h.2
      refine aw_baldj (j := (24 + y3).toNatClampNeg) X hb n3 rfl dL_world_440 ?_
      refine aw_iload X 0 dL_world_441 rfl ?_
      refine aw_ishr X dL_world_443 ?_
      refine aw_iconst (v := 1) X dL_world_444 (by decide) ?_
      refine aw_iand X dL_world_445 ?_
      refine aw_iconst (v := 1) X dL_world_446 (by decide) ?_
      refine aw_icmp_ne X 453 dL_world_447 rfl (fun c4 => ?_) (fun c4 => ?_)
      · replace h := zifn c4 h
        refine aw_aload_n X 3 dL_world_453 rfl ?_
        refine aw_bipush (v := 24) X dL_world_454 (by decide) ?_
        refine aw_iload_n X 4 dL_world_456 rfl ?_
        refine aw_iadd X dL_world_457 ?_
        refine aw_dup2 X dL_world_458 rfl rfl ?_
        refine aw_baldj (j := (24 + y3).toNatClampNeg) X hb n3 rfl dL_world_459 ?_
        refine aw_iconst (v := 1) X dL_world_460 (by decide) ?_
        refine aw_iload X 0 dL_world_461 rfl ?_
        refine aw_ishl X dL_world_463 ?_
        refine aw_ior X dL_world_464 ?_
        refine aw_bastj (j := (24 + y3).toNatClampNeg) X hb n3 rfl dL_world_465 ?_
        refine aw_aload_n X 1 dL_world_466 rfl ?_
        refine aw_iload_n X 4 dL_world_467 rfl ?_
        refine aw_iload X 0 dL_world_468 rfl ?_
        refine aw_nameI (fun I5 e5 => ?_)
        replace h := h I5 e5
        refine aw_callV X (as := [vI y3, vI (v_L_some (jshr y4 (19 + (4 * y8))) 16)]) mf_X6_scratch zw_727 h zs_1 rfl rfl (by decide) (Nat.le_of_ble_eq_true rfl) dL_world_470 (fun v I6 L6 h => ?_)
        obtain ⟨r6, rfl, h⟩ := h
        refine aw_pop X dL_world_473 rfl ?_
        refine aw_iinc (v := y8 + 1) X 6 dL_world_474 rfl rfl (by decide) rfl ?_
        refine aw_goto X 399 dL_world_477 rfl ?_
        refine aw_perm (ks9 := [(0, vR 1), (1, vR 3000), (2, vR 87), (3, vI y3), (4, vI y4), (8, vI (y8 + 1))]) [2, 3, 4, 5, 6, 0] rfl ?_
        exact h
      · replace h := zifp c4 h
        refine aw_goto X 474 dL_world_450 rfl ?_
        refine aw_iinc (v := y8 + 1) X 6 dL_world_474 rfl rfl (by decide) rfl ?_
        refine aw_goto X 399 dL_world_477 rfl ?_
        refine aw_perm (ks9 := [(0, vR 1), (1, vR 3000), (2, vR 87), (3, vI y3), (4, vI y4), (8, vI (y8 + 1))]) [2, 3, 4, 5, 6, 0] rfl ?_
        exact h
  · replace h := zifn c1 h
    refine aw_iinc (v := y3 + 1) X 3 dL_world_480 rfl rfl (by decide) rfl ?_
    refine aw_goto X 249 dL_world_483 rfl ?_
    refine aw_perm (ks9 := [(0, vR 1), (1, vR 3000), (2, vR 87), (3, vI (y3 + 1))]) [1, 2, 3, 0] rfl ?_
    exact h
set_option maxRecDepth 100000 in
theorem s_L_world_488 {k : zK} {g : zG} {Q : Option zv → zI → zL → Prop} {I : zI} {L : zL} {y3 : Int32} (hb : gb g = true) (X : zX k g cL_world RL 10 none 4) (E : zE k g Q) (h : if y3 < 3 then (vp_in (34 + y3) 37 ∧ (Call (kl k) g 3 M_X6_ask [vR 1, vI y3, vI (I 87 ((34 + y3).toNatClampNeg))] I L (zi fun r3 I3 L3 => AW k g 10 I3 L3 488 [(0, vR 1), (2, vR 87), (3, vI (y3 + 1))] []))) else (Q none I L)) : AW k g 10 I L 488 [(0, vR 1), (2, vR 87), (3, vI y3)] [] := by
  refine aw_iload_n X 2 dL_world_488 rfl ?_
  refine aw_iconst (v := 3) X dL_world_489 (by decide) ?_
  refine aw_icmp_gen X 511 dL_world_490 rfl (fun c1 => ?_) (fun c1 => ?_)
  · replace h := zifp c1 h
    refine aw_aload_n X 0 dL_world_493 rfl ?_
    refine aw_iload_n X 2 dL_world_494 rfl ?_
    refine aw_aload_n X 1 dL_world_495 rfl ?_
    refine aw_bipush (v := 34) X dL_world_496 (by decide) ?_
    refine aw_iload_n X 2 dL_world_498 rfl ?_
    refine aw_iadd X dL_world_499 ?_
    have n2 := h.1
    replace h := h.2
    refine aw_baldj (j := (34 + y3).toNatClampNeg) X hb n2 rfl dL_world_500 ?_
    refine aw_callV X (as := [vI y3, vI (I 87 ((34 + y3).toNatClampNeg))]) mf_X6_ask zw_400 h zs_1 rfl rfl (by decide) (Nat.le_of_ble_eq_true rfl) dL_world_501 (fun v I3 L3 h => ?_)
    obtain ⟨r3, rfl, h⟩ := h
    refine aw_pop X dL_world_504 rfl ?_
    refine aw_iinc (v := y3 + 1) X 2 dL_world_505 rfl rfl (by decide) rfl ?_
    refine aw_goto X 488 dL_world_508 rfl ?_
    refine aw_perm (ks9 := [(0, vR 1), (2, vR 87), (3, vI (y3 + 1))]) [1, 2, 0] rfl ?_
    exact h
  · replace h := zifn c1 h
    exact aw_vret X E rfl dL_world_511 h
set_option maxRecDepth 100000 in
theorem m_L_world {l : Launch} {g : zG} {Q : Option zv → zI → zL → Prop} {I : zI} {L : zL}  (hb : gb g = true) (h : ∀ k : zK, kl k = l → zX k g cL_world RL 10 none 4 → zE k g Q → ((∀ I1 : zI, I1 = (zs I 87 32 (v_L_some (v_L_at g 0) 9)) → (∀ I2 : zI, I2 = (zs I1 87 33 (v_L_some (jshr (v_L_at g 0) 4) 9)) → (∀ I3 : zI, I3 = (zs I2 87 34 (v_L_some (jshr (v_L_at g 0) 8) 41)) → (∀ u6 : Int32, u6 = (if ((jshr (v_L_at g 0) 14) &&& 1) = 0 then v_L_some (jshr (v_L_at g 0) 15) 10 else (5 + (v_L_some (jshr (v_L_at g 0) 15) 5))) → (∀ I7 : zI, I7 = (zs I3 87 35 u6) → k_L_some (jshr (v_L_at g 0) 19) (if ((jshr (v_L_at g 0) 23) &&& 1) = 0 then 10 else (2 : Int32)) ∧ (AW k g 10 (zs I7 87 36 (v_L_some (jshr (v_L_at g 0) 19) (if ((jshr (v_L_at g 0) 23) &&& 1) = 0 then 10 else (2 : Int32)))) L 130 [(0, vR 1), (1, vR 3000), (2, vR 87), (3, vI 0)] [])))))))) : Call l g 4 M_L_world [vR 1, vR 3000, vR 87] I L Q := by
  refine aw_entry (by decide) (Nat.le_of_ble_eq_true rfl) (fun k hk (X : zX k g cL_world RL 10 none 4) E => ?_)
  show AW k g 10 I L 0 [(0, vR 1), (1, vR 3000), (2, vR 87)] []
  replace h := h k hk X E
  subst hk
  refine aw_aload_n X 2 dL_world_0 rfl ?_
  refine aw_bipush (v := 32) X dL_world_1 (by decide) ?_
  refine aw_aload_n X 1 dL_world_3 rfl ?_
  refine aw_iconst (v := 0) X dL_world_4 (by decide) ?_
  refine aw_pS X (as := [vR 3000, vI 0]) mf_L_at zw_765 (p_L_at (kat_lit (by decide))) rfl rfl (by decide) (Nat.le_of_ble_eq_true rfl) dL_world_5 ?_
  refine aw_bipush (v := 9) X dL_world_8 (by decide) ?_
  refine aw_pS X (as := [vI (v_L_at g 0), vI 9]) mf_L_some zw_768 (p_L_some (ksome_lit (by decide))) rfl rfl (by decide) (Nat.le_of_ble_eq_true rfl) dL_world_10 ?_
  refine aw_bastj (j := 32) X hb (zinof (m := 37) (by decide) (by decide) (by decide)) (by decide) dL_world_13 ?_
  refine aw_aload_n X 2 dL_world_14 rfl ?_
  refine aw_bipush (v := 33) X dL_world_15 (by decide) ?_
  refine aw_aload_n X 1 dL_world_17 rfl ?_
  refine aw_iconst (v := 0) X dL_world_18 (by decide) ?_
  refine aw_nameI (fun I1 e1 => ?_)
  replace h := h I1 e1
  refine aw_pS X (as := [vR 3000, vI 0]) mf_L_at zw_765 (p_L_at (kat_lit (by decide))) rfl rfl (by decide) (Nat.le_of_ble_eq_true rfl) dL_world_19 ?_
  refine aw_iconst (v := 4) X dL_world_22 (by decide) ?_
  refine aw_ishr X dL_world_23 ?_
  refine aw_bipush (v := 9) X dL_world_24 (by decide) ?_
  refine aw_pS X (as := [vI (jshr (v_L_at g 0) 4), vI 9]) mf_L_some zw_768 (p_L_some (ksome_lit (by decide))) rfl rfl (by decide) (Nat.le_of_ble_eq_true rfl) dL_world_26 ?_
  refine aw_bastj (j := 33) X hb (zinof (m := 37) (by decide) (by decide) (by decide)) (by decide) dL_world_29 ?_
  refine aw_aload_n X 2 dL_world_30 rfl ?_
  refine aw_bipush (v := 34) X dL_world_31 (by decide) ?_
  refine aw_aload_n X 1 dL_world_33 rfl ?_
  refine aw_iconst (v := 0) X dL_world_34 (by decide) ?_
  refine aw_nameI (fun I2 e2 => ?_)
  replace h := h I2 e2
  refine aw_pS X (as := [vR 3000, vI 0]) mf_L_at zw_765 (p_L_at (kat_lit (by decide))) rfl rfl (by decide) (Nat.le_of_ble_eq_true rfl) dL_world_35 ?_
  refine aw_bipush (v := 8) X dL_world_38 (by decide) ?_
  refine aw_ishr X dL_world_40 ?_
  refine aw_bipush (v := 41) X dL_world_41 (by decide) ?_
  refine aw_pS X (as := [vI (jshr (v_L_at g 0) 8), vI 41]) mf_L_some zw_768 (p_L_some (ksome_lit (by decide))) rfl rfl (by decide) (Nat.le_of_ble_eq_true rfl) dL_world_43 ?_
  refine aw_bastj (j := 34) X hb (zinof (m := 37) (by decide) (by decide) (by decide)) (by decide) dL_world_46 ?_
  refine aw_aload_n X 2 dL_world_47 rfl ?_
  refine aw_bipush (v := 35) X dL_world_48 (by decide) ?_
  refine aw_aload_n X 1 dL_world_50 rfl ?_
  refine aw_iconst (v := 0) X dL_world_51 (by decide) ?_
  refine aw_nameI (fun I3 e3 => ?_)
  replace h := h I3 e3
  refine aw_pS X (as := [vR 3000, vI 0]) mf_L_at zw_765 (p_L_at (kat_lit (by decide))) rfl rfl (by decide) (Nat.le_of_ble_eq_true rfl) dL_world_52 ?_
  refine aw_bipush (v := 14) X dL_world_55 (by decide) ?_
  refine aw_ishr X dL_world_57 ?_
  refine aw_iconst (v := 1) X dL_world_58 (by decide) ?_
  refine aw_iand X dL_world_59 ?_
  have hJ5 : ∀ (u6 : Int32), u6 = (if ((jshr (v_L_at g 0) 14) &&& 1) = 0 then v_L_some (jshr (v_L_at g 0) 15) 10 else (5 + (v_L_some (jshr (v_L_at g 0) 15) 5))) → AW k g 10 I3 L 93 [(0, vR 1), (1, vR 3000), (2, vR 87)] [vI u6, vI 35, vR 87] := by
    intro u6 q1
    replace h := h u6 q1
    refine aw_bastj (j := 35) X hb (zinof (m := 37) (by decide) (by decide) (by decide)) (by decide) dL_world_93 ?_
    refine aw_aload_n X 2 dL_world_94 rfl ?_
    refine aw_bipush (v := 36) X dL_world_95 (by decide) ?_
    refine aw_aload_n X 1 dL_world_97 rfl ?_
    refine aw_iconst (v := 0) X dL_world_98 (by decide) ?_
    refine aw_nameI (fun I7 e7 => ?_)
    replace h := h I7 e7
    refine aw_pS X (as := [vR 3000, vI 0]) mf_L_at zw_765 (p_L_at (kat_lit (by decide))) rfl rfl (by decide) (Nat.le_of_ble_eq_true rfl) dL_world_99 ?_
    refine aw_bipush (v := 19) X dL_world_102 (by decide) ?_
    refine aw_ishr X dL_world_104 ?_
    refine aw_aload_n X 1 dL_world_105 rfl ?_
    refine aw_iconst (v := 0) X dL_world_106 (by decide) ?_
    refine aw_pS X (as := [vR 3000, vI 0]) mf_L_at zw_765 (p_L_at (kat_lit (by decide))) rfl rfl (by decide) (Nat.le_of_ble_eq_true rfl) dL_world_107 ?_
    refine aw_bipush (v := 23) X dL_world_110 (by decide) ?_
    refine aw_ishr X dL_world_112 ?_
    refine aw_iconst (v := 1) X dL_world_113 (by decide) ?_
    refine aw_iand X dL_world_114 ?_
    have hJ9 : ∀ (w1 : Int32), w1 = (if ((jshr (v_L_at g 0) 23) &&& 1) = 0 then 10 else (2 : Int32)) → AW k g 10 I7 L 124 [(0, vR 1), (1, vR 3000), (2, vR 87)] [vI w1, vI (jshr (v_L_at g 0) 19), vI 36, vR 87] := by
      intro w1 q1
      subst q1
      have n10 := h.1
      replace h := h.2
      refine aw_pS X (as := [vI (jshr (v_L_at g 0) 19), vI (if ((jshr (v_L_at g 0) 23) &&& 1) = 0 then 10 else (2 : Int32))]) mf_L_some zw_768 (p_L_some n10) rfl rfl (by decide) (Nat.le_of_ble_eq_true rfl) dL_world_124 ?_
      refine aw_bastj (j := 36) X hb (zinof (m := 37) (by decide) (by decide) (by decide)) (by decide) dL_world_127 ?_
      refine aw_iconst (v := 0) X dL_world_128 (by decide) ?_
      refine aw_istore_n X dL_world_129 (by decide) rfl ?_
      refine aw_perm (ks9 := [(0, vR 1), (1, vR 3000), (2, vR 87), (3, vI 0)]) [1, 2, 3, 0] rfl ?_
      exact h
    refine aw_if_ne X 123 dL_world_115 rfl (fun c8 => ?_) (fun c8 => ?_)
    · refine aw_iconst (v := 2) X dL_world_123 (by decide) ?_
      refine aw_perm (ks9 := [(0, vR 1), (1, vR 3000), (2, vR 87)]) [0, 1, 2] rfl ?_
      exact hJ9 _ (if_neg c8).symm
    · refine aw_bipush (v := 10) X dL_world_118 (by decide) ?_
      refine aw_goto X 124 dL_world_120 rfl ?_
      refine aw_perm (ks9 := [(0, vR 1), (1, vR 3000), (2, vR 87)]) [0, 1, 2] rfl ?_
      exact hJ9 _ (if_pos c8).symm
  refine aw_if_ne X 79 dL_world_60 rfl (fun c4 => ?_) (fun c4 => ?_)
  · refine aw_iconst (v := 5) X dL_world_79 (by decide) ?_
    refine aw_aload_n X 1 dL_world_80 rfl ?_
    refine aw_iconst (v := 0) X dL_world_81 (by decide) ?_
    refine aw_pS X (as := [vR 3000, vI 0]) mf_L_at zw_765 (p_L_at (kat_lit (by decide))) rfl rfl (by decide) (Nat.le_of_ble_eq_true rfl) dL_world_82 ?_
    refine aw_bipush (v := 15) X dL_world_85 (by decide) ?_
    refine aw_ishr X dL_world_87 ?_
    refine aw_iconst (v := 5) X dL_world_88 (by decide) ?_
    refine aw_pS X (as := [vI (jshr (v_L_at g 0) 15), vI 5]) mf_L_some zw_768 (p_L_some (ksome_lit (by decide))) rfl rfl (by decide) (Nat.le_of_ble_eq_true rfl) dL_world_89 ?_
    refine aw_iadd X dL_world_92 ?_
    refine aw_perm (ks9 := [(0, vR 1), (1, vR 3000), (2, vR 87)]) [0, 1, 2] rfl ?_
    exact hJ5 _ (if_neg c4).symm
  · refine aw_aload_n X 1 dL_world_63 rfl ?_
    refine aw_iconst (v := 0) X dL_world_64 (by decide) ?_
    refine aw_pS X (as := [vR 3000, vI 0]) mf_L_at zw_765 (p_L_at (kat_lit (by decide))) rfl rfl (by decide) (Nat.le_of_ble_eq_true rfl) dL_world_65 ?_
    refine aw_bipush (v := 15) X dL_world_68 (by decide) ?_
    refine aw_ishr X dL_world_70 ?_
    refine aw_bipush (v := 10) X dL_world_71 (by decide) ?_
    refine aw_pS X (as := [vI (jshr (v_L_at g 0) 15), vI 10]) mf_L_some zw_768 (p_L_some (ksome_lit (by decide))) rfl rfl (by decide) (Nat.le_of_ble_eq_true rfl) dL_world_73 ?_
    refine aw_goto X 93 dL_world_76 rfl ?_
    refine aw_perm (ks9 := [(0, vR 1), (1, vR 3000), (2, vR 87)]) [0, 1, 2] rfl ?_
    exact hJ5 _ (if_pos c4).symm
set_option maxRecDepth 100000 in
theorem s_L_law_43 {k : zK} {g : zG} {I : zI} {L : zL}  (hb : gb g = true) (X : zX k g cL_law RL 13 (some .boolean) 11) (E : zEl k g) (h : Call (kl k) g 4 M_L_world [vR 1, vR 3000, vR 87] I L (zn fun I1 L1 => Call (kl k) g 6 M_X6_night [vR 1] I1 L1 (zi fun r2 I2 L2 => Call (kl k) g 5 M_X6_hours [vR 1, vI (1 + (v_L_some (v_L_at g 17) 9))] I2 L2 (zi fun r3 I3 L3 => if 0 < (I1 87 33) then (k_L_some (v_L_at g 18) (I1 87 33) ∧ (Call (kl k) g 3 M_X6_breath [vR 1, vI (v_L_some (v_L_at g 18) (I1 87 33)), vI (v_L_some (jshr (v_L_at g 18) 4) 16)] I3 L3 (zi fun r6 I6 L6 => AW k g 13 I6 L6 117 [(0, vR 3000), (1, vR 1), (3, vI (I1 87 32)), (4, vI (I1 87 33))] []))) else (AW k g 13 I3 L3 117 [(0, vR 3000), (1, vR 1), (3, vI (I1 87 32)), (4, vI (I1 87 33))] []))))) : AW k g 13 I L 43 [(0, vR 3000), (1, vR 1), (2, vR 87)] [] := by
  refine aw_aload_n X 1 dL_law_43 rfl ?_
  refine aw_aload_n X 0 dL_law_44 rfl ?_
  refine aw_aload_n X 2 dL_law_45 rfl ?_
  refine aw_callS X (as := [vR 1, vR 3000, vR 87]) mf_L_world zw_771 h rfl rfl (by decide) (Nat.le_of_ble_eq_true rfl) dL_law_46 (fun v I1 L1 h => ?_)
  obtain ⟨rfl, h⟩ := h
  refine aw_aload_n X 2 dL_law_49 rfl ?_
  refine aw_bipush (v := 32) X dL_law_50 (by decide) ?_
  refine aw_baldj (j := 32) X hb (zinof (m := 37) (by decide) (by decide) (by decide)) (by decide) dL_law_52 ?_
  refine aw_istore_n X dL_law_53 (by decide) rfl ?_
  refine aw_aload_n X 3 dL_law_54 rfl ?_
  refine aw_bipush (v := 33) X dL_law_55 (by decide) ?_
  refine aw_baldj (j := 33) X hb (zinof (m := 37) (by decide) (by decide) (by decide)) (by decide) dL_law_57 ?_
  refine aw_istore X dL_law_58 (by decide) rfl ?_
  refine aw_aload_n X 3 dL_law_60 rfl ?_
  refine aw_callV X (as := []) mf_X6_night zw_694 h zs_1 rfl rfl (by decide) (Nat.le_of_ble_eq_true rfl) dL_law_61 (fun v I2 L2 h => ?_)
  obtain ⟨r2, rfl, h⟩ := h
  refine aw_pop X dL_law_64 rfl ?_
  refine aw_aload_n X 3 dL_law_65 rfl ?_
  refine aw_iconst (v := 1) X dL_law_66 (by decide) ?_
  refine aw_aload_n X 2 dL_law_67 rfl ?_
  refine aw_bipush (v := 17) X dL_law_68 (by decide) ?_
  refine aw_pS X (as := [vR 3000, vI 17]) mf_L_at zw_765 (p_L_at (kat_lit (by decide))) rfl rfl (by decide) (Nat.le_of_ble_eq_true rfl) dL_law_70 ?_
  refine aw_bipush (v := 9) X dL_law_73 (by decide) ?_
  refine aw_pS X (as := [vI (v_L_at g 17), vI 9]) mf_L_some zw_768 (p_L_some (ksome_lit (by decide))) rfl rfl (by decide) (Nat.le_of_ble_eq_true rfl) dL_law_75 ?_
  refine aw_iadd X dL_law_78 ?_
  refine aw_callV X (as := [vI (1 + (v_L_some (v_L_at g 17) 9))]) mf_X6_hours zw_710 h zs_1 rfl rfl (by decide) (Nat.le_of_ble_eq_true rfl) dL_law_79 (fun v I3 L3 h => ?_)
  obtain ⟨r3, rfl, h⟩ := h
  refine aw_pop X dL_law_82 rfl ?_
  refine aw_iload X 0 dL_law_83 rfl ?_
  refine aw_if_len X 117 dL_law_85 rfl (fun c4 => ?_) (fun c4 => ?_)
  · replace h := zifp c4 h
    refine aw_aload_n X 3 dL_law_88 rfl ?_
    refine aw_aload_n X 2 dL_law_89 rfl ?_
    refine aw_bipush (v := 18) X dL_law_90 (by decide) ?_
    refine aw_pS X (as := [vR 3000, vI 18]) mf_L_at zw_765 (p_L_at (kat_lit (by decide))) rfl rfl (by decide) (Nat.le_of_ble_eq_true rfl) dL_law_92 ?_
    refine aw_iload X 0 dL_law_95 rfl ?_
    have n5 := h.1
    replace h := h.2
    refine aw_pS X (as := [vI (v_L_at g 18), vI (I1 87 33)]) mf_L_some zw_768 (p_L_some n5) rfl rfl (by decide) (Nat.le_of_ble_eq_true rfl) dL_law_97 ?_
    refine aw_aload_n X 2 dL_law_100 rfl ?_
    refine aw_bipush (v := 18) X dL_law_101 (by decide) ?_
    refine aw_pS X (as := [vR 3000, vI 18]) mf_L_at zw_765 (p_L_at (kat_lit (by decide))) rfl rfl (by decide) (Nat.le_of_ble_eq_true rfl) dL_law_103 ?_
    refine aw_iconst (v := 4) X dL_law_106 (by decide) ?_
    refine aw_ishr X dL_law_107 ?_
    refine aw_bipush (v := 16) X dL_law_108 (by decide) ?_
    refine aw_pS X (as := [vI (jshr (v_L_at g 18) 4), vI 16]) mf_L_some zw_768 (p_L_some (ksome_lit (by decide))) rfl rfl (by decide) (Nat.le_of_ble_eq_true rfl) dL_law_110 ?_
    refine aw_callV X (as := [vI (v_L_some (v_L_at g 18) (I1 87 33)), vI (v_L_some (jshr (v_L_at g 18) 4) 16)]) mf_X6_breath zw_719 h zs_1 rfl rfl (by decide) (Nat.le_of_ble_eq_true rfl) dL_law_113 (fun v I6 L6 h => ?_)
    obtain ⟨r6, rfl, h⟩ := h
    refine aw_pop X dL_law_116 rfl ?_
    refine aw_perm (ks9 := [(0, vR 3000), (1, vR 1), (3, vI (I1 87 32)), (4, vI (I1 87 33))]) [2, 3, 1, 0] rfl ?_
    exact h
  · replace h := zifn c4 h
    refine aw_perm (ks9 := [(0, vR 3000), (1, vR 1), (3, vI (I1 87 32)), (4, vI (I1 87 33))]) [2, 3, 1, 0] rfl ?_
    exact h
set_option maxRecDepth 100000 in
theorem s_L_law_117 {k : zK} {g : zG} {I : zI} {L : zL} {y3 : Int32} {y4 : Int32} (hb : gb g = true) (X : zX k g cL_law RL 13 (some .boolean) 11) (E : zEl k g) (h : Call (kl k) g 8 M_L_told [vR 1] I L (zl fun r1 I1 L1 => Call (kl k) g 8 M_L_told [vR 1] I1 L1 (zl fun r2 I2 L2 => if (lg_cmp r2 r1) = 0 then (Call (kl k) g 4 M_X6_image [vR 1] I2 L2 (zi fun r4 I4 L4 => if r4 = y4 then (Call (kl k) g 8 M_L_told [vR 1] I4 L4 (zl fun r6 I6 L6 => if (lg_cmp r6 r1) = 0 then (Call (kl k) g 3 M_X6_form [vR 1, vI (-1)] I6 L6 (zi fun r8 I8 L8 => if r8 = (-6) then (Call (kl k) g 3 M_X6_pane [vR 1, vI 7, vI 0, vI 0] I8 L8 (zi fun r10 I10 L10 => if r10 = (-1) then (Call (kl k) g 3 M_X6_pane [vR 1, vI 0, vI 10, vI 0] I10 L10 (zi fun r12 I12 L12 => if r12 = (-6) then (Call (kl k) g 3 M_X6_hang [vR 1, vI y4, vI 0] I12 L12 (zi fun r14 I14 L14 => if r14 = (-1) then (Call (kl k) g 3 M_X6_ask [vR 1, vI 0, vI 41] I14 L14 (zi fun r16 I16 L16 => if r16 = (-6) then (Call (kl k) g 2 M_X6_room [vR 1, vI (-1), vI 0] I16 L16 (zi fun r18 I18 L18 => if r18 = (-1) then (Call (kl k) g 4 M_X6_press [vR 1, vI 0] I18 L18 (zi fun r20 I20 L20 => if r20 = (-3) then (Call (kl k) g 5 M_X6_hours [vR 1, vI 0] I20 L20 (zi fun r22 I22 L22 => if r22 = (-6) then (Call (kl k) g 3 M_X6_breath [vR 1, vI y4, vI 0] I22 L22 (zi fun r24 I24 L24 => if r24 = (-1) then (Call (kl k) g 3 M_X6_scratch [vR 1, vI (-1), vI 0] I24 L24 (zi fun r26 I26 L26 => if r26 = (-1) then (Call (kl k) g 7 M_X6_winter [vR 1, vI 41] I26 L26 (zi fun r28 I28 L28 => if r28 = (-6) then (Call (kl k) g 2 M_X6_row [vR 1, vI 0, vI 4, vI 3] I28 L28 (zi fun r30 I30 L30 => if r30 = (-6) then (Call (kl k) g 2 M_X6_show [vR 1, vI 0, vI 8] I30 L30 (zi fun r32 I32 L32 => if r32 = (-1) then (Call (kl k) g 8 M_L_told [vR 1] I32 L32 (zl fun r34 I34 L34 => if (lg_cmp r34 r1) = 0 then (AW k g 13 I34 L34 314 [(0, vR 3000), (1, vR 1), (3, vI y3), (4, vI y4), (5, vL r1), (7, vI 0)] []) else (0 = (1 : Int32)))) else (0 = (1 : Int32)))) else (0 = (1 : Int32)))) else (0 = (1 : Int32)))) else (0 = (1 : Int32)))) else (0 = (1 : Int32)))) else (0 = (1 : Int32)))) else (0 = (1 : Int32)))) else (0 = (1 : Int32)))) else (0 = (1 : Int32)))) else (0 = (1 : Int32)))) else (0 = (1 : Int32)))) else (0 = (1 : Int32)))) else (0 = (1 : Int32)))) else (0 = (1 : Int32)))) else (0 = (1 : Int32)))) else (0 = (1 : Int32))))) : AW k g 13 I L 117 [(0, vR 3000), (1, vR 1), (3, vI y3), (4, vI y4)] [] := by
  refine aw_aload_n X 1 dL_law_117 rfl ?_
  refine aw_callS X (as := [vR 1]) mf_L_told zw_775 h rfl rfl (by decide) (Nat.le_of_ble_eq_true rfl) dL_law_118 (fun v I1 L1 h => ?_)
  obtain ⟨r1, rfl, h⟩ := h
  refine aw_lstore X dL_law_121 (by decide) rfl ?_
  refine aw_aload_n X 2 dL_law_123 rfl ?_
  refine aw_callS X (as := [vR 1]) mf_L_told zw_775 h rfl rfl (by decide) (Nat.le_of_ble_eq_true rfl) dL_law_124 (fun v I2 L2 h => ?_)
  obtain ⟨r2, rfl, h⟩ := h
  refine aw_lload X 0 dL_law_127 rfl ?_
  refine aw_lcmp X dL_law_129 ?_
  refine aw_if_ne X 152 dL_law_130 rfl (fun c3 => ?_) (fun c3 => ?_)
  · replace h := zifn c3 h
    refine aw_iconst (v := 0) X dL_law_152 (by decide) ?_
    exact aw_lend X E dL_law_153 h
  · replace h := zifp c3 h
    refine aw_aload_n X 2 dL_law_133 rfl ?_
    refine aw_callV X (as := []) mf_X6_image zw_757 h zs_1 rfl rfl (by decide) (Nat.le_of_ble_eq_true rfl) dL_law_134 (fun v I4 L4 h => ?_)
    obtain ⟨r4, rfl, h⟩ := h
    refine aw_iload X 4 dL_law_137 rfl ?_
    refine aw_icmp_ne X 152 dL_law_139 rfl (fun c5 => ?_) (fun c5 => ?_)
    · replace h := zifn c5 h
      refine aw_iconst (v := 0) X dL_law_152 (by decide) ?_
      exact aw_lend X E dL_law_153 h
    · replace h := zifp c5 h
      refine aw_aload_n X 2 dL_law_142 rfl ?_
      refine aw_callS X (as := [vR 1]) mf_L_told zw_775 h rfl rfl (by decide) (Nat.le_of_ble_eq_true rfl) dL_law_143 (fun v I6 L6 h => ?_)
      obtain ⟨r6, rfl, h⟩ := h
      refine aw_lload X 0 dL_law_146 rfl ?_
      refine aw_lcmp X dL_law_148 ?_
      refine aw_if_eq X 154 dL_law_149 rfl (fun c7 => ?_) (fun c7 => ?_)
      · replace h := zifp c7 h
        refine aw_aload_n X 2 dL_law_154 rfl ?_
        refine aw_iconst (v := (-1)) X dL_law_155 (by decide) ?_
        refine aw_callV X (as := [vI (-1)]) mf_X6_form zw_330 h zs_1 rfl rfl (by decide) (Nat.le_of_ble_eq_true rfl) dL_law_156 (fun v I8 L8 h => ?_)
        obtain ⟨r8, rfl, h⟩ := h
        refine aw_bipush (v := (-6)) X dL_law_159 (by decide) ?_
        refine aw_icmp_ne X 297 dL_law_161 rfl (fun c9 => ?_) (fun c9 => ?_)
        · replace h := zifn c9 h
          refine aw_iconst (v := 0) X dL_law_297 (by decide) ?_
          exact aw_lend X E dL_law_298 h
        · replace h := zifp c9 h
          refine aw_aload_n X 2 dL_law_164 rfl ?_
          refine aw_bipush (v := 7) X dL_law_165 (by decide) ?_
          refine aw_iconst (v := 0) X dL_law_167 (by decide) ?_
          refine aw_iconst (v := 0) X dL_law_168 (by decide) ?_
          refine aw_callV X (as := [vI 7, vI 0, vI 0]) mf_X6_pane zw_347 h zs_1 rfl rfl (by decide) (Nat.le_of_ble_eq_true rfl) dL_law_169 (fun v I10 L10 h => ?_)
          obtain ⟨r10, rfl, h⟩ := h
          refine aw_iconst (v := (-1)) X dL_law_172 (by decide) ?_
          refine aw_icmp_ne X 297 dL_law_173 rfl (fun c11 => ?_) (fun c11 => ?_)
          · replace h := zifn c11 h
            refine aw_iconst (v := 0) X dL_law_297 (by decide) ?_
            exact aw_lend X E dL_law_298 h
          · replace h := zifp c11 h
            refine aw_aload_n X 2 dL_law_176 rfl ?_
            refine aw_iconst (v := 0) X dL_law_177 (by decide) ?_
            refine aw_bipush (v := 10) X dL_law_178 (by decide) ?_
            refine aw_iconst (v := 0) X dL_law_180 (by decide) ?_
            refine aw_callV X (as := [vI 0, vI 10, vI 0]) mf_X6_pane zw_347 h zs_1 rfl rfl (by decide) (Nat.le_of_ble_eq_true rfl) dL_law_181 (fun v I12 L12 h => ?_)
            obtain ⟨r12, rfl, h⟩ := h
            refine aw_bipush (v := (-6)) X dL_law_184 (by decide) ?_
            refine aw_icmp_ne X 297 dL_law_186 rfl (fun c13 => ?_) (fun c13 => ?_)
            · replace h := zifn c13 h
              refine aw_iconst (v := 0) X dL_law_297 (by decide) ?_
              exact aw_lend X E dL_law_298 h
            · replace h := zifp c13 h
              refine aw_aload_n X 2 dL_law_189 rfl ?_
              refine aw_iload X 4 dL_law_190 rfl ?_
              refine aw_iconst (v := 0) X dL_law_192 (by decide) ?_
              refine aw_callV X (as := [vI y4, vI 0]) mf_X6_hang zw_388 h zs_1 rfl rfl (by decide) (Nat.le_of_ble_eq_true rfl) dL_law_193 (fun v I14 L14 h => ?_)
              obtain ⟨r14, rfl, h⟩ := h
              refine aw_iconst (v := (-1)) X dL_law_196 (by decide) ?_
              refine aw_icmp_ne X 297 dL_law_197 rfl (fun c15 => ?_) (fun c15 => ?_)
              · replace h := zifn c15 h
                refine aw_iconst (v := 0) X dL_law_297 (by decide) ?_
                exact aw_lend X E dL_law_298 h
              · replace h := zifp c15 h
                refine aw_aload_n X 2 dL_law_200 rfl ?_
                refine aw_iconst (v := 0) X dL_law_201 (by decide) ?_
                refine aw_bipush (v := 41) X dL_law_202 (by decide) ?_
                refine aw_callV X (as := [vI 0, vI 41]) mf_X6_ask zw_400 h zs_1 rfl rfl (by decide) (Nat.le_of_ble_eq_true rfl) dL_law_204 (fun v I16 L16 h => ?_)
                obtain ⟨r16, rfl, h⟩ := h
                refine aw_bipush (v := (-6)) X dL_law_207 (by decide) ?_
                refine aw_icmp_ne X 297 dL_law_209 rfl (fun c17 => ?_) (fun c17 => ?_)
                · replace h := zifn c17 h
                  refine aw_iconst (v := 0) X dL_law_297 (by decide) ?_
                  exact aw_lend X E dL_law_298 h
                · replace h := zifp c17 h
                  refine aw_aload_n X 2 dL_law_212 rfl ?_
                  refine aw_iconst (v := (-1)) X dL_law_213 (by decide) ?_
                  refine aw_iconst (v := 0) X dL_law_214 (by decide) ?_
                  refine aw_callV X (as := [vI (-1), vI 0]) mf_X6_room zw_414 h zs_1 rfl rfl (by decide) (Nat.le_of_ble_eq_true rfl) dL_law_215 (fun v I18 L18 h => ?_)
                  obtain ⟨r18, rfl, h⟩ := h
                  refine aw_iconst (v := (-1)) X dL_law_218 (by decide) ?_
                  refine aw_icmp_ne X 297 dL_law_219 rfl (fun c19 => ?_) (fun c19 => ?_)
                  · replace h := zifn c19 h
                    refine aw_iconst (v := 0) X dL_law_297 (by decide) ?_
                    exact aw_lend X E dL_law_298 h
                  · replace h := zifp c19 h
                    refine aw_aload_n X 2 dL_law_222 rfl ?_
                    refine aw_iconst (v := 0) X dL_law_223 (by decide) ?_
                    refine aw_callV X (as := [vI 0]) mf_X6_press zw_418 h zs_1 rfl rfl (by decide) (Nat.le_of_ble_eq_true rfl) dL_law_224 (fun v I20 L20 h => ?_)
                    obtain ⟨r20, rfl, h⟩ := h
                    refine aw_bipush (v := (-3)) X dL_law_227 (by decide) ?_
                    refine aw_icmp_ne X 297 dL_law_229 rfl (fun c21 => ?_) (fun c21 => ?_)
                    · replace h := zifn c21 h
                      refine aw_iconst (v := 0) X dL_law_297 (by decide) ?_
                      exact aw_lend X E dL_law_298 h
                    · replace h := zifp c21 h
                      refine aw_aload_n X 2 dL_law_232 rfl ?_
                      refine aw_iconst (v := 0) X dL_law_233 (by decide) ?_
                      refine aw_callV X (as := [vI 0]) mf_X6_hours zw_710 h zs_1 rfl rfl (by decide) (Nat.le_of_ble_eq_true rfl) dL_law_234 (fun v I22 L22 h => ?_)
                      obtain ⟨r22, rfl, h⟩ := h
                      refine aw_bipush (v := (-6)) X dL_law_237 (by decide) ?_
                      refine aw_icmp_ne X 297 dL_law_239 rfl (fun c23 => ?_) (fun c23 => ?_)
                      · replace h := zifn c23 h
                        refine aw_iconst (v := 0) X dL_law_297 (by decide) ?_
                        exact aw_lend X E dL_law_298 h
                      · replace h := zifp c23 h
                        refine aw_aload_n X 2 dL_law_242 rfl ?_
                        refine aw_iload X 4 dL_law_243 rfl ?_
                        refine aw_iconst (v := 0) X dL_law_245 (by decide) ?_
                        refine aw_callV X (as := [vI y4, vI 0]) mf_X6_breath zw_719 h zs_1 rfl rfl (by decide) (Nat.le_of_ble_eq_true rfl) dL_law_246 (fun v I24 L24 h => ?_)
                        obtain ⟨r24, rfl, h⟩ := h
                        refine aw_iconst (v := (-1)) X dL_law_249 (by decide) ?_
                        refine aw_icmp_ne X 297 dL_law_250 rfl (fun c25 => ?_) (fun c25 => ?_)
                        · replace h := zifn c25 h
                          refine aw_iconst (v := 0) X dL_law_297 (by decide) ?_
                          exact aw_lend X E dL_law_298 h
                        · replace h := zifp c25 h
                          refine aw_aload_n X 2 dL_law_253 rfl ?_
                          refine aw_iconst (v := (-1)) X dL_law_254 (by decide) ?_
                          refine aw_iconst (v := 0) X dL_law_255 (by decide) ?_
                          refine aw_callV X (as := [vI (-1), vI 0]) mf_X6_scratch zw_727 h zs_1 rfl rfl (by decide) (Nat.le_of_ble_eq_true rfl) dL_law_256 (fun v I26 L26 h => ?_)
                          obtain ⟨r26, rfl, h⟩ := h
                          refine aw_iconst (v := (-1)) X dL_law_259 (by decide) ?_
                          refine aw_icmp_ne X 297 dL_law_260 rfl (fun c27 => ?_) (fun c27 => ?_)
                          · replace h := zifn c27 h
                            refine aw_iconst (v := 0) X dL_law_297 (by decide) ?_
                            exact aw_lend X E dL_law_298 h
                          · replace h := zifp c27 h
                            refine aw_aload_n X 2 dL_law_263 rfl ?_
                            refine aw_bipush (v := 41) X dL_law_264 (by decide) ?_
                            refine aw_callV X (as := [vI 41]) mf_X6_winter zw_739 h zs_1 rfl rfl (by decide) (Nat.le_of_ble_eq_true rfl) dL_law_266 (fun v I28 L28 h => ?_)
                            obtain ⟨r28, rfl, h⟩ := h
                            refine aw_bipush (v := (-6)) X dL_law_269 (by decide) ?_
                            refine aw_icmp_ne X 297 dL_law_271 rfl (fun c29 => ?_) (fun c29 => ?_)
                            · replace h := zifn c29 h
                              refine aw_iconst (v := 0) X dL_law_297 (by decide) ?_
                              exact aw_lend X E dL_law_298 h
                            · replace h := zifp c29 h
                              refine aw_aload_n X 2 dL_law_274 rfl ?_
                              refine aw_iconst (v := 0) X dL_law_275 (by decide) ?_
                              refine aw_iconst (v := 4) X dL_law_276 (by decide) ?_
                              refine aw_iconst (v := 3) X dL_law_277 (by decide) ?_
                              refine aw_callV X (as := [vI 0, vI 4, vI 3]) mf_X6_row zw_259 h zs_1 rfl rfl (by decide) (Nat.le_of_ble_eq_true rfl) dL_law_278 (fun v I30 L30 h => ?_)
                              obtain ⟨r30, rfl, h⟩ := h
                              refine aw_bipush (v := (-6)) X dL_law_281 (by decide) ?_
                              refine aw_icmp_ne X 297 dL_law_283 rfl (fun c31 => ?_) (fun c31 => ?_)
                              · replace h := zifn c31 h
                                refine aw_iconst (v := 0) X dL_law_297 (by decide) ?_
                                exact aw_lend X E dL_law_298 h
                              · replace h := zifp c31 h
                                refine aw_aload_n X 2 dL_law_286 rfl ?_
                                refine aw_iconst (v := 0) X dL_law_287 (by decide) ?_
                                refine aw_bipush (v := 8) X dL_law_288 (by decide) ?_
                                refine aw_callV X (as := [vI 0, vI 8]) mf_X6_show zw_306 h zs_1 rfl rfl (by decide) (Nat.le_of_ble_eq_true rfl) dL_law_290 (fun v I32 L32 h => ?_)
                                obtain ⟨r32, rfl, h⟩ := h
                                refine aw_iconst (v := (-1)) X dL_law_293 (by decide) ?_
                                refine aw_icmp_eq X 299 dL_law_294 rfl (fun c33 => ?_) (fun c33 => ?_)
                                · replace h := zifp c33 h
                                  refine aw_aload_n X 2 dL_law_299 rfl ?_
                                  refine aw_callS X (as := [vR 1]) mf_L_told zw_775 h rfl rfl (by decide) (Nat.le_of_ble_eq_true rfl) dL_law_300 (fun v I34 L34 h => ?_)
                                  obtain ⟨r34, rfl, h⟩ := h
                                  refine aw_lload X 0 dL_law_303 rfl ?_
                                  refine aw_lcmp X dL_law_305 ?_
                                  refine aw_if_eq X 311 dL_law_306 rfl (fun c35 => ?_) (fun c35 => ?_)
                                  · replace h := zifp c35 h
                                    refine aw_iconst (v := 0) X dL_law_311 (by decide) ?_
                                    refine aw_istore X dL_law_312 (by decide) rfl ?_
                                    refine aw_perm (ks9 := [(0, vR 3000), (1, vR 1), (3, vI y3), (4, vI y4), (5, vL r1), (7, vI 0)]) [2, 3, 4, 5, 1, 0] rfl ?_
                                    exact h
                                  · replace h := zifn c35 h
                                    refine aw_iconst (v := 0) X dL_law_309 (by decide) ?_
                                    exact aw_lend X E dL_law_310 h
                                · replace h := zifn c33 h
                                  refine aw_iconst (v := 0) X dL_law_297 (by decide) ?_
                                  exact aw_lend X E dL_law_298 h
      · replace h := zifn c7 h
        refine aw_iconst (v := 0) X dL_law_152 (by decide) ?_
        exact aw_lend X E dL_law_153 h
set_option maxRecDepth 100000 in
theorem s_L_law_314 {k : zK} {g : zG} {I : zI} {L : zL} {y3 : Int32} {y4 : Int32} {y5 : Int64} {y7 : Int32} (hb : gb g = true) (X : zX k g cL_law RL 13 (some .boolean) 11) (E : zEl k g) (h : if y7 < y4 then (k_L_some (jshr (v_L_at g 19) y7) (y3 + 1) ∧ (AW k g 13 I L 355 [(0, vR 3000), (1, vR 1), (3, vI y3), (4, vI y4), (5, vL y5), (7, vI y7), (8, vI ((v_L_some (jshr (v_L_at g 19) y7) (y3 + 1)) - 1)), (9, vI (v_L_some (jshr (v_L_at g 20) y7) 4))] [])) else (AW k g 13 I L 694 [(0, vR 3000), (1, vR 1), (3, vI y3), (4, vI y4), (5, vL y5), (7, vI 0)] [])) : AW k g 13 I L 314 [(0, vR 3000), (1, vR 1), (3, vI y3), (4, vI y4), (5, vL y5), (7, vI y7)] [] := by
  refine aw_iload X 5 dL_law_314 rfl ?_
  refine aw_iload X 3 dL_law_316 rfl ?_
  refine aw_icmp_gen X 691 dL_law_318 rfl (fun c1 => ?_) (fun c1 => ?_)
  · replace h := zifp c1 h
    refine aw_aload_n X 0 dL_law_321 rfl ?_
    refine aw_bipush (v := 19) X dL_law_322 (by decide) ?_
    refine aw_pS X (as := [vR 3000, vI 19]) mf_L_at zw_765 (p_L_at (kat_lit (by decide))) rfl rfl (by decide) (Nat.le_of_ble_eq_true rfl) dL_law_324 ?_
    refine aw_iload X 5 dL_law_327 rfl ?_
    refine aw_ishr X dL_law_329 ?_
    refine aw_iload_n X 2 dL_law_330 rfl ?_
    refine aw_iconst (v := 1) X dL_law_331 (by decide) ?_
    refine aw_iadd X dL_law_332 ?_
    have n2 := h.1
    replace h := h.2
    refine aw_pS X (as := [vI (jshr (v_L_at g 19) y7), vI (y3 + 1)]) mf_L_some zw_768 (p_L_some n2) rfl rfl (by decide) (Nat.le_of_ble_eq_true rfl) dL_law_333 ?_
    refine aw_iconst (v := 1) X dL_law_336 (by decide) ?_
    refine aw_isub X dL_law_337 ?_
    refine aw_istore X dL_law_338 (by decide) rfl ?_
    refine aw_aload_n X 1 dL_law_340 rfl ?_
    refine aw_bipush (v := 20) X dL_law_341 (by decide) ?_
    refine aw_pS X (as := [vR 3000, vI 20]) mf_L_at zw_765 (p_L_at (kat_lit (by decide))) rfl rfl (by decide) (Nat.le_of_ble_eq_true rfl) dL_law_343 ?_
    refine aw_iload X 6 dL_law_346 rfl ?_
    refine aw_ishr X dL_law_348 ?_
    refine aw_iconst (v := 4) X dL_law_349 (by decide) ?_
    refine aw_pS X (as := [vI (jshr (v_L_at g 20) y7), vI 4]) mf_L_some zw_768 (p_L_some (ksome_lit (by decide))) rfl rfl (by decide) (Nat.le_of_ble_eq_true rfl) dL_law_350 ?_
    refine aw_istore X dL_law_353 (by decide) rfl ?_
    refine aw_perm (ks9 := [(0, vR 3000), (1, vR 1), (3, vI y3), (4, vI y4), (5, vL y5), (7, vI y7), (8, vI ((v_L_some (jshr (v_L_at g 19) y7) (y3 + 1)) - 1)), (9, vI (v_L_some (jshr (v_L_at g 20) y7) 4))]) [2, 3, 4, 5, 6, 7, 1, 0] rfl ?_
    exact h
  · replace h := zifn c1 h
    refine aw_iconst (v := 0) X dL_law_691 (by decide) ?_
    refine aw_istore X dL_law_692 (by decide) rfl ?_
    refine aw_perm (ks9 := [(0, vR 3000), (1, vR 1), (3, vI y3), (4, vI y4), (5, vL y5), (7, vI 0)]) [1, 2, 3, 4, 5, 0] rfl ?_
    exact h
set_option maxRecDepth 100000 in
theorem s_L_law_355 {k : zK} {g : zG} {I : zI} {L : zL} {y3 : Int32} {y4 : Int32} {y5 : Int64} {y7 : Int32} {y8 : Int32} {y9 : Int32} (hb : gb g = true) (X : zX k g cL_law RL 13 (some .boolean) 11) (E : zEl k g) (h : if y9 < 16 then (Call (kl k) g 7 M_X6_ice [vR 1, vI y7, vI y8, vI 0, vI y9] I L (zi fun r2 I2 L2 => if r2 < 0 then (0 = (1 : Int32)) else (if 20 < r2 then (0 = (1 : Int32)) else (Call (kl k) g 4 M_X6_paneOf [vR 1, vI y7, vI 4] I2 L2 (zi fun r5 I5 L5 => if ((jshr r5 y9) &&& 1) = 1 then (if 0 < r2 then (0 = (1 : Int32)) else (AW k g 13 I5 L5 413 [(0, vR 3000), (1, vR 1), (3, vI y3), (4, vI y4), (5, vL y5), (7, vI y7), (8, vI y8), (9, vI y9), (10, vI r2), (11, vI 1)] [])) else (AW k g 13 I5 L5 413 [(0, vR 3000), (1, vR 1), (3, vI y3), (4, vI y4), (5, vL y5), (7, vI y7), (8, vI y8), (9, vI y9), (10, vI r2), (11, vI 1)] [])))))) else (if y8 < 0 then (AW k g 13 I L 314 [(0, vR 3000), (1, vR 1), (3, vI y3), (4, vI y4), (5, vL y5), (7, vI (y7 + 1))] []) else (Call (kl k) g 6 M_X6_lasts [vR 1, vI y7, vI y8] I L (zi fun r9 I9 L9 => AW k g 13 I9 L9 588 [(0, vR 3000), (1, vR 1), (3, vI y3), (4, vI y4), (5, vL y5), (7, vI y7), (8, vI y8), (9, vI r9), (10, vI 0)] [])))) : AW k g 13 I L 355 [(0, vR 3000), (1, vR 1), (3, vI y3), (4, vI y4), (5, vL y5), (7, vI y7), (8, vI y8), (9, vI y9)] [] := by
  refine aw_iload X 7 dL_law_355 rfl ?_
  refine aw_bipush (v := 16) X dL_law_357 (by decide) ?_
  refine aw_icmp_gen X 567 dL_law_359 rfl (fun c1 => ?_) (fun c1 => ?_)
  · replace h := zifp c1 h
    refine aw_aload_n X 1 dL_law_362 rfl ?_
    refine aw_iload X 5 dL_law_363 rfl ?_
    refine aw_iload X 6 dL_law_365 rfl ?_
    refine aw_iconst (v := 0) X dL_law_367 (by decide) ?_
    refine aw_iload X 7 dL_law_368 rfl ?_
    refine aw_callV X (as := [vI y7, vI y8, vI 0, vI y9]) mf_X6_ice zw_563 h zs_1 rfl rfl (by decide) (Nat.le_of_ble_eq_true rfl) dL_law_370 (fun v I2 L2 h => ?_)
    obtain ⟨r2, rfl, h⟩ := h
    refine aw_istore X dL_law_373 (by decide) rfl ?_
    refine aw_iload X 0 dL_law_375 rfl ?_
    refine aw_if_lt X 408 dL_law_377 rfl (fun c3 => ?_) (fun c3 => ?_)
    · replace h := zifp c3 h
      refine aw_iconst (v := 0) X dL_law_408 (by decide) ?_
      exact aw_lend X E dL_law_409 h
    · replace h := zifn c3 h
      refine aw_iload X 0 dL_law_380 rfl ?_
      refine aw_bipush (v := 20) X dL_law_382 (by decide) ?_
      refine aw_icmp_gt X 408 dL_law_384 rfl (fun c4 => ?_) (fun c4 => ?_)
      · replace h := zifp c4 h
        refine aw_iconst (v := 0) X dL_law_408 (by decide) ?_
        exact aw_lend X E dL_law_409 h
      · replace h := zifn c4 h
        refine aw_aload_n X 2 dL_law_387 rfl ?_
        refine aw_iload X 6 dL_law_388 rfl ?_
        refine aw_iconst (v := 4) X dL_law_390 (by decide) ?_
        refine aw_callV X (as := [vI y7, vI 4]) mf_X6_paneOf zw_369 h zs_1 rfl rfl (by decide) (Nat.le_of_ble_eq_true rfl) dL_law_391 (fun v I5 L5 h => ?_)
        obtain ⟨r5, rfl, h⟩ := h
        refine aw_iload X 8 dL_law_394 rfl ?_
        refine aw_ishr X dL_law_396 ?_
        refine aw_iconst (v := 1) X dL_law_397 (by decide) ?_
        refine aw_iand X dL_law_398 ?_
        refine aw_iconst (v := 1) X dL_law_399 (by decide) ?_
        refine aw_icmp_ne X 410 dL_law_400 rfl (fun c6 => ?_) (fun c6 => ?_)
        · replace h := zifn c6 h
          refine aw_iconst (v := 1) X dL_law_410 (by decide) ?_
          refine aw_istore X dL_law_411 (by decide) rfl ?_
          refine aw_perm (ks9 := [(0, vR 3000), (1, vR 1), (3, vI y3), (4, vI y4), (5, vL y5), (7, vI y7), (8, vI y8), (9, vI y9), (10, vI r2), (11, vI 1)]) [2, 3, 4, 5, 6, 7, 8, 9, 1, 0] rfl ?_
          exact h
        · replace h := zifp c6 h
          refine aw_iload X 0 dL_law_403 rfl ?_
          refine aw_if_len X 410 dL_law_405 rfl (fun c7 => ?_) (fun c7 => ?_)
          · replace h := zifp c7 h
            refine aw_iconst (v := 0) X dL_law_408 (by decide) ?_
            exact aw_lend X E dL_law_409 h
          · replace h := zifn c7 h
            refine aw_iconst (v := 1) X dL_law_410 (by decide) ?_
            refine aw_istore X dL_law_411 (by decide) rfl ?_
            refine aw_perm (ks9 := [(0, vR 3000), (1, vR 1), (3, vI y3), (4, vI y4), (5, vL y5), (7, vI y7), (8, vI y8), (9, vI y9), (10, vI r2), (11, vI 1)]) [2, 3, 4, 5, 6, 7, 8, 9, 1, 0] rfl ?_
            exact h
  · replace h := zifn c1 h
    refine aw_iload X 6 dL_law_567 rfl ?_
    refine aw_if_gen X 575 dL_law_569 rfl (fun c8 => ?_) (fun c8 => ?_)
    · replace h := zifp c8 h
      refine aw_goto X 685 dL_law_572 rfl ?_
      refine aw_iinc (v := y7 + 1) X 5 dL_law_685 rfl rfl (by decide) rfl ?_
      refine aw_goto X 314 dL_law_688 rfl ?_
      refine aw_perm (ks9 := [(0, vR 3000), (1, vR 1), (3, vI y3), (4, vI y4), (5, vL y5), (7, vI (y7 + 1))]) [1, 2, 3, 4, 5, 0] rfl ?_
      exact h
    · replace h := zifn c8 h
      refine aw_aload_n X 1 dL_law_575 rfl ?_
      refine aw_iload X 5 dL_law_576 rfl ?_
      refine aw_iload X 6 dL_law_578 rfl ?_
      refine aw_callV X (as := [vI y7, vI y8]) mf_X6_lasts zw_657 h zs_1 rfl rfl (by decide) (Nat.le_of_ble_eq_true rfl) dL_law_580 (fun v I9 L9 h => ?_)
      obtain ⟨r9, rfl, h⟩ := h
      refine aw_istore X dL_law_583 (by decide) rfl ?_
      refine aw_iconst (v := 0) X dL_law_585 (by decide) ?_
      refine aw_istore X dL_law_586 (by decide) rfl ?_
      refine aw_perm (ks9 := [(0, vR 3000), (1, vR 1), (3, vI y3), (4, vI y4), (5, vL y5), (7, vI y7), (8, vI y8), (9, vI r9), (10, vI 0)]) [2, 3, 4, 5, 6, 7, 8, 1, 0] rfl ?_
      exact h
set_option maxRecDepth 100000 in
theorem s_L_law_413 {k : zK} {g : zG} {I : zI} {L : zL} {y3 : Int32} {y4 : Int32} {y5 : Int64} {y7 : Int32} {y8 : Int32} {y9 : Int32} {y10 : Int32} {y11 : Int32} (hb : gb g = true) (X : zX k g cL_law RL 13 (some .boolean) 11) (E : zEl k g) (h : if y11 < 25 then (Call (kl k) g 7 M_X6_ice [vR 1, vI y7, vI y8, vI y11, vI y9] I L (zi fun r2 I2 L2 => if r2 < 0 then (0 = (1 : Int32)) else (if y10 < r2 then (0 = (1 : Int32)) else (if 0 < y10 then (Call (kl k) g 3 M_X6_melt [vR 1, vI y7, vI (y11 - 1)] I2 L2 (zi fun r6 I6 L6 => if r2 < ((y10 - r6) - 1) then (if 0 < r2 then (0 = (1 : Int32)) else (AW k g 13 I6 L6 476 [(0, vR 3000), (1, vR 1), (3, vI y3), (4, vI y4), (5, vL y5), (7, vI y7), (8, vI y8), (9, vI y9), (10, vI y10), (11, vI y11), (12, vI r2)] [])) else (AW k g 13 I6 L6 476 [(0, vR 3000), (1, vR 1), (3, vI y3), (4, vI y4), (5, vL y5), (7, vI y7), (8, vI y8), (9, vI y9), (10, vI y10), (11, vI y11), (12, vI r2)] []))) else (AW k g 13 I2 L2 476 [(0, vR 3000), (1, vR 1), (3, vI y3), (4, vI y4), (5, vL y5), (7, vI y7), (8, vI y8), (9, vI y9), (10, vI y10), (11, vI y11), (12, vI r2)] []))))) else (AW k g 13 I L 355 [(0, vR 3000), (1, vR 1), (3, vI y3), (4, vI y4), (5, vL y5), (7, vI y7), (8, vI y8), (9, vI (y9 + 4))] [])) : AW k g 13 I L 413 [(0, vR 3000), (1, vR 1), (3, vI y3), (4, vI y4), (5, vL y5), (7, vI y7), (8, vI y8), (9, vI y9), (10, vI y10), (11, vI y11)] [] := by
  refine aw_iload X 9 dL_law_413 rfl ?_
  refine aw_bipush (v := 25) X dL_law_415 (by decide) ?_
  refine aw_icmp_gen X 561 dL_law_417 rfl (fun c1 => ?_) (fun c1 => ?_)
  · replace h := zifp c1 h
    refine aw_aload_n X 1 dL_law_420 rfl ?_
    refine aw_iload X 5 dL_law_421 rfl ?_
    refine aw_iload X 6 dL_law_423 rfl ?_
    refine aw_iload X 9 dL_law_425 rfl ?_
    refine aw_iload X 7 dL_law_427 rfl ?_
    refine aw_callV X (as := [vI y7, vI y8, vI y11, vI y9]) mf_X6_ice zw_563 h zs_1 rfl rfl (by decide) (Nat.le_of_ble_eq_true rfl) dL_law_429 (fun v I2 L2 h => ?_)
    obtain ⟨r2, rfl, h⟩ := h
    refine aw_istore X dL_law_432 (by decide) rfl ?_
    refine aw_iload X 0 dL_law_434 rfl ?_
    refine aw_if_lt X 549 dL_law_436 rfl (fun c3 => ?_) (fun c3 => ?_)
    · replace h := zifp c3 h
      refine aw_iconst (v := 0) X dL_law_549 (by decide) ?_
      exact aw_lend X E dL_law_550 h
    · replace h := zifn c3 h
      refine aw_iload X 0 dL_law_439 rfl ?_
      refine aw_iload X 9 dL_law_441 rfl ?_
      refine aw_icmp_gt X 549 dL_law_443 rfl (fun c4 => ?_) (fun c4 => ?_)
      · replace h := zifp c4 h
        refine aw_iconst (v := 0) X dL_law_549 (by decide) ?_
        exact aw_lend X E dL_law_550 h
      · replace h := zifn c4 h
        refine aw_iload X 9 dL_law_446 rfl ?_
        refine aw_if_len X 476 dL_law_448 rfl (fun c5 => ?_) (fun c5 => ?_)
        · replace h := zifp c5 h
          refine aw_iload X 0 dL_law_451 rfl ?_
          refine aw_iload X 9 dL_law_453 rfl ?_
          refine aw_aload_n X 2 dL_law_455 rfl ?_
          refine aw_iload X 6 dL_law_456 rfl ?_
          refine aw_iload X 10 dL_law_458 rfl ?_
          refine aw_iconst (v := 1) X dL_law_460 (by decide) ?_
          refine aw_isub X dL_law_461 ?_
          refine aw_callV X (as := [vI y7, vI (y11 - 1)]) mf_X6_melt zw_555 h zs_1 rfl rfl (by decide) (Nat.le_of_ble_eq_true rfl) dL_law_462 (fun v I6 L6 h => ?_)
          obtain ⟨r6, rfl, h⟩ := h
          refine aw_isub X dL_law_465 ?_
          refine aw_iconst (v := 1) X dL_law_466 (by decide) ?_
          refine aw_isub X dL_law_467 ?_
          refine aw_icmp_gen X 476 dL_law_468 rfl (fun c7 => ?_) (fun c7 => ?_)
          · replace h := zifp c7 h
            refine aw_iload X 0 dL_law_471 rfl ?_
            refine aw_if_gt X 549 dL_law_473 rfl (fun c8 => ?_) (fun c8 => ?_)
            · replace h := zifp c8 h
              refine aw_iconst (v := 0) X dL_law_549 (by decide) ?_
              exact aw_lend X E dL_law_550 h
            · replace h := zifn c8 h
              refine aw_perm (ks9 := [(0, vR 3000), (1, vR 1), (3, vI y3), (4, vI y4), (5, vL y5), (7, vI y7), (8, vI y8), (9, vI y9), (10, vI y10), (11, vI y11), (12, vI r2)]) [1, 2, 3, 4, 5, 6, 7, 8, 9, 10, 0] rfl ?_
              exact h
          · replace h := zifn c7 h
            refine aw_perm (ks9 := [(0, vR 3000), (1, vR 1), (3, vI y3), (4, vI y4), (5, vL y5), (7, vI y7), (8, vI y8), (9, vI y9), (10, vI y10), (11, vI y11), (12, vI r2)]) [1, 2, 3, 4, 5, 6, 7, 8, 9, 10, 0] rfl ?_
            exact h
        · replace h := zifn c5 h
          refine aw_perm (ks9 := [(0, vR 3000), (1, vR 1), (3, vI y3), (4, vI y4), (5, vL y5), (7, vI y7), (8, vI y8), (9, vI y9), (10, vI y10), (11, vI y11), (12, vI r2)]) [1, 2, 3, 4, 5, 6, 7, 8, 9, 10, 0] rfl ?_
          exact h
  · replace h := zifn c1 h
    refine aw_iinc (v := y9 + 4) X 7 dL_law_561 rfl rfl (by decide) rfl ?_
    refine aw_goto X 355 dL_law_564 rfl ?_
    refine aw_perm (ks9 := [(0, vR 3000), (1, vR 1), (3, vI y3), (4, vI y4), (5, vL y5), (7, vI y7), (8, vI y8), (9, vI (y9 + 4))]) [1, 2, 3, 4, 5, 6, 7, 0] rfl ?_
    exact h
set_option maxRecDepth 100000 in
theorem s_L_law_476 {k : zK} {g : zG} {I : zI} {L : zL} {y3 : Int32} {y4 : Int32} {y5 : Int64} {y7 : Int32} {y8 : Int32} {y9 : Int32} {y10 : Int32} {y11 : Int32} {y12 : Int32} (hb : gb g = true) (X : zX k g cL_law RL 13 (some .boolean) 11) (E : zEl k g) (h : Call (kl k) g 3 M_X6_melt [vR 1, vI y7, vI (y11 - 1)] I L (zi fun r1 I1 L1 => if (r1 + 1) < (y10 - y12) then (0 = (1 : Int32)) else (Call (kl k) g 3 M_X6_melt [vR 1, vI y7, vI (y11 - 1)] I1 L1 (zi fun r3 I3 L3 => if 0 < r3 then (if y12 = y10 then (if 0 < y10 then (0 = (1 : Int32)) else (AW k g 13 I3 L3 521 [(0, vR 3000), (1, vR 1), (3, vI y3), (4, vI y4), (5, vL y5), (7, vI y7), (8, vI y8), (9, vI y9), (11, vI y11), (12, vI y12)] [])) else (AW k g 13 I3 L3 521 [(0, vR 3000), (1, vR 1), (3, vI y3), (4, vI y4), (5, vL y5), (7, vI y7), (8, vI y8), (9, vI y9), (11, vI y11), (12, vI y12)] [])) else (AW k g 13 I3 L3 521 [(0, vR 3000), (1, vR 1), (3, vI y3), (4, vI y4), (5, vL y5), (7, vI y7), (8, vI y8), (9, vI y9), (11, vI y11), (12, vI y12)] []))))) : AW k g 13 I L 476 [(0, vR 3000), (1, vR 1), (3, vI y3), (4, vI y4), (5, vL y5), (7, vI y7), (8, vI y8), (9, vI y9), (10, vI y10), (11, vI y11), (12, vI y12)] [] := by
  refine aw_iload X 8 dL_law_476 rfl ?_
  refine aw_iload X 10 dL_law_478 rfl ?_
  refine aw_isub X dL_law_480 ?_
  refine aw_aload_n X 1 dL_law_481 rfl ?_
  refine aw_iload X 5 dL_law_482 rfl ?_
  refine aw_iload X 9 dL_law_484 rfl ?_
  refine aw_iconst (v := 1) X dL_law_486 (by decide) ?_
  refine aw_isub X dL_law_487 ?_
  refine aw_callV X (as := [vI y7, vI (y11 - 1)]) mf_X6_melt zw_555 h zs_1 rfl rfl (by decide) (Nat.le_of_ble_eq_true rfl) dL_law_488 (fun v I1 L1 h => ?_)
  obtain ⟨r1, rfl, h⟩ := h
  refine aw_iconst (v := 1) X dL_law_491 (by decide) ?_
  refine aw_iadd X dL_law_492 ?_
  refine aw_icmp_gt X 549 dL_law_493 rfl (fun c2 => ?_) (fun c2 => ?_)
  · replace h := zifp c2 h
    refine aw_iconst (v := 0) X dL_law_549 (by decide) ?_
    exact aw_lend X E dL_law_550 h
  · replace h := zifn c2 h
    refine aw_aload_n X 1 dL_law_496 rfl ?_
    refine aw_iload X 5 dL_law_497 rfl ?_
    refine aw_iload X 9 dL_law_499 rfl ?_
    refine aw_iconst (v := 1) X dL_law_501 (by decide) ?_
    refine aw_isub X dL_law_502 ?_
    refine aw_callV X (as := [vI y7, vI (y11 - 1)]) mf_X6_melt zw_555 h zs_1 rfl rfl (by decide) (Nat.le_of_ble_eq_true rfl) dL_law_503 (fun v I3 L3 h => ?_)
    obtain ⟨r3, rfl, h⟩ := h
    refine aw_if_len X 521 dL_law_506 rfl (fun c4 => ?_) (fun c4 => ?_)
    · replace h := zifp c4 h
      refine aw_iload X 10 dL_law_509 rfl ?_
      refine aw_iload X 8 dL_law_511 rfl ?_
      refine aw_icmp_ne X 521 dL_law_513 rfl (fun c5 => ?_) (fun c5 => ?_)
      · replace h := zifn c5 h
        refine aw_perm (ks9 := [(0, vR 3000), (1, vR 1), (3, vI y3), (4, vI y4), (5, vL y5), (7, vI y7), (8, vI y8), (9, vI y9), (11, vI y11), (12, vI y12)]) [0, 1, 2, 3, 4, 5, 6, 7, 9, 10] rfl ?_
        exact h
      · replace h := zifp c5 h
        refine aw_iload X 8 dL_law_516 rfl ?_
        refine aw_if_gt X 549 dL_law_518 rfl (fun c6 => ?_) (fun c6 => ?_)
        · replace h := zifp c6 h
          refine aw_iconst (v := 0) X dL_law_549 (by decide) ?_
          exact aw_lend X E dL_law_550 h
        · replace h := zifn c6 h
          refine aw_perm (ks9 := [(0, vR 3000), (1, vR 1), (3, vI y3), (4, vI y4), (5, vL y5), (7, vI y7), (8, vI y8), (9, vI y9), (11, vI y11), (12, vI y12)]) [0, 1, 2, 3, 4, 5, 6, 7, 9, 10] rfl ?_
          exact h
    · replace h := zifn c4 h
      refine aw_perm (ks9 := [(0, vR 3000), (1, vR 1), (3, vI y3), (4, vI y4), (5, vL y5), (7, vI y7), (8, vI y8), (9, vI y9), (11, vI y11), (12, vI y12)]) [0, 1, 2, 3, 4, 5, 6, 7, 9, 10] rfl ?_
      exact h
set_option maxRecDepth 100000 in
theorem s_L_law_521 {k : zK} {g : zG} {I : zI} {L : zL} {y3 : Int32} {y4 : Int32} {y5 : Int64} {y7 : Int32} {y8 : Int32} {y9 : Int32} {y11 : Int32} {y12 : Int32} (hb : gb g = true) (X : zX k g cL_law RL 13 (some .boolean) 11) (E : zEl k g) (h : Call (kl k) g 6 M_X6_shape [vR 1, vI y7, vI y8, vI y11] I L (zi fun r1 I1 L1 => if ((jshr r1 y9) &&& 1) = (if 0 < y12 then 1 else (0 : Int32)) then (AW k g 13 I1 L1 413 [(0, vR 3000), (1, vR 1), (3, vI y3), (4, vI y4), (5, vL y5), (7, vI y7), (8, vI y8), (9, vI y9), (10, vI y12), (11, vI (y11 + 1))] []) else (0 = (1 : Int32)))) : AW k g 13 I L 521 [(0, vR 3000), (1, vR 1), (3, vI y3), (4, vI y4), (5, vL y5), (7, vI y7), (8, vI y8), (9, vI y9), (11, vI y11), (12, vI y12)] [] := by
  refine aw_aload_n X 1 dL_law_521 rfl ?_
  refine aw_iload X 5 dL_law_522 rfl ?_
  refine aw_iload X 6 dL_law_524 rfl ?_
  refine aw_iload X 8 dL_law_526 rfl ?_
  refine aw_callV X (as := [vI y7, vI y8, vI y11]) mf_X6_shape zw_635 h zs_1 rfl rfl (by decide) (Nat.le_of_ble_eq_true rfl) dL_law_528 (fun v I1 L1 h => ?_)
  obtain ⟨r1, rfl, h⟩ := h
  refine aw_iload X 7 dL_law_531 rfl ?_
  refine aw_ishr X dL_law_533 ?_
  refine aw_iconst (v := 1) X dL_law_534 (by decide) ?_
  refine aw_iand X dL_law_535 ?_
  refine aw_iload X 9 dL_law_536 rfl ?_
  have hJ3 : ∀ (w1 : Int32), w1 = (if 0 < y12 then 1 else (0 : Int32)) → AW k g 13 I1 L1 546 [(0, vR 3000), (1, vR 1), (3, vI y3), (4, vI y4), (5, vL y5), (7, vI y7), (8, vI y8), (9, vI y9), (11, vI y11), (12, vI y12)] [vI w1, vI ((jshr r1 y9) &&& 1)] := by
    intro w1 q1
    subst q1
    refine aw_icmp_eq X 551 dL_law_546 rfl (fun c4 => ?_) (fun c4 => ?_)
    · replace h := zifp c4 h
      refine aw_iload X 9 dL_law_551 rfl ?_
      refine aw_istore X dL_law_553 (by decide) rfl ?_
      refine aw_iinc (v := y11 + 1) X 9 dL_law_555 rfl rfl (by decide) rfl ?_
      refine aw_goto X 413 dL_law_558 rfl ?_
      refine aw_perm (ks9 := [(0, vR 3000), (1, vR 1), (3, vI y3), (4, vI y4), (5, vL y5), (7, vI y7), (8, vI y8), (9, vI y9), (10, vI y12), (11, vI (y11 + 1))]) [2, 3, 4, 5, 6, 7, 8, 9, 1, 0] rfl ?_
      exact h
    · replace h := zifn c4 h
      refine aw_iconst (v := 0) X dL_law_549 (by decide) ?_
      exact aw_lend X E dL_law_550 h
  refine aw_if_len X 545 dL_law_538 rfl (fun c2 => ?_) (fun c2 => ?_)
  · refine aw_iconst (v := 1) X dL_law_541 (by decide) ?_
    refine aw_goto X 546 dL_law_542 rfl ?_
    refine aw_perm (ks9 := [(0, vR 3000), (1, vR 1), (3, vI y3), (4, vI y4), (5, vL y5), (7, vI y7), (8, vI y8), (9, vI y9), (11, vI y11), (12, vI y12)]) [0, 1, 2, 3, 4, 5, 6, 7, 8, 9] rfl ?_
    exact hJ3 _ (if_pos c2).symm
  · refine aw_iconst (v := 0) X dL_law_545 (by decide) ?_
    refine aw_perm (ks9 := [(0, vR 3000), (1, vR 1), (3, vI y3), (4, vI y4), (5, vL y5), (7, vI y7), (8, vI y8), (9, vI y9), (11, vI y11), (12, vI y12)]) [0, 1, 2, 3, 4, 5, 6, 7, 8, 9] rfl ?_
    exact hJ3 _ (if_neg c2).symm
set_option maxRecDepth 100000 in
theorem s_L_law_588 {k : zK} {g : zG} {I : zI} {L : zL} {y3 : Int32} {y4 : Int32} {y5 : Int64} {y7 : Int32} {y8 : Int32} {y9 : Int32} {y10 : Int32} (hb : gb g = true) (X : zX k g cL_law RL 13 (some .boolean) 11) (E : zEl k g) (h : if y9 < y10 then (if y9 < 24 then (Call (kl k) g 6 M_X6_readsAs [vR 1, vI y7, vI y8, vI (y9 + 1)] I L (zi fun r3 I3 L3 => if r3 = y8 then (0 = (1 : Int32)) else (Call (kl k) g 6 M_X6_becomes [vR 1, vI y8] I3 L3 (zi fun r5 I5 L5 => if ((jshr r5 y8) &&& 1) = 1 then (0 = (1 : Int32)) else (AW k g 13 I5 L5 314 [(0, vR 3000), (1, vR 1), (3, vI y3), (4, vI y4), (5, vL y5), (7, vI (y7 + 1))] []))))) else (Call (kl k) g 6 M_X6_becomes [vR 1, vI y8] I L (zi fun r7 I7 L7 => if ((jshr r7 y8) &&& 1) = 1 then (0 = (1 : Int32)) else (AW k g 13 I7 L7 314 [(0, vR 3000), (1, vR 1), (3, vI y3), (4, vI y4), (5, vL y5), (7, vI (y7 + 1))] [])))) else (Call (kl k) g 6 M_X6_readsAs [vR 1, vI y7, vI y8, vI y10] I L (zi fun r9 I9 L9 => if r9 = y8 then (Call (kl k) g 6 M_X6_shape [vR 1, vI y7, vI y8, vI y10] I9 L9 (zi fun r11 I11 L11 => Call (kl k) g 7 M_X6_could [vR 1, vI y7, vI r11, vI y10] I11 L11 (zi fun r12 I12 L12 => if ((jshr r12 y8) &&& 1) = 0 then (0 = (1 : Int32)) else (AW k g 13 I12 L12 588 [(0, vR 3000), (1, vR 1), (3, vI y3), (4, vI y4), (5, vL y5), (7, vI y7), (8, vI y8), (9, vI y9), (10, vI (y10 + 1))] [])))) else (0 = (1 : Int32))))) : AW k g 13 I L 588 [(0, vR 3000), (1, vR 1), (3, vI y3), (4, vI y4), (5, vL y5), (7, vI y7), (8, vI y8), (9, vI y9), (10, vI y10)] [] := by
  refine aw_iload X 8 dL_law_588 rfl ?_
  refine aw_iload X 7 dL_law_590 rfl ?_
  refine aw_icmp_gt X 644 dL_law_592 rfl (fun c1 => ?_) (fun c1 => ?_)
  · replace h := zifp c1 h
    refine aw_iload X 7 dL_law_644 rfl ?_
    refine aw_bipush (v := 24) X dL_law_646 (by decide) ?_
    refine aw_icmp_gen X 668 dL_law_648 rfl (fun c2 => ?_) (fun c2 => ?_)
    · replace h := zifp c2 h
      refine aw_aload_n X 1 dL_law_651 rfl ?_
      refine aw_iload X 5 dL_law_652 rfl ?_
      refine aw_iload X 6 dL_law_654 rfl ?_
      refine aw_iload X 7 dL_law_656 rfl ?_
      refine aw_iconst (v := 1) X dL_law_658 (by decide) ?_
      refine aw_iadd X dL_law_659 ?_
      refine aw_callV X (as := [vI y7, vI y8, vI (y9 + 1)]) mf_X6_readsAs zw_640 h zs_1 rfl rfl (by decide) (Nat.le_of_ble_eq_true rfl) dL_law_660 (fun v I3 L3 h => ?_)
      obtain ⟨r3, rfl, h⟩ := h
      refine aw_iload X 6 dL_law_663 rfl ?_
      refine aw_icmp_eq X 683 dL_law_665 rfl (fun c4 => ?_) (fun c4 => ?_)
      · replace h := zifp c4 h
        refine aw_iconst (v := 0) X dL_law_683 (by decide) ?_
        exact aw_lend X E dL_law_684 h
      · replace h := zifn c4 h
        refine aw_aload_n X 1 dL_law_668 rfl ?_
        refine aw_iload X 6 dL_law_669 rfl ?_
        refine aw_callV X (as := [vI y8]) mf_X6_becomes zw_673 h zs_1 rfl rfl (by decide) (Nat.le_of_ble_eq_true rfl) dL_law_671 (fun v I5 L5 h => ?_)
        obtain ⟨r5, rfl, h⟩ := h
        refine aw_iload X 6 dL_law_674 rfl ?_
        refine aw_ishr X dL_law_676 ?_
        refine aw_iconst (v := 1) X dL_law_677 (by decide) ?_
        refine aw_iand X dL_law_678 ?_
        refine aw_iconst (v := 1) X dL_law_679 (by decide) ?_
        refine aw_icmp_ne X 685 dL_law_680 rfl (fun c6 => ?_) (fun c6 => ?_)
        · replace h := zifn c6 h
          refine aw_iinc (v := y7 + 1) X 5 dL_law_685 rfl rfl (by decide) rfl ?_
          refine aw_goto X 314 dL_law_688 rfl ?_
          refine aw_perm (ks9 := [(0, vR 3000), (1, vR 1), (3, vI y3), (4, vI y4), (5, vL y5), (7, vI (y7 + 1))]) [1, 2, 3, 4, 5, 0] rfl ?_
          exact h
        · replace h := zifp c6 h
          refine aw_iconst (v := 0) X dL_law_683 (by decide) ?_
          exact aw_lend X E dL_law_684 h
    · replace h := zifn c2 h
      refine aw_aload_n X 1 dL_law_668 rfl ?_
      refine aw_iload X 6 dL_law_669 rfl ?_
      refine aw_callV X (as := [vI y8]) mf_X6_becomes zw_673 h zs_1 rfl rfl (by decide) (Nat.le_of_ble_eq_true rfl) dL_law_671 (fun v I7 L7 h => ?_)
      obtain ⟨r7, rfl, h⟩ := h
      refine aw_iload X 6 dL_law_674 rfl ?_
      refine aw_ishr X dL_law_676 ?_
      refine aw_iconst (v := 1) X dL_law_677 (by decide) ?_
      refine aw_iand X dL_law_678 ?_
      refine aw_iconst (v := 1) X dL_law_679 (by decide) ?_
      refine aw_icmp_ne X 685 dL_law_680 rfl (fun c8 => ?_) (fun c8 => ?_)
      · replace h := zifn c8 h
        refine aw_iinc (v := y7 + 1) X 5 dL_law_685 rfl rfl (by decide) rfl ?_
        refine aw_goto X 314 dL_law_688 rfl ?_
        refine aw_perm (ks9 := [(0, vR 3000), (1, vR 1), (3, vI y3), (4, vI y4), (5, vL y5), (7, vI (y7 + 1))]) [1, 2, 3, 4, 5, 0] rfl ?_
        exact h
      · replace h := zifp c8 h
        refine aw_iconst (v := 0) X dL_law_683 (by decide) ?_
        exact aw_lend X E dL_law_684 h
  · replace h := zifn c1 h
    refine aw_aload_n X 1 dL_law_595 rfl ?_
    refine aw_iload X 5 dL_law_596 rfl ?_
    refine aw_iload X 6 dL_law_598 rfl ?_
    refine aw_iload X 8 dL_law_600 rfl ?_
    refine aw_callV X (as := [vI y7, vI y8, vI y10]) mf_X6_readsAs zw_640 h zs_1 rfl rfl (by decide) (Nat.le_of_ble_eq_true rfl) dL_law_602 (fun v I9 L9 h => ?_)
    obtain ⟨r9, rfl, h⟩ := h
    refine aw_iload X 6 dL_law_605 rfl ?_
    refine aw_icmp_ne X 636 dL_law_607 rfl (fun c10 => ?_) (fun c10 => ?_)
    · replace h := zifn c10 h
      refine aw_iconst (v := 0) X dL_law_636 (by decide) ?_
      exact aw_lend X E dL_law_637 h
    · replace h := zifp c10 h
      refine aw_aload_n X 1 dL_law_610 rfl ?_
      refine aw_iload X 5 dL_law_611 rfl ?_
      refine aw_aload_n X 1 dL_law_613 rfl ?_
      refine aw_iload X 5 dL_law_614 rfl ?_
      refine aw_iload X 6 dL_law_616 rfl ?_
      refine aw_iload X 8 dL_law_618 rfl ?_
      refine aw_callV X (as := [vI y7, vI y8, vI y10]) mf_X6_shape zw_635 h zs_1 rfl rfl (by decide) (Nat.le_of_ble_eq_true rfl) dL_law_620 (fun v I11 L11 h => ?_)
      obtain ⟨r11, rfl, h⟩ := h
      refine aw_iload X 8 dL_law_623 rfl ?_
      refine aw_callV X (as := [vI y7, vI r11, vI y10]) mf_X6_could zw_686 h zs_1 rfl rfl (by decide) (Nat.le_of_ble_eq_true rfl) dL_law_625 (fun v I12 L12 h => ?_)
      obtain ⟨r12, rfl, h⟩ := h
      refine aw_iload X 6 dL_law_628 rfl ?_
      refine aw_ishr X dL_law_630 ?_
      refine aw_iconst (v := 1) X dL_law_631 (by decide) ?_
      refine aw_iand X dL_law_632 ?_
      refine aw_if_ne X 638 dL_law_633 rfl (fun c13 => ?_) (fun c13 => ?_)
      · replace h := zifn c13 h
        refine aw_iinc (v := y10 + 1) X 8 dL_law_638 rfl rfl (by decide) rfl ?_
        refine aw_goto X 588 dL_law_641 rfl ?_
        refine aw_perm (ks9 := [(0, vR 3000), (1, vR 1), (3, vI y3), (4, vI y4), (5, vL y5), (7, vI y7), (8, vI y8), (9, vI y9), (10, vI (y10 + 1))]) [1, 2, 3, 4, 5, 6, 7, 8, 0] rfl ?_
        exact h
      · replace h := zifp c13 h
        refine aw_iconst (v := 0) X dL_law_636 (by decide) ?_
        exact aw_lend X E dL_law_637 h
set_option maxRecDepth 100000 in
theorem s_L_law_694 {k : zK} {g : zG} {I : zI} {L : zL} {y3 : Int32} {y4 : Int32} {y5 : Int64} {y7 : Int32} (hb : gb g = true) (X : zX k g cL_law RL 13 (some .boolean) 11) (E : zEl k g) (h : if y7 < y4 then (k_L_some (jshr (v_L_at g 21) y7) (y3 + 1) ∧ (Call (kl k) g 3 M_X6_hang [vR 1, vI y7, vI ((v_L_some (jshr (v_L_at g 21) y7) (y3 + 1)) - 1)] I L (zi fun r3 I3 L3 => if r3 < 0 then (0 = (1 : Int32)) else (Call (kl k) g 2 M_X6_room [vR 1, vI y7, vI (v_L_some (jshr (v_L_at g 22) y7) 10)] I3 L3 (zi fun r5 I5 L5 => if r5 < 0 then (0 = (1 : Int32)) else (AW k g 13 I5 L5 694 [(0, vR 3000), (1, vR 1), (3, vI y3), (4, vI y4), (5, vL y5), (7, vI (y7 + 1))] [])))))) else (Call (kl k) g 1 M_X6_seed [vR 1, vI 99] I L (zi fun r7 I7 L7 => if r7 = 1 then (Call (kl k) g 7 M_X6_winter [vR 1, vI 3] I7 L7 (zi fun r9 I9 L9 => if r9 < 0 then (0 = (1 : Int32)) else (Call (kl k) g 3 M_X6_ask [vR 1, vI 0, vI 7] I9 L9 (zi fun r11 I11 L11 => if r11 < 0 then (0 = (1 : Int32)) else (Call (kl k) g 3 M_X6_ask [vR 1, vI 1, vI 9] I11 L11 (zi fun r13 I13 L13 => if r13 < 0 then (0 = (1 : Int32)) else (Call (kl k) g 3 M_X6_ask [vR 1, vI 2, vI 0] I13 L13 (zi fun r15 I15 L15 => if r15 < 0 then (0 = (1 : Int32)) else (AW k g 13 I15 L15 810 [(1, vR 1), (3, vI y3), (4, vI y4), (5, vL y5), (7, vI 0)] []))))))))) else (0 = (1 : Int32))))) : AW k g 13 I L 694 [(0, vR 3000), (1, vR 1), (3, vI y3), (4, vI y4), (5, vL y5), (7, vI y7)] [] := by
  refine aw_iload X 5 dL_law_694 rfl ?_
  refine aw_iload X 3 dL_law_696 rfl ?_
  refine aw_icmp_gen X 758 dL_law_698 rfl (fun c1 => ?_) (fun c1 => ?_)
  · replace h := zifp c1 h
    refine aw_aload_n X 1 dL_law_701 rfl ?_
    refine aw_iload X 5 dL_law_702 rfl ?_
    refine aw_aload_n X 0 dL_law_704 rfl ?_
    refine aw_bipush (v := 21) X dL_law_705 (by decide) ?_
    refine aw_pS X (as := [vR 3000, vI 21]) mf_L_at zw_765 (p_L_at (kat_lit (by decide))) rfl rfl (by decide) (Nat.le_of_ble_eq_true rfl) dL_law_707 ?_
    refine aw_iload X 5 dL_law_710 rfl ?_
    refine aw_ishr X dL_law_712 ?_
    refine aw_iload_n X 2 dL_law_713 rfl ?_
    refine aw_iconst (v := 1) X dL_law_714 (by decide) ?_
    refine aw_iadd X dL_law_715 ?_
    have n2 := h.1
    replace h := h.2
    refine aw_pS X (as := [vI (jshr (v_L_at g 21) y7), vI (y3 + 1)]) mf_L_some zw_768 (p_L_some n2) rfl rfl (by decide) (Nat.le_of_ble_eq_true rfl) dL_law_716 ?_
    refine aw_iconst (v := 1) X dL_law_719 (by decide) ?_
    refine aw_isub X dL_law_720 ?_
    refine aw_callV X (as := [vI y7, vI ((v_L_some (jshr (v_L_at g 21) y7) (y3 + 1)) - 1)]) mf_X6_hang zw_388 h zs_1 rfl rfl (by decide) (Nat.le_of_ble_eq_true rfl) dL_law_721 (fun v I3 L3 h => ?_)
    obtain ⟨r3, rfl, h⟩ := h
    refine aw_if_lt X 750 dL_law_724 rfl (fun c4 => ?_) (fun c4 => ?_)
    · replace h := zifp c4 h
      refine aw_iconst (v := 0) X dL_law_750 (by decide) ?_
      exact aw_lend X E dL_law_751 h
    · replace h := zifn c4 h
      refine aw_aload_n X 1 dL_law_727 rfl ?_
      refine aw_iload X 5 dL_law_728 rfl ?_
      refine aw_aload_n X 0 dL_law_730 rfl ?_
      refine aw_bipush (v := 22) X dL_law_731 (by decide) ?_
      refine aw_pS X (as := [vR 3000, vI 22]) mf_L_at zw_765 (p_L_at (kat_lit (by decide))) rfl rfl (by decide) (Nat.le_of_ble_eq_true rfl) dL_law_733 ?_
      refine aw_iload X 5 dL_law_736 rfl ?_
      refine aw_ishr X dL_law_738 ?_
      refine aw_bipush (v := 10) X dL_law_739 (by decide) ?_
      refine aw_pS X (as := [vI (jshr (v_L_at g 22) y7), vI 10]) mf_L_some zw_768 (p_L_some (ksome_lit (by decide))) rfl rfl (by decide) (Nat.le_of_ble_eq_true rfl) dL_law_741 ?_
      refine aw_callV X (as := [vI y7, vI (v_L_some (jshr (v_L_at g 22) y7) 10)]) mf_X6_room zw_414 h zs_1 rfl rfl (by decide) (Nat.le_of_ble_eq_true rfl) dL_law_744 (fun v I5 L5 h => ?_)
      obtain ⟨r5, rfl, h⟩ := h
      refine aw_if_gen X 752 dL_law_747 rfl (fun c6 => ?_) (fun c6 => ?_)
      · replace h := zifp c6 h
        refine aw_iconst (v := 0) X dL_law_750 (by decide) ?_
        exact aw_lend X E dL_law_751 h
      · replace h := zifn c6 h
        refine aw_iinc (v := y7 + 1) X 5 dL_law_752 rfl rfl (by decide) rfl ?_
        refine aw_goto X 694 dL_law_755 rfl ?_
        refine aw_perm (ks9 := [(0, vR 3000), (1, vR 1), (3, vI y3), (4, vI y4), (5, vL y5), (7, vI (y7 + 1))]) [1, 2, 3, 4, 5, 0] rfl ?_
        exact h
  · replace h := zifn c1 h
    refine aw_aload_n X 1 dL_law_758 rfl ?_
    refine aw_bipush (v := 99) X dL_law_759 (by decide) ?_
    refine aw_callV X (as := [vI 99]) mf_X6_seed zw_753 h zs_1 rfl rfl (by decide) (Nat.le_of_ble_eq_true rfl) dL_law_761 (fun v I7 L7 h => ?_)
    obtain ⟨r7, rfl, h⟩ := h
    refine aw_iconst (v := 1) X dL_law_764 (by decide) ?_
    refine aw_icmp_ne X 805 dL_law_765 rfl (fun c8 => ?_) (fun c8 => ?_)
    · replace h := zifn c8 h
      refine aw_iconst (v := 0) X dL_law_805 (by decide) ?_
      exact aw_lend X E dL_law_806 h
    · replace h := zifp c8 h
      refine aw_aload_n X 1 dL_law_768 rfl ?_
      refine aw_iconst (v := 3) X dL_law_769 (by decide) ?_
      refine aw_callV X (as := [vI 3]) mf_X6_winter zw_739 h zs_1 rfl rfl (by decide) (Nat.le_of_ble_eq_true rfl) dL_law_770 (fun v I9 L9 h => ?_)
      obtain ⟨r9, rfl, h⟩ := h
      refine aw_if_lt X 805 dL_law_773 rfl (fun c10 => ?_) (fun c10 => ?_)
      · replace h := zifp c10 h
        refine aw_iconst (v := 0) X dL_law_805 (by decide) ?_
        exact aw_lend X E dL_law_806 h
      · replace h := zifn c10 h
        refine aw_aload_n X 1 dL_law_776 rfl ?_
        refine aw_iconst (v := 0) X dL_law_777 (by decide) ?_
        refine aw_bipush (v := 7) X dL_law_778 (by decide) ?_
        refine aw_callV X (as := [vI 0, vI 7]) mf_X6_ask zw_400 h zs_1 rfl rfl (by decide) (Nat.le_of_ble_eq_true rfl) dL_law_780 (fun v I11 L11 h => ?_)
        obtain ⟨r11, rfl, h⟩ := h
        refine aw_if_lt X 805 dL_law_783 rfl (fun c12 => ?_) (fun c12 => ?_)
        · replace h := zifp c12 h
          refine aw_iconst (v := 0) X dL_law_805 (by decide) ?_
          exact aw_lend X E dL_law_806 h
        · replace h := zifn c12 h
          refine aw_aload_n X 1 dL_law_786 rfl ?_
          refine aw_iconst (v := 1) X dL_law_787 (by decide) ?_
          refine aw_bipush (v := 9) X dL_law_788 (by decide) ?_
          refine aw_callV X (as := [vI 1, vI 9]) mf_X6_ask zw_400 h zs_1 rfl rfl (by decide) (Nat.le_of_ble_eq_true rfl) dL_law_790 (fun v I13 L13 h => ?_)
          obtain ⟨r13, rfl, h⟩ := h
          refine aw_if_lt X 805 dL_law_793 rfl (fun c14 => ?_) (fun c14 => ?_)
          · replace h := zifp c14 h
            refine aw_iconst (v := 0) X dL_law_805 (by decide) ?_
            exact aw_lend X E dL_law_806 h
          · replace h := zifn c14 h
            refine aw_aload_n X 1 dL_law_796 rfl ?_
            refine aw_iconst (v := 2) X dL_law_797 (by decide) ?_
            refine aw_iconst (v := 0) X dL_law_798 (by decide) ?_
            refine aw_callV X (as := [vI 2, vI 0]) mf_X6_ask zw_400 h zs_1 rfl rfl (by decide) (Nat.le_of_ble_eq_true rfl) dL_law_799 (fun v I15 L15 h => ?_)
            obtain ⟨r15, rfl, h⟩ := h
            refine aw_if_gen X 807 dL_law_802 rfl (fun c16 => ?_) (fun c16 => ?_)
            · replace h := zifp c16 h
              refine aw_iconst (v := 0) X dL_law_805 (by decide) ?_
              exact aw_lend X E dL_law_806 h
            · replace h := zifn c16 h
              refine aw_iconst (v := 0) X dL_law_807 (by decide) ?_
              refine aw_istore X dL_law_808 (by decide) rfl ?_
              refine aw_perm (ks9 := [(1, vR 1), (3, vI y3), (4, vI y4), (5, vL y5), (7, vI 0)]) [2, 3, 4, 5, 0] rfl ?_
              exact h
set_option maxRecDepth 100000 in
theorem s_L_law_810 {k : zK} {g : zG} {I : zI} {L : zL} {y3 : Int32} {y4 : Int32} {y5 : Int64} {y7 : Int32} (hb : gb g = true) (X : zX k g cL_law RL 13 (some .boolean) 11) (E : zEl k g) (h : if y7 < y4 then (AW k g 13 I L 820 [(1, vR 1), (3, vI y3), (4, vI y4), (5, vL y5), (7, vI y7), (8, vI 0)] []) else (AW k g 13 I L 851 [(1, vR 1), (3, vI y3), (4, vI y4), (5, vL y5), (7, vI 0)] [])) : AW k g 13 I L 810 [(1, vR 1), (3, vI y3), (4, vI y4), (5, vL y5), (7, vI y7)] [] := by
  refine aw_iload X 4 dL_law_810 rfl ?_
  refine aw_iload X 2 dL_law_812 rfl ?_
  refine aw_icmp_gen X 848 dL_law_814 rfl (fun c1 => ?_) (fun c1 => ?_)
  · replace h := zifp c1 h
    refine aw_iconst (v := 0) X dL_law_817 (by decide) ?_
    refine aw_istore X dL_law_818 (by decide) rfl ?_
    refine aw_perm (ks9 := [(1, vR 1), (3, vI y3), (4, vI y4), (5, vL y5), (7, vI y7), (8, vI 0)]) [1, 2, 3, 4, 5, 0] rfl ?_
    exact h
  · replace h := zifn c1 h
    refine aw_iconst (v := 0) X dL_law_848 (by decide) ?_
    refine aw_istore X dL_law_849 (by decide) rfl ?_
    refine aw_perm (ks9 := [(1, vR 1), (3, vI y3), (4, vI y4), (5, vL y5), (7, vI 0)]) [1, 2, 3, 4, 0] rfl ?_
    exact h
set_option maxRecDepth 100000 in
theorem s_L_law_820 {k : zK} {g : zG} {I : zI} {L : zL} {y3 : Int32} {y4 : Int32} {y5 : Int64} {y7 : Int32} {y8 : Int32} (hb : gb g = true) (X : zX k g cL_law RL 13 (some .boolean) 11) (E : zEl k g) (h : if y8 < 16 then (Call (kl k) g 3 M_X6_scratch [vR 1, vI y7, vI y8] I L (zi fun r2 I2 L2 => AW k g 13 I2 L2 820 [(1, vR 1), (3, vI y3), (4, vI y4), (5, vL y5), (7, vI y7), (8, vI (y8 + 5))] [])) else (AW k g 13 I L 810 [(1, vR 1), (3, vI y3), (4, vI y4), (5, vL y5), (7, vI (y7 + 1))] [])) : AW k g 13 I L 820 [(1, vR 1), (3, vI y3), (4, vI y4), (5, vL y5), (7, vI y7), (8, vI y8)] [] := by
  refine aw_iload X 5 dL_law_820 rfl ?_
  refine aw_bipush (v := 16) X dL_law_822 (by decide) ?_
  refine aw_icmp_gen X 842 dL_law_824 rfl (fun c1 => ?_) (fun c1 => ?_)
  · replace h := zifp c1 h
    refine aw_aload_n X 0 dL_law_827 rfl ?_
    refine aw_iload X 4 dL_law_828 rfl ?_
    refine aw_iload X 5 dL_law_830 rfl ?_
    refine aw_callV X (as := [vI y7, vI y8]) mf_X6_scratch zw_727 h zs_1 rfl rfl (by decide) (Nat.le_of_ble_eq_true rfl) dL_law_832 (fun v I2 L2 h => ?_)
    obtain ⟨r2, rfl, h⟩ := h
    refine aw_pop X dL_law_835 rfl ?_
    refine aw_iinc (v := y8 + 5) X 5 dL_law_836 rfl rfl (by decide) rfl ?_
    refine aw_goto X 820 dL_law_839 rfl ?_
    refine aw_perm (ks9 := [(1, vR 1), (3, vI y3), (4, vI y4), (5, vL y5), (7, vI y7), (8, vI (y8 + 5))]) [1, 2, 3, 4, 5, 0] rfl ?_
    exact h
  · replace h := zifn c1 h
    refine aw_iinc (v := y7 + 1) X 4 dL_law_842 rfl rfl (by decide) rfl ?_
    refine aw_goto X 810 dL_law_845 rfl ?_
    refine aw_perm (ks9 := [(1, vR 1), (3, vI y3), (4, vI y4), (5, vL y5), (7, vI (y7 + 1))]) [1, 2, 3, 4, 0] rfl ?_
    exact h
set_option maxRecDepth 100000 in
theorem s_L_law_851 {k : zK} {g : zG} {I : zI} {L : zL} {y3 : Int32} {y4 : Int32} {y5 : Int64} {y7 : Int32} (hb : gb g = true) (X : zX k g cL_law RL 13 (some .boolean) 11) (E : zEl k g) (h : Call (kl k) g 3 M_X6_form [vR 1, vI (17 * y7)] I L (zi fun r1 I1 L1 => if r1 < 0 then (if (y3 + y7) = 8 then (AW k g 13 I1 L1 883 [(1, vR 1), (4, vI y4), (5, vL y5), (7, vI 0)] []) else (0 = (1 : Int32))) else (AW k g 13 I1 L1 851 [(1, vR 1), (3, vI y3), (4, vI y4), (5, vL y5), (7, vI (y7 + 1))] []))) : AW k g 13 I L 851 [(1, vR 1), (3, vI y3), (4, vI y4), (5, vL y5), (7, vI y7)] [] := by
  refine aw_aload_n X 0 dL_law_851 rfl ?_
  refine aw_bipush (v := 17) X dL_law_852 (by decide) ?_
  refine aw_iload X 4 dL_law_854 rfl ?_
  refine aw_imul X dL_law_856 ?_
  refine aw_callV X (as := [vI (17 * y7)]) mf_X6_form zw_330 h zs_1 rfl rfl (by decide) (Nat.le_of_ble_eq_true rfl) dL_law_857 (fun v I1 L1 h => ?_)
  obtain ⟨r1, rfl, h⟩ := h
  refine aw_if_lt X 869 dL_law_860 rfl (fun c2 => ?_) (fun c2 => ?_)
  · replace h := zifp c2 h
    refine aw_iload_n X 1 dL_law_869 rfl ?_
    refine aw_iload X 4 dL_law_870 rfl ?_
    refine aw_iadd X dL_law_872 ?_
    refine aw_bipush (v := 8) X dL_law_873 (by decide) ?_
    refine aw_icmp_eq X 880 dL_law_875 rfl (fun c3 => ?_) (fun c3 => ?_)
    · replace h := zifp c3 h
      refine aw_iconst (v := 0) X dL_law_880 (by decide) ?_
      refine aw_istore X dL_law_881 (by decide) rfl ?_
      refine aw_perm (ks9 := [(1, vR 1), (4, vI y4), (5, vL y5), (7, vI 0)]) [1, 3, 4, 0] rfl ?_
      exact h
    · replace h := zifn c3 h
      refine aw_iconst (v := 0) X dL_law_878 (by decide) ?_
      exact aw_lend X E dL_law_879 h
  · replace h := zifn c2 h
    refine aw_iinc (v := y7 + 1) X 4 dL_law_863 rfl rfl (by decide) rfl ?_
    refine aw_goto X 851 dL_law_866 rfl ?_
    refine aw_perm (ks9 := [(1, vR 1), (3, vI y3), (4, vI y4), (5, vL y5), (7, vI (y7 + 1))]) [1, 2, 3, 4, 0] rfl ?_
    exact h
set_option maxRecDepth 100000 in
theorem s_L_law_883 {k : zK} {g : zG} {I : zI} {L : zL} {y4 : Int32} {y5 : Int64} {y7 : Int32} (hb : gb g = true) (X : zX k g cL_law RL 13 (some .boolean) 11) (E : zEl k g) (h : Call (kl k) g 3 M_X6_pane [vR 1, vI (jrem y7 7), vI 3, vI y7] I L (zi fun r1 I1 L1 => if r1 < 0 then (if (y4 + y7) = 8 then (Call (kl k) g 2 M_X6_show [vR 1, vI 1, vI 7] I1 L1 (zi fun r4 I4 L4 => if r4 = 1 then (if 0 < y4 then (Call (kl k) g 2 M_X6_show [vR 1, vI 2, vI 0] I4 L4 (zi fun r7 I7 L7 => if r7 = 1 then (AW k g 13 I7 L7 940 [(1, vR 1), (4, vI y4), (5, vL y5)] []) else (0 = (1 : Int32)))) else (AW k g 13 I4 L4 940 [(1, vR 1), (4, vI y4), (5, vL y5)] [])) else (0 = (1 : Int32)))) else (0 = (1 : Int32))) else (AW k g 13 I1 L1 883 [(1, vR 1), (4, vI y4), (5, vL y5), (7, vI (y7 + 1))] []))) : AW k g 13 I L 883 [(1, vR 1), (4, vI y4), (5, vL y5), (7, vI y7)] [] := by
  refine aw_aload_n X 0 dL_law_883 rfl ?_
  refine aw_iload X 3 dL_law_884 rfl ?_
  refine aw_bipush (v := 7) X dL_law_886 (by decide) ?_
  refine aw_irem X dL_law_888 (by decide) ?_
  refine aw_iconst (v := 3) X dL_law_889 (by decide) ?_
  refine aw_iload X 3 dL_law_890 rfl ?_
  refine aw_callV X (as := [vI (jrem y7 7), vI 3, vI y7]) mf_X6_pane zw_347 h zs_1 rfl rfl (by decide) (Nat.le_of_ble_eq_true rfl) dL_law_892 (fun v I1 L1 h => ?_)
  obtain ⟨r1, rfl, h⟩ := h
  refine aw_if_lt X 904 dL_law_895 rfl (fun c2 => ?_) (fun c2 => ?_)
  · replace h := zifp c2 h
    refine aw_iload X 1 dL_law_904 rfl ?_
    refine aw_iload X 3 dL_law_906 rfl ?_
    refine aw_iadd X dL_law_908 ?_
    refine aw_bipush (v := 8) X dL_law_909 (by decide) ?_
    refine aw_icmp_ne X 964 dL_law_911 rfl (fun c3 => ?_) (fun c3 => ?_)
    · replace h := zifn c3 h
      refine aw_iconst (v := 0) X dL_law_964 (by decide) ?_
      exact aw_lend X E dL_law_965 h
    · replace h := zifp c3 h
      refine aw_aload_n X 0 dL_law_914 rfl ?_
      refine aw_iconst (v := 1) X dL_law_915 (by decide) ?_
      refine aw_bipush (v := 7) X dL_law_916 (by decide) ?_
      refine aw_callV X (as := [vI 1, vI 7]) mf_X6_show zw_306 h zs_1 rfl rfl (by decide) (Nat.le_of_ble_eq_true rfl) dL_law_918 (fun v I4 L4 h => ?_)
      obtain ⟨r4, rfl, h⟩ := h
      refine aw_iconst (v := 1) X dL_law_921 (by decide) ?_
      refine aw_icmp_ne X 964 dL_law_922 rfl (fun c5 => ?_) (fun c5 => ?_)
      · replace h := zifn c5 h
        refine aw_iconst (v := 0) X dL_law_964 (by decide) ?_
        exact aw_lend X E dL_law_965 h
      · replace h := zifp c5 h
        refine aw_iload X 1 dL_law_925 rfl ?_
        refine aw_if_len X 940 dL_law_927 rfl (fun c6 => ?_) (fun c6 => ?_)
        · replace h := zifp c6 h
          refine aw_aload_n X 0 dL_law_930 rfl ?_
          refine aw_iconst (v := 2) X dL_law_931 (by decide) ?_
          refine aw_iconst (v := 0) X dL_law_932 (by decide) ?_
          refine aw_callV X (as := [vI 2, vI 0]) mf_X6_show zw_306 h zs_1 rfl rfl (by decide) (Nat.le_of_ble_eq_true rfl) dL_law_933 (fun v I7 L7 h => ?_)
          obtain ⟨r7, rfl, h⟩ := h
          refine aw_iconst (v := 1) X dL_law_936 (by decide) ?_
          refine aw_icmp_ne X 964 dL_law_937 rfl (fun c8 => ?_) (fun c8 => ?_)
          · replace h := zifn c8 h
            refine aw_iconst (v := 0) X dL_law_964 (by decide) ?_
            exact aw_lend X E dL_law_965 h
          · replace h := zifp c8 h
            refine aw_perm (ks9 := [(1, vR 1), (4, vI y4), (5, vL y5)]) [0, 1, 2] rfl ?_
            exact h
        · replace h := zifn c6 h
          refine aw_perm (ks9 := [(1, vR 1), (4, vI y4), (5, vL y5)]) [0, 1, 2] rfl ?_
          exact h
  · replace h := zifn c2 h
    refine aw_iinc (v := y7 + 1) X 3 dL_law_898 rfl rfl (by decide) rfl ?_
    refine aw_goto X 883 dL_law_901 rfl ?_
    refine aw_perm (ks9 := [(1, vR 1), (4, vI y4), (5, vL y5), (7, vI (y7 + 1))]) [1, 2, 3, 0] rfl ?_
    exact h
set_option maxRecDepth 100000 in
theorem s_L_law_940 {k : zK} {g : zG} {I : zI} {L : zL} {y4 : Int32} {y5 : Int64} (hb : gb g = true) (X : zX k g cL_law RL 13 (some .boolean) 11) (E : zEl k g) (h : Call (kl k) g 2 M_X6_row [vR 1, vI 3, vI 1, vI 5] I L (zi fun r1 I1 L1 => if r1 = 1 then (Call (kl k) g 3 M_X6_set [vR 1, vI 3, vI 1, vL 77] I1 L1 (zi fun r3 I3 L3 => if r3 = 1 then (Call (kl k) g 4 M_X6_restore [vR 1] I3 L3 (zi fun r5 I5 L5 => if r5 = y4 then (Call (kl k) g 8 M_L_told [vR 1] I5 L5 (zl fun r7 I7 L7 => if (lg_cmp r7 y5) = 0 then (if (v_X6_holds I7 1) = (if y4 = 8 then 7 else ((-1) : Int32)) then (if (v_X6_holds I7 2) = (if 0 < y4 then 0 else ((-1) : Int32)) then (if (v_X6_holds I7 3) = 101 then (if (lg_cmp (v_X6_element I7 L7 3 1) 77) = 0 then (Call (kl k) g 4 M_X6_restore [vR 1] I7 L7 (zi fun r17 I17 L17 => if r17 = y4 then (Call (kl k) g 8 M_L_told [vR 1] I17 L17 (zl fun r19 I19 L19 => (if (lg_cmp r19 y5) = 0 then 1 else (0 : Int32)) = (1 : Int32))) else (0 = (1 : Int32)))) else (0 = (1 : Int32))) else (0 = (1 : Int32))) else (0 = (1 : Int32))) else (0 = (1 : Int32))) else (0 = (1 : Int32)))) else (0 = (1 : Int32)))) else (0 = (1 : Int32)))) else (0 = (1 : Int32)))) : AW k g 13 I L 940 [(1, vR 1), (4, vI y4), (5, vL y5)] [] := by
  refine aw_aload_n X 0 dL_law_940 rfl ?_
  refine aw_iconst (v := 3) X dL_law_941 (by decide) ?_
  refine aw_iconst (v := 1) X dL_law_942 (by decide) ?_
  refine aw_iconst (v := 5) X dL_law_943 (by decide) ?_
  refine aw_callV X (as := [vI 3, vI 1, vI 5]) mf_X6_row zw_259 h zs_1 rfl rfl (by decide) (Nat.le_of_ble_eq_true rfl) dL_law_944 (fun v I1 L1 h => ?_)
  obtain ⟨r1, rfl, h⟩ := h
  refine aw_iconst (v := 1) X dL_law_947 (by decide) ?_
  refine aw_icmp_ne X 964 dL_law_948 rfl (fun c2 => ?_) (fun c2 => ?_)
  · replace h := zifn c2 h
    refine aw_iconst (v := 0) X dL_law_964 (by decide) ?_
    exact aw_lend X E dL_law_965 h
  · replace h := zifp c2 h
    refine aw_aload_n X 0 dL_law_951 rfl ?_
    refine aw_iconst (v := 3) X dL_law_952 (by decide) ?_
    refine aw_iconst (v := 1) X dL_law_953 (by decide) ?_
    refine aw_ldc2 X zw_897 dL_law_954 ?_
    refine aw_callV X (as := [vI 3, vI 1, vL 77]) mf_X6_set zw_275 h zs_1 rfl rfl (by decide) (Nat.le_of_ble_eq_true rfl) dL_law_957 (fun v I3 L3 h => ?_)
    obtain ⟨r3, rfl, h⟩ := h
    refine aw_iconst (v := 1) X dL_law_960 (by decide) ?_
    refine aw_icmp_eq X 966 dL_law_961 rfl (fun c4 => ?_) (fun c4 => ?_)
    · replace h := zifp c4 h
      refine aw_aload_n X 0 dL_law_966 rfl ?_
      refine aw_callV X (as := []) mf_X6_restore zw_761 h zs_1 rfl rfl (by decide) (Nat.le_of_ble_eq_true rfl) dL_law_967 (fun v I5 L5 h => ?_)
      obtain ⟨r5, rfl, h⟩ := h
      refine aw_iload X 1 dL_law_970 rfl ?_
      refine aw_icmp_ne X 1047 dL_law_972 rfl (fun c6 => ?_) (fun c6 => ?_)
      · replace h := zifn c6 h
        refine aw_iconst (v := 0) X dL_law_1047 (by decide) ?_
        exact aw_lend X E dL_law_1048 h
      · replace h := zifp c6 h
        refine aw_aload_n X 0 dL_law_975 rfl ?_
        refine aw_callS X (as := [vR 1]) mf_L_told zw_775 h rfl rfl (by decide) (Nat.le_of_ble_eq_true rfl) dL_law_976 (fun v I7 L7 h => ?_)
        obtain ⟨r7, rfl, h⟩ := h
        refine aw_lload X 2 dL_law_979 rfl ?_
        refine aw_lcmp X dL_law_981 ?_
        refine aw_if_ne X 1047 dL_law_982 rfl (fun c8 => ?_) (fun c8 => ?_)
        · replace h := zifn c8 h
          refine aw_iconst (v := 0) X dL_law_1047 (by decide) ?_
          exact aw_lend X E dL_law_1048 h
        · replace h := zifp c8 h
          refine aw_aload_n X 0 dL_law_985 rfl ?_
          refine aw_iconst (v := 1) X dL_law_986 (by decide) ?_
          refine aw_pV X (as := [vI 1]) mf_X6_holds zw_322 (p_X6_holds) zs_1 rfl rfl (by decide) (Nat.le_of_ble_eq_true rfl) dL_law_987 ?_
          refine aw_iload X 1 dL_law_990 rfl ?_
          refine aw_bipush (v := 8) X dL_law_992 (by decide) ?_
          have hJ10 : ∀ (w1 : Int32), w1 = (if y4 = 8 then 7 else ((-1) : Int32)) → AW k g 13 I7 L7 1003 [(1, vR 1), (4, vI y4), (5, vL y5)] [vI w1, vI (v_X6_holds I7 1)] := by
            intro w1 q1
            subst q1
            refine aw_icmp_ne X 1047 dL_law_1003 rfl (fun c11 => ?_) (fun c11 => ?_)
            · replace h := zifn c11 h
              refine aw_iconst (v := 0) X dL_law_1047 (by decide) ?_
              exact aw_lend X E dL_law_1048 h
            · replace h := zifp c11 h
              refine aw_aload_n X 0 dL_law_1006 rfl ?_
              refine aw_iconst (v := 2) X dL_law_1007 (by decide) ?_
              refine aw_pV X (as := [vI 2]) mf_X6_holds zw_322 (p_X6_holds) zs_1 rfl rfl (by decide) (Nat.le_of_ble_eq_true rfl) dL_law_1008 ?_
              refine aw_iload X 1 dL_law_1011 rfl ?_
              have hJ13 : ∀ (w1 : Int32), w1 = (if 0 < y4 then 0 else ((-1) : Int32)) → AW k g 13 I7 L7 1021 [(1, vR 1), (4, vI y4), (5, vL y5)] [vI w1, vI (v_X6_holds I7 2)] := by
                intro w1 q1
                subst q1
                refine aw_icmp_ne X 1047 dL_law_1021 rfl (fun c14 => ?_) (fun c14 => ?_)
                · replace h := zifn c14 h
                  refine aw_iconst (v := 0) X dL_law_1047 (by decide) ?_
                  exact aw_lend X E dL_law_1048 h
                · replace h := zifp c14 h
                  refine aw_aload_n X 0 dL_law_1024 rfl ?_
                  refine aw_iconst (v := 3) X dL_law_1025 (by decide) ?_
                  refine aw_pV X (as := [vI 3]) mf_X6_holds zw_322 (p_X6_holds) zs_1 rfl rfl (by decide) (Nat.le_of_ble_eq_true rfl) dL_law_1026 ?_
                  refine aw_bipush (v := 101) X dL_law_1029 (by decide) ?_
                  refine aw_icmp_ne X 1047 dL_law_1031 rfl (fun c15 => ?_) (fun c15 => ?_)
                  · replace h := zifn c15 h
                    refine aw_iconst (v := 0) X dL_law_1047 (by decide) ?_
                    exact aw_lend X E dL_law_1048 h
                  · replace h := zifp c15 h
                    refine aw_aload_n X 0 dL_law_1034 rfl ?_
                    refine aw_iconst (v := 3) X dL_law_1035 (by decide) ?_
                    refine aw_iconst (v := 1) X dL_law_1036 (by decide) ?_
                    refine aw_pV X (as := [vI 3, vI 1]) mf_X6_element zw_298 (p_X6_element) zs_1 rfl rfl (by decide) (Nat.le_of_ble_eq_true rfl) dL_law_1037 ?_
                    refine aw_ldc2 X zw_897 dL_law_1040 ?_
                    refine aw_lcmp X dL_law_1043 ?_
                    refine aw_if_eq X 1049 dL_law_1044 rfl (fun c16 => ?_) (fun c16 => ?_)
                    · replace h := zifp c16 h
                      refine aw_aload_n X 0 dL_law_1049 rfl ?_
                      refine aw_callV X (as := []) mf_X6_restore zw_761 h zs_1 rfl rfl (by decide) (Nat.le_of_ble_eq_true rfl) dL_law_1050 (fun v I17 L17 h => ?_)
                      obtain ⟨r17, rfl, h⟩ := h
                      refine aw_iload X 1 dL_law_1053 rfl ?_
                      refine aw_icmp_ne X 1072 dL_law_1055 rfl (fun c18 => ?_) (fun c18 => ?_)
                      · replace h := zifn c18 h
                        refine aw_iconst (v := 0) X dL_law_1072 (by decide) ?_
                        exact aw_lend X E dL_law_1073 h
                      · replace h := zifp c18 h
                        refine aw_aload_n X 0 dL_law_1058 rfl ?_
                        refine aw_callS X (as := [vR 1]) mf_L_told zw_775 h rfl rfl (by decide) (Nat.le_of_ble_eq_true rfl) dL_law_1059 (fun v I19 L19 h => ?_)
                        obtain ⟨r19, rfl, h⟩ := h
                        refine aw_lload X 2 dL_law_1062 rfl ?_
                        refine aw_lcmp X dL_law_1064 ?_
                        have hJ21 : ∀ (w1 : Int32), w1 = (if (lg_cmp r19 y5) = 0 then 1 else (0 : Int32)) → AW k g 13 I19 L19 1073 [] [vI w1] := by
                          intro w1 q1
                          subst q1
                          exact aw_lend X E dL_law_1073 h
                        refine aw_if_ne X 1072 dL_law_1065 rfl (fun c20 => ?_) (fun c20 => ?_)
                        · refine aw_iconst (v := 0) X dL_law_1072 (by decide) ?_
                          refine aw_perm (ks9 := []) [] rfl ?_
                          exact hJ21 _ (if_neg c20).symm
                        · refine aw_iconst (v := 1) X dL_law_1068 (by decide) ?_
                          refine aw_goto X 1073 dL_law_1069 rfl ?_
                          refine aw_perm (ks9 := []) [] rfl ?_
                          exact hJ21 _ (if_pos c20).symm
                    · replace h := zifn c16 h
                      refine aw_iconst (v := 0) X dL_law_1047 (by decide) ?_
                      exact aw_lend X E dL_law_1048 h
              refine aw_if_len X 1020 dL_law_1013 rfl (fun c12 => ?_) (fun c12 => ?_)
              · refine aw_iconst (v := 0) X dL_law_1016 (by decide) ?_
                refine aw_goto X 1021 dL_law_1017 rfl ?_
                refine aw_perm (ks9 := [(1, vR 1), (4, vI y4), (5, vL y5)]) [0, 1, 2] rfl ?_
                exact hJ13 _ (if_pos c12).symm
              · refine aw_iconst (v := (-1)) X dL_law_1020 (by decide) ?_
                refine aw_perm (ks9 := [(1, vR 1), (4, vI y4), (5, vL y5)]) [0, 1, 2] rfl ?_
                exact hJ13 _ (if_neg c12).symm
          refine aw_icmp_ne X 1002 dL_law_994 rfl (fun c9 => ?_) (fun c9 => ?_)
          · refine aw_iconst (v := (-1)) X dL_law_1002 (by decide) ?_
            refine aw_perm (ks9 := [(1, vR 1), (4, vI y4), (5, vL y5)]) [0, 1, 2] rfl ?_
            exact hJ10 _ (if_neg c9).symm
          · refine aw_bipush (v := 7) X dL_law_997 (by decide) ?_
            refine aw_goto X 1003 dL_law_999 rfl ?_
            refine aw_perm (ks9 := [(1, vR 1), (4, vI y4), (5, vL y5)]) [0, 1, 2] rfl ?_
            exact hJ10 _ (if_pos c9).symm
    · replace h := zifn c4 h
      refine aw_iconst (v := 0) X dL_law_964 (by decide) ?_
      exact aw_lend X E dL_law_965 h
