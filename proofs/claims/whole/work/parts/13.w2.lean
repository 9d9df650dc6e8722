def v_X0_bodyAt (I : zI) (a1 : Int32) : Int32 := if a1 < 0 then (-1) else if a1 < (I 84 1) then if a1 < 20 then I 85 a1.toNatClampNeg else ((-1) : Int32) else ((-1) : Int32)
set_option maxRecDepth 100000 in
theorem p_X0_bodyAt {l : Launch} {g : zG} {I : zI} {L : zL} {a1 : Int32}  : Call l g 1 M_X0_bodyAt [vR 84, vI a1] I L (zp (some (vI (v_X0_bodyAt I a1))) I L) := by
  refine aw_entry (by decide) (Nat.le_of_ble_eq_true rfl) (fun k hk (X : zX k g cX0_bodyAt RX0 2 (some .int) 1) E => ?_)
  show AW k g 2 I L 0 [(0, vR 84), (1, vI a1)] []
  subst hk
  have hJ : ∀ w1 : Int32, w1 = (if a1 < 0 then (-1) else if a1 < (I 84 1) then if a1 < 20 then I 85 a1.toNatClampNeg else ((-1) : Int32) else ((-1) : Int32)) → zp (some (vI (v_X0_bodyAt I a1))) I L (some (vI w1)) I L := fun w1 e1 => ⟨by rw [e1]; rfl, rfl, rfl⟩
  refine aw_iload_n X 1 dX0_bodyAt_0 rfl ?_
  have hJ4 : ∀ (w1 : Int32), w1 = (if a1 < 0 then (-1) else if a1 < (I 84 1) then if a1 < 20 then I 85 a1.toNatClampNeg else ((-1) : Int32) else ((-1) : Int32)) → AW k g 2 I L 31 [] [vI w1] := by
    intro w1 q1
    subst q1
    exact aw_iret X E rfl dX0_bodyAt_31 (hJ _ rfl)
  refine aw_if_lt X 30 dX0_bodyAt_1 rfl (fun c1 => ?_) (fun c1 => ?_)
  · refine aw_iconst (v := (-1)) X dX0_bodyAt_30 (by decide) ?_
    refine aw_perm (ks9 := []) [] rfl ?_
    exact hJ4 _ (if_pos c1).symm
  · refine aw_iload_n X 1 dX0_bodyAt_4 rfl ?_
    refine aw_aload_n X 0 dX0_bodyAt_5 rfl ?_
    refine aw_getI X zf_RX0_15 rfl zs_84 dX0_bodyAt_6 ?_
    refine aw_icmp_gen X 30 dX0_bodyAt_9 rfl (fun c2 => ?_) (fun c2 => ?_)
    · refine aw_iload_n X 1 dX0_bodyAt_12 rfl ?_
      refine aw_aload_n X 0 dX0_bodyAt_13 rfl ?_
      refine aw_getR X zf_RX0_9 rfl zs_84 zr_84_0 dX0_bodyAt_14 ?_
      refine aw_alen (v := 20) X zs_85 (by decide) (by decide) dX0_bodyAt_17 ?_
      refine aw_icmp_gen X 30 dX0_bodyAt_18 rfl (fun c3 => ?_) (fun c3 => ?_)
      · refine aw_aload_n X 0 dX0_bodyAt_21 rfl ?_
        refine aw_getR X zf_RX0_9 rfl zs_84 zr_84_0 dX0_bodyAt_22 ?_
        refine aw_iload_n X 1 dX0_bodyAt_25 rfl ?_
        refine aw_ialdj (j := a1.toNatClampNeg) X zs_85 (zinof c1 c3 (by decide)) rfl dX0_bodyAt_26 ?_
        refine aw_goto X 31 dX0_bodyAt_27 rfl ?_
        refine aw_perm (ks9 := []) [] rfl ?_
        exact hJ4 _ (((if_pos c3).symm.trans (if_pos c2).symm).trans (if_neg c1).symm)
      · refine aw_iconst (v := (-1)) X dX0_bodyAt_30 (by decide) ?_
        refine aw_perm (ks9 := []) [] rfl ?_
        exact hJ4 _ (((if_neg c3).symm.trans (if_pos c2).symm).trans (if_neg c1).symm)
    · refine aw_iconst (v := (-1)) X dX0_bodyAt_30 (by decide) ?_
      refine aw_perm (ks9 := []) [] rfl ?_
      exact hJ4 _ ((if_neg c2).symm.trans (if_neg c1).symm)
set_option maxRecDepth 100000 in
theorem m_X0_forget {l : Launch} {g : zG} {Q : Option zv → zI → zL → Prop} {I : zI} {L : zL}   (h : Q none (zs I 84 1 0) L) : Call l g 1 M_X0_forget [vR 84] I L Q := by
  refine aw_entry (by decide) (Nat.le_of_ble_eq_true rfl) (fun k hk (X : zX k g cX0_forget RX0 1 none 1) E => ?_)
  show AW k g 1 I L 0 [(0, vR 84)] []
  subst hk
  refine aw_aload_n X 0 dX0_forget_0 rfl ?_
  refine aw_iconst (v := 0) X dX0_forget_1 (by decide) ?_
  refine aw_putI X zf_RX0_15 rfl rfl rfl zs_84 dX0_forget_2 ?_
  exact aw_vret X E rfl dX0_forget_5 h
def v_X0_isAct (a1 : Int32) : Int32 := if a1 < 0 then 0 else if 2 < a1 then 0 else (1 : Int32)
set_option maxRecDepth 100000 in
theorem p_X0_isAct {l : Launch} {g : zG} {I : zI} {L : zL} {a1 : Int32}  : Call l g 1 M_X0_isAct [vI a1] I L (zp (some (vI (v_X0_isAct a1))) I L) := by
  refine aw_entry (by decide) (Nat.le_of_ble_eq_true rfl) (fun k hk (X : zX k g cX0_isAct RX0 1 (some .boolean) 1) E => ?_)
  show AW k g 1 I L 0 [(0, vI a1)] []
  subst hk
  have hJ : ∀ w1 : Int32, w1 = (if a1 < 0 then 0 else if 2 < a1 then 0 else (1 : Int32)) → zp (some (vI (v_X0_isAct a1))) I L (some (vI w1)) I L := fun w1 e1 => ⟨by rw [e1]; rfl, rfl, rfl⟩
  refine aw_iload_n X 0 dX0_isAct_0 rfl ?_
  have hJ3 : ∀ (w1 : Int32), w1 = (if a1 < 0 then 0 else if 2 < a1 then 0 else (1 : Int32)) → AW k g 1 I L 14 [] [vI w1] := by
    intro w1 q1
    subst q1
    exact aw_zret X E rfl (by (repeat' split) <;> first | exact Or.inl rfl | exact Or.inr rfl) dX0_isAct_14 (hJ _ rfl)
  refine aw_if_lt X 13 dX0_isAct_1 rfl (fun c1 => ?_) (fun c1 => ?_)
  · refine aw_iconst (v := 0) X dX0_isAct_13 (by decide) ?_
    refine aw_perm (ks9 := []) [] rfl ?_
    exact hJ3 _ (if_pos c1).symm
  · refine aw_iload_n X 0 dX0_isAct_4 rfl ?_
    refine aw_iconst (v := 2) X dX0_isAct_5 (by decide) ?_
    refine aw_icmp_gt X 13 dX0_isAct_6 rfl (fun c2 => ?_) (fun c2 => ?_)
    · refine aw_iconst (v := 0) X dX0_isAct_13 (by decide) ?_
      refine aw_perm (ks9 := []) [] rfl ?_
      exact hJ3 _ ((if_pos c2).symm.trans (if_neg c1).symm)
    · refine aw_iconst (v := 1) X dX0_isAct_9 (by decide) ?_
      refine aw_goto X 14 dX0_isAct_10 rfl ?_
      refine aw_perm (ks9 := []) [] rfl ?_
      exact hJ3 _ ((if_neg c2).symm.trans (if_neg c1).symm)
theorem b_X0_isAct {a1 : Int32} : v_X0_isAct a1 = 0 ∨ v_X0_isAct a1 = 1 := by
  unfold v_X0_isAct
  repeat' split
  all_goals first | exact Or.inl rfl | exact Or.inr rfl
set_option maxRecDepth 100000 in
theorem m_X0_note {l : Launch} {g : zG} {Q : Option zv → zI → zL → Prop} {I : zI} {L : zL} {a1 : Int32}  (h : if (I 84 1) < 0 then (Q none (zs I 84 1 ((I 84 1) + 1)) L) else (if (I 84 1) < 20 then ((∀ I3 : zI, I3 = (zs I 85 ((I 84 1).toNatClampNeg) a1) → Q none (zs I3 84 1 ((I3 84 1) + 1)) L)) else (Q none (zs I 84 1 ((I 84 1) + 1)) L))) : Call l g 1 M_X0_note [vR 84, vI a1] I L Q := by
  refine aw_entry (by decide) (Nat.le_of_ble_eq_true rfl) (fun k hk (X : zX k g cX0_note RX0 2 none 1) E => ?_)
  show AW k g 2 I L 0 [(0, vR 84), (1, vI a1)] []
  subst hk
  refine aw_aload_n X 0 dX0_note_0 rfl ?_
  refine aw_getI X zf_RX0_15 rfl zs_84 dX0_note_1 ?_
  refine aw_if_lt X 29 dX0_note_4 rfl (fun c1 => ?_) (fun c1 => ?_)
  · replace h := zifp c1 h
    refine aw_aload_n X 0 dX0_note_29 rfl ?_
    refine aw_dup X dX0_note_30 rfl ?_
    refine aw_getI X zf_RX0_15 rfl zs_84 dX0_note_31 ?_
    refine aw_iconst (v := 1) X dX0_note_34 (by decide) ?_
    refine aw_iadd X dX0_note_35 ?_
    refine aw_putI X zf_RX0_15 rfl rfl rfl zs_84 dX0_note_36 ?_
    exact aw_vret X E rfl dX0_note_39 h
  · replace h := zifn c1 h
    refine aw_aload_n X 0 dX0_note_7 rfl ?_
    refine aw_getI X zf_RX0_15 rfl zs_84 dX0_note_8 ?_
    refine aw_aload_n X 0 dX0_note_11 rfl ?_
    refine aw_getR X zf_RX0_9 rfl zs_84 zr_84_0 dX0_note_12 ?_
    refine aw_alen (v := 20) X zs_85 (by decide) (by decide) dX0_note_15 ?_
    refine aw_icmp_gen X 29 dX0_note_16 rfl (fun c2 => ?_) (fun c2 => ?_)
    · replace h := zifp c2 h
      refine aw_aload_n X 0 dX0_note_19 rfl ?_
      refine aw_getR X zf_RX0_9 rfl zs_84 zr_84_0 dX0_note_20 ?_
      refine aw_aload_n X 0 dX0_note_23 rfl ?_
      refine aw_getI X zf_RX0_15 rfl zs_84 dX0_note_24 ?_
      refine aw_iload_n X 1 dX0_note_27 rfl ?_
      refine aw_iastj (j := (I 84 1).toNatClampNeg) X zs_85 (zinof c1 c2 (by decide)) rfl dX0_note_28 ?_
      refine aw_aload_n X 0 dX0_note_29 rfl ?_
      refine aw_nameI (fun I3 e3 => ?_)
      replace h := h I3 e3
      refine aw_dup X dX0_note_30 rfl ?_
      refine aw_getI X zf_RX0_15 rfl zs_84 dX0_note_31 ?_
      refine aw_iconst (v := 1) X dX0_note_34 (by decide) ?_
      refine aw_iadd X dX0_note_35 ?_
      refine aw_putI X zf_RX0_15 rfl rfl rfl zs_84 dX0_note_36 ?_
      exact aw_vret X E rfl dX0_note_39 h
    · replace h := zifn c2 h
      refine aw_aload_n X 0 dX0_note_29 rfl ?_
      refine aw_dup X dX0_note_30 rfl ?_
      refine aw_getI X zf_RX0_15 rfl zs_84 dX0_note_31 ?_
      refine aw_iconst (v := 1) X dX0_note_34 (by decide) ?_
      refine aw_iadd X dX0_note_35 ?_
      refine aw_putI X zf_RX0_15 rfl rfl rfl zs_84 dX0_note_36 ?_
      exact aw_vret X E rfl dX0_note_39 h
set_option maxRecDepth 100000 in
theorem m_X0_run {l : Launch} {g : zG} {Q : Option zv → zI → zL → Prop} {I : zI} {L : zL} {d : Nat} {a2 : Int32} {a3 : Int32} {a4 : Int32} {a5 : Int32} (hd : 5 ≤ d) (h : if a5 < 40 then (Call l g 1 M_X0_note [vR 84, vI (v_X0_bodyFor a2 a3)] I L (zn fun I2 L2 => if (v_X0_bodyFor a2 a3) = 10 then (Q (some (vI (a4 + (I2 84 3)))) I2 L2) else if (v_X0_bodyFor a2 a3) = 11 then (Call l g d M_X0_run [vR 84, vI 0, vI (I2 84 2), vI a4, vI (a5 + 1)] I2 L2 (zi fun r7 I7 L7 => Q (some (vI (r7 * 2))) I7 L7)) else if (v_X0_bodyFor a2 a3) = 12 then (Call l g d M_X0_run [vR 84, vI 1, vI (I2 84 2), vI a4, vI (a5 + 1)] I2 L2 (zi fun r9 I9 L9 => Call l g d M_X0_run [vR 84, vI 0, vI (I9 84 2), vI (a4 - (I9 84 4)), vI (a5 + 1)] I9 L9 (zi fun r10 I10 L10 => Q (some (vI (r9 ^^^ r10))) I10 L10))) else if (v_X0_bodyFor a2 a3) = 20 then (Call l g d M_X0_run [vR 84, vI 0, vI 0, vI a4, vI (a5 + 1)] I2 L2 (zi fun r12 I12 L12 => Q (some (vI (r12 + (I12 84 4)))) I12 L12)) else if (v_X0_bodyFor a2 a3) = 30 then (Call l g d M_X0_run [vR 84, vI 1, vI 0, vI a4, vI (a5 + 1)] I2 L2 (zi fun r14 I14 L14 => Q (some (vI (r14 * 3))) I14 L14)) else if (v_X0_bodyFor a2 a3) = 40 then (Call l g d M_X0_run [vR 84, vI 1, vI 2, vI (a4 + 1), vI (a5 + 1)] I2 L2 (zi fun r16 I16 L16 => Q (some (vI r16)) I16 L16)) else if (v_X0_bodyFor a2 a3) = 50 then (Call l g d M_X0_run [vR 84, vI 2, vI 0, vI a4, vI (a5 + 1)] I2 L2 (zi fun r18 I18 L18 => Q (some (vI (-r18))) I18 L18)) else if (v_X0_bodyFor a2 a3) = 51 then (Call l g d M_X0_run [vR 84, vI 0, vI 0, vI a4, vI (a5 + 1)] I2 L2 (zi fun r20 I20 L20 => Q (some (vI (r20 - (I20 84 3)))) I20 L20)) else if (v_X0_bodyFor a2 a3) = 60 then (Call l g d M_X0_run [vR 84, vI 2, vI 1, vI a4, vI (a5 + 1)] I2 L2 (zi fun r22 I22 L22 => Q (some (vI (r22 ^^^ 5))) I22 L22)) else if (v_X0_bodyFor a2 a3) = 70 then (Call l g d M_X0_run [vR 84, vI 0, vI 3, vI a4, vI (a5 + 1)] I2 L2 (zi fun r24 I24 L24 => Q (some (vI (r24 * 2))) I24 L24)) else if (v_X0_bodyFor a2 a3) = 71 then (Call l g d M_X0_run [vR 84, vI 1, vI 3, vI (a4 - (I2 84 4)), vI (a5 + 1)] I2 L2 (zi fun r26 I26 L26 => Q (some (vI r26)) I26 L26)) else (Q (some (vI 0)) I2 L2))) else (Q (some (vI 0)) I L)) : Call l g (d+1) M_X0_run [vR 84, vI a2, vI a3, vI a4, vI a5] I L Q := by
  refine aw_entry (by decide) (Nat.le_of_ble_eq_true rfl) (fun k hk (X : zX k g cX0_run RX0 7 (some .int) (d+1)) E => ?_)
  show AW k g 7 I L 0 [(0, vR 84), (1, vI a2), (2, vI a3), (3, vI a4), (4, vI a5)] []
  subst hk
  refine aw_iload X 4 dX0_run_0 rfl ?_
  refine aw_bipush (v := 40) X dX0_run_2 (by decide) ?_
  refine aw_icmp_lt X 9 dX0_run_4 rfl (fun c1 => ?_) (fun c1 => ?_)
  · replace h := zifp c1 h
    refine aw_iload X 4 dX0_run_9 rfl ?_
    refine aw_iconst (v := 1) X dX0_run_11 (by decide) ?_
    refine aw_iadd X dX0_run_12 ?_
    refine aw_istore X dX0_run_13 (by decide) rfl ?_
    refine aw_iload_n X 2 dX0_run_15 rfl ?_
    refine aw_iload_n X 3 dX0_run_16 rfl ?_
    refine aw_pS X (as := [vI a2, vI a3]) mf_X0_bodyFor zw_987 (p_X0_bodyFor) rfl rfl (by omega) (Nat.le_of_ble_eq_true rfl) dX0_run_17 ?_
    refine aw_istore X dX0_run_20 (by decide) rfl ?_
    refine aw_aload_n X 2 dX0_run_22 rfl ?_
    refine aw_iload X 0 dX0_run_23 rfl ?_
    refine aw_callV X (as := [vI (v_X0_bodyFor a2 a3)]) mf_X0_note zw_1002 h zs_84 rfl rfl (by omega) (Nat.le_of_ble_eq_true rfl) dX0_run_25 (fun v I2 L2 h => ?_)
    obtain ⟨rfl, h⟩ := h
    refine aw_iload X 0 dX0_run_28 rfl ?_
    by_cases c5 : (v_X0_bodyFor a2 a3) = 10
    · replace h := zifp c5 h
      refine aw_swp X 128 (10) (98) dX0_run_30 rfl (by rw [c5]; rfl) rfl rfl ?_
      refine aw_iload_n X 5 dX0_run_128 rfl ?_
      refine aw_aload_n X 2 dX0_run_129 rfl ?_
      refine aw_getI X zf_RX0_22 rfl zs_84 dX0_run_130 ?_
      refine aw_iadd X dX0_run_133 ?_
      exact aw_iret X E rfl dX0_run_134 h
    replace h := zifn c5 h
    by_cases c6 : (v_X0_bodyFor a2 a3) = 11
    · replace h := zifp c6 h
      refine aw_swp X 135 (11) (105) dX0_run_30 rfl (by rw [c6]; rfl) rfl rfl ?_
      refine aw_aload_n X 2 dX0_run_135 rfl ?_
      refine aw_iconst (v := 0) X dX0_run_136 (by decide) ?_
      refine aw_aload_n X 2 dX0_run_137 rfl ?_
      refine aw_getI X zf_RX0_19 rfl zs_84 dX0_run_138 ?_
      refine aw_iload_n X 5 dX0_run_141 rfl ?_
      refine aw_iload X 1 dX0_run_142 rfl ?_
      refine aw_callS X (as := [vR 84, vI 0, vI (I2 84 2), vI a4, vI (a5 + 1)]) mf_X0_run zw_984 h rfl rfl (by omega) (Nat.le_of_ble_eq_true rfl) dX0_run_144 (fun v I7 L7 h => ?_)
      obtain ⟨r7, rfl, h⟩ := h
      refine aw_iconst (v := 2) X dX0_run_147 (by decide) ?_
      refine aw_imul X dX0_run_148 ?_
      exact aw_iret X E rfl dX0_run_149 h
    replace h := zifn c6 h
    by_cases c8 : (v_X0_bodyFor a2 a3) = 12
    · replace h := zifp c8 h
      refine aw_swp X 150 (12) (120) dX0_run_30 rfl (by rw [c8]; rfl) rfl rfl ?_
      refine aw_aload_n X 2 dX0_run_150 rfl ?_
      refine aw_iconst (v := 1) X dX0_run_151 (by decide) ?_
      refine aw_aload_n X 2 dX0_run_152 rfl ?_
      refine aw_getI X zf_RX0_19 rfl zs_84 dX0_run_153 ?_
      refine aw_iload_n X 5 dX0_run_156 rfl ?_
      refine aw_iload X 1 dX0_run_157 rfl ?_
      refine aw_callS X (as := [vR 84, vI 1, vI (I2 84 2), vI a4, vI (a5 + 1)]) mf_X0_run zw_984 h rfl rfl (by omega) (Nat.le_of_ble_eq_true rfl) dX0_run_159 (fun v I9 L9 h => ?_)
      obtain ⟨r9, rfl, h⟩ := h
      refine aw_aload_n X 2 dX0_run_162 rfl ?_
      refine aw_iconst (v := 0) X dX0_run_163 (by decide) ?_
      refine aw_aload_n X 2 dX0_run_164 rfl ?_
      refine aw_getI X zf_RX0_19 rfl zs_84 dX0_run_165 ?_
      refine aw_iload_n X 5 dX0_run_168 rfl ?_
      refine aw_aload_n X 2 dX0_run_169 rfl ?_
      refine aw_getI X zf_RX0_25 rfl zs_84 dX0_run_170 ?_
      refine aw_isub X dX0_run_173 ?_
      refine aw_iload X 1 dX0_run_174 rfl ?_
      refine aw_callS X (as := [vR 84, vI 0, vI (I9 84 2), vI (a4 - (I9 84 4)), vI (a5 + 1)]) mf_X0_run zw_984 h rfl rfl (by omega) (Nat.le_of_ble_eq_true rfl) dX0_run_176 (fun v I10 L10 h => ?_)
      obtain ⟨r10, rfl, h⟩ := h
      refine aw_ixor X dX0_run_179 ?_
      exact aw_iret X E rfl dX0_run_180 h
    replace h := zifn c8 h
    by_cases c11 : (v_X0_bodyFor a2 a3) = 20
    · replace h := zifp c11 h
      refine aw_swp X 181 (20) (151) dX0_run_30 rfl (by rw [c11]; rfl) rfl rfl ?_
      refine aw_aload_n X 2 dX0_run_181 rfl ?_
      refine aw_iconst (v := 0) X dX0_run_182 (by decide) ?_
      refine aw_iconst (v := 0) X dX0_run_183 (by decide) ?_
      refine aw_iload_n X 5 dX0_run_184 rfl ?_
      refine aw_iload X 1 dX0_run_185 rfl ?_
      refine aw_callS X (as := [vR 84, vI 0, vI 0, vI a4, vI (a5 + 1)]) mf_X0_run zw_984 h rfl rfl (by omega) (Nat.le_of_ble_eq_true rfl) dX0_run_187 (fun v I12 L12 h => ?_)
      obtain ⟨r12, rfl, h⟩ := h
      refine aw_aload_n X 2 dX0_run_190 rfl ?_
      refine aw_getI X zf_RX0_25 rfl zs_84 dX0_run_191 ?_
      refine aw_iadd X dX0_run_194 ?_
      exact aw_iret X E rfl dX0_run_195 h
    replace h := zifn c11 h
    by_cases c13 : (v_X0_bodyFor a2 a3) = 30
    · replace h := zifp c13 h
      refine aw_swp X 196 (30) (166) dX0_run_30 rfl (by rw [c13]; rfl) rfl rfl ?_
      refine aw_aload_n X 2 dX0_run_196 rfl ?_
      refine aw_iconst (v := 1) X dX0_run_197 (by decide) ?_
      refine aw_iconst (v := 0) X dX0_run_198 (by decide) ?_
      refine aw_iload_n X 5 dX0_run_199 rfl ?_
      refine aw_iload X 1 dX0_run_200 rfl ?_
      refine aw_callS X (as := [vR 84, vI 1, vI 0, vI a4, vI (a5 + 1)]) mf_X0_run zw_984 h rfl rfl (by omega) (Nat.le_of_ble_eq_true rfl) dX0_run_202 (fun v I14 L14 h => ?_)
      obtain ⟨r14, rfl, h⟩ := h
      refine aw_iconst (v := 3) X dX0_run_205 (by decide) ?_
      refine aw_imul X dX0_run_206 ?_
      exact aw_iret X E rfl dX0_run_207 h
    replace h := zifn c13 h
    by_cases c15 : (v_X0_bodyFor a2 a3) = 40
    · replace h := zifp c15 h
      refine aw_swp X 208 (40) (178) dX0_run_30 rfl (by rw [c15]; rfl) rfl rfl ?_
      refine aw_aload_n X 2 dX0_run_208 rfl ?_
      refine aw_iconst (v := 1) X dX0_run_209 (by decide) ?_
      refine aw_iconst (v := 2) X dX0_run_210 (by decide) ?_
      refine aw_iload_n X 5 dX0_run_211 rfl ?_
      refine aw_iconst (v := 1) X dX0_run_212 (by decide) ?_
      refine aw_iadd X dX0_run_213 ?_
      refine aw_iload X 1 dX0_run_214 rfl ?_
      refine aw_callS X (as := [vR 84, vI 1, vI 2, vI (a4 + 1), vI (a5 + 1)]) mf_X0_run zw_984 h rfl rfl (by omega) (Nat.le_of_ble_eq_true rfl) dX0_run_216 (fun v I16 L16 h => ?_)
      obtain ⟨r16, rfl, h⟩ := h
      exact aw_iret X E rfl dX0_run_219 h
    replace h := zifn c15 h
    by_cases c17 : (v_X0_bodyFor a2 a3) = 50
    · replace h := zifp c17 h
      refine aw_swp X 220 (50) (190) dX0_run_30 rfl (by rw [c17]; rfl) rfl rfl ?_
      refine aw_aload_n X 2 dX0_run_220 rfl ?_
      refine aw_iconst (v := 2) X dX0_run_221 (by decide) ?_
      refine aw_iconst (v := 0) X dX0_run_222 (by decide) ?_
      refine aw_iload_n X 5 dX0_run_223 rfl ?_
      refine aw_iload X 1 dX0_run_224 rfl ?_
      refine aw_callS X (as := [vR 84, vI 2, vI 0, vI a4, vI (a5 + 1)]) mf_X0_run zw_984 h rfl rfl (by omega) (Nat.le_of_ble_eq_true rfl) dX0_run_226 (fun v I18 L18 h => ?_)
      obtain ⟨r18, rfl, h⟩ := h
      refine aw_ineg X dX0_run_229 ?_
      exact aw_iret X E rfl dX0_run_230 h
    replace h := zifn c17 h
    by_cases c19 : (v_X0_bodyFor a2 a3) = 51
    · replace h := zifp c19 h
      refine aw_swp X 231 (51) (201) dX0_run_30 rfl (by rw [c19]; rfl) rfl rfl ?_
      refine aw_aload_n X 2 dX0_run_231 rfl ?_
      refine aw_iconst (v := 0) X dX0_run_232 (by decide) ?_
      refine aw_iconst (v := 0) X dX0_run_233 (by decide) ?_
      refine aw_iload_n X 5 dX0_run_234 rfl ?_
      refine aw_iload X 1 dX0_run_235 rfl ?_
      refine aw_callS X (as := [vR 84, vI 0, vI 0, vI a4, vI (a5 + 1)]) mf_X0_run zw_984 h rfl rfl (by omega) (Nat.le_of_ble_eq_true rfl) dX0_run_237 (fun v I20 L20 h => ?_)
      obtain ⟨r20, rfl, h⟩ := h
      refine aw_aload_n X 2 dX0_run_240 rfl ?_
      refine aw_getI X zf_RX0_22 rfl zs_84 dX0_run_241 ?_
      refine aw_isub X dX0_run_244 ?_
      exact aw_iret X E rfl dX0_run_245 h
    replace h := zifn c19 h
    by_cases c21 : (v_X0_bodyFor a2 a3) = 60
    · replace h := zifp c21 h
      refine aw_swp X 246 (60) (216) dX0_run_30 rfl (by rw [c21]; rfl) rfl rfl ?_
      refine aw_aload_n X 2 dX0_run_246 rfl ?_
      refine aw_iconst (v := 2) X dX0_run_247 (by decide) ?_
      refine aw_iconst (v := 1) X dX0_run_248 (by decide) ?_
      refine aw_iload_n X 5 dX0_run_249 rfl ?_
      refine aw_iload X 1 dX0_run_250 rfl ?_
      refine aw_callS X (as := [vR 84, vI 2, vI 1, vI a4, vI (a5 + 1)]) mf_X0_run zw_984 h rfl rfl (by omega) (Nat.le_of_ble_eq_true rfl) dX0_run_252 (fun v I22 L22 h => ?_)
      obtain ⟨r22, rfl, h⟩ := h
      refine aw_iconst (v := 5) X dX0_run_255 (by decide) ?_
      refine aw_ixor X dX0_run_256 ?_
      exact aw_iret X E rfl dX0_run_257 h
    replace h := zifn c21 h
    by_cases c23 : (v_X0_bodyFor a2 a3) = 70
    · replace h := zifp c23 h
      refine aw_swp X 258 (70) (228) dX0_run_30 rfl (by rw [c23]; rfl) rfl rfl ?_
      refine aw_aload_n X 2 dX0_run_258 rfl ?_
      refine aw_iconst (v := 0) X dX0_run_259 (by decide) ?_
      refine aw_iconst (v := 3) X dX0_run_260 (by decide) ?_
      refine aw_iload_n X 5 dX0_run_261 rfl ?_
      refine aw_iload X 1 dX0_run_262 rfl ?_
      refine aw_callS X (as := [vR 84, vI 0, vI 3, vI a4, vI (a5 + 1)]) mf_X0_run zw_984 h rfl rfl (by omega) (Nat.le_of_ble_eq_true rfl) dX0_run_264 (fun v I24 L24 h => ?_)
      obtain ⟨r24, rfl, h⟩ := h
      refine aw_iconst (v := 2) X dX0_run_267 (by decide) ?_
      refine aw_imul X dX0_run_268 ?_
      exact aw_iret X E rfl dX0_run_269 h
    replace h := zifn c23 h
    by_cases c25 : (v_X0_bodyFor a2 a3) = 71
    · replace h := zifp c25 h
      refine aw_swp X 270 (71) (240) dX0_run_30 rfl (by rw [c25]; rfl) rfl rfl ?_
      refine aw_aload_n X 2 dX0_run_270 rfl ?_
      refine aw_iconst (v := 1) X dX0_run_271 (by decide) ?_
      refine aw_iconst (v := 3) X dX0_run_272 (by decide) ?_
      refine aw_iload_n X 5 dX0_run_273 rfl ?_
      refine aw_aload_n X 2 dX0_run_274 rfl ?_
      refine aw_getI X zf_RX0_25 rfl zs_84 dX0_run_275 ?_
      refine aw_isub X dX0_run_278 ?_
      refine aw_iload X 1 dX0_run_279 rfl ?_
      refine aw_callS X (as := [vR 84, vI 1, vI 3, vI (a4 - (I2 84 4)), vI (a5 + 1)]) mf_X0_run zw_984 h rfl rfl (by omega) (Nat.le_of_ble_eq_true rfl) dX0_run_281 (fun v I26 L26 h => ?_)
      obtain ⟨r26, rfl, h⟩ := h
      exact aw_iret X E rfl dX0_run_284 h
    replace h := zifn c25 h
    have e0 := ztn (n := 10) rfl c5
    have e1 := ztn (n := 11) rfl c6
    have e2 := ztn (n := 12) rfl c8
    have e3 := ztn (n := 20) rfl c11
    have e4 := ztn (n := 30) rfl c13
    have e5 := ztn (n := 40) rfl c15
    have e6 := ztn (n := 50) rfl c17
    have e7 := ztn (n := 51) rfl c19
    have e8 := ztn (n := 60) rfl c21
    have e9 := ztn (n := 70) rfl c23
    have e10 := ztn (n := 71) rfl c25
    refine aw_swd X 285 dX0_run_30 rfl (by intro q hq; simp only [List.mem_cons, List.not_mem_nil, or_false] at hq; rcases hq with rfl | rfl | rfl | rfl | rfl | rfl | rfl | rfl | rfl | rfl | rfl <;> assumption) rfl ?_
    refine aw_iconst (v := 0) X dX0_run_285 (by decide) ?_
    exact aw_iret X E rfl dX0_run_286 h
  · replace h := zifn c1 h
    refine aw_iconst (v := 0) X dX0_run_7 (by decide) ?_
    exact aw_iret X E rfl dX0_run_8 h
set_option maxRecDepth 100000 in
theorem m_X0_perform {l : Launch} {g : zG} {Q : Option zv → zI → zL → Prop} {I : zI} {L : zL} {a1 : Nat} {a2 : Int32} {a3 : Int32} {a4 : Int32}  (h : zsh a1 = (11, 6) ∧ ((∀ I2 : zI, I2 = (zs I 84 2 (I a1 0)) → (∀ I3 : zI, I3 = (zs I2 84 3 a2) → (∀ I4 : zI, I4 = (zs I3 84 4 (I3 a1 2)) → Call l g 50 M_X0_run [vR 84, vI a3, vI (I4 84 2), vI a4, vI 0] I4 L (zi fun r5 I5 L5 => Q (some (vI r5)) I5 L5)))))) : Call l g 51 M_X0_perform [vR 84, vR a1, vI a2, vI a3, vI a4] I L Q := by
  refine aw_entry (by decide) (Nat.le_of_ble_eq_true rfl) (fun k hk (X : zX k g cX0_perform RX0 5 (some .int) 51) E => ?_)
  show AW k g 5 I L 0 [(0, vR 84), (1, vR a1), (2, vI a2), (3, vI a3), (4, vI a4)] []
  subst hk
  refine aw_aload_n X 0 dX0_perform_0 rfl ?_
  refine aw_aload_n X 1 dX0_perform_1 rfl ?_
  have n1 := h.1
  replace h := h.2
  refine aw_getI X zf_RX0_28 rfl n1 dX0_perform_2 ?_
  refine aw_putI X zf_RX0_19 rfl rfl rfl zs_84 dX0_perform_5 ?_
  refine aw_aload_n X 0 dX0_perform_8 rfl ?_
  refine aw_iload_n X 2 dX0_perform_9 rfl ?_
  refine aw_nameI (fun I2 e2 => ?_)
  replace h := h I2 e2
  refine aw_putI X zf_RX0_22 rfl rfl rfl zs_84 dX0_perform_10 ?_
  refine aw_aload_n X 0 dX0_perform_13 rfl ?_
  refine aw_aload_n X 1 dX0_perform_14 rfl ?_
  refine aw_nameI (fun I3 e3 => ?_)
  replace h := h I3 e3
  refine aw_getI X zf_RX0_31 rfl n1 dX0_perform_15 ?_
  refine aw_putI X zf_RX0_25 rfl rfl rfl zs_84 dX0_perform_18 ?_
  refine aw_aload_n X 0 dX0_perform_21 rfl ?_
  refine aw_iload_n X 3 dX0_perform_22 rfl ?_
  refine aw_aload_n X 0 dX0_perform_23 rfl ?_
  refine aw_nameI (fun I4 e4 => ?_)
  replace h := h I4 e4
  refine aw_getI X zf_RX0_19 rfl zs_84 dX0_perform_24 ?_
  refine aw_iload X 4 dX0_perform_27 rfl ?_
  refine aw_iconst (v := 0) X dX0_perform_29 (by decide) ?_
  refine aw_callS X (as := [vR 84, vI a3, vI (I4 84 2), vI a4, vI 0]) mf_X0_run zw_984 h rfl rfl (by decide) (Nat.le_of_ble_eq_true rfl) dX0_perform_30 (fun v I5 L5 h => ?_)
  obtain ⟨r5, rfl, h⟩ := h
  exact aw_iret X E rfl dX0_perform_33 h
set_option maxRecDepth 100000 in
theorem m_X2_failAt {l : Launch} {g : zG} {Q : Option zv → zI → zL → Prop} {I : zI} {L : zL} {a1 : Int32}  (h : Q (some (vI 0)) (zs I 82 2 a1) L) : Call l g 1 M_X2_failAt [vR 82, vI a1] I L Q := by
  refine aw_entry (by decide) (Nat.le_of_ble_eq_true rfl) (fun k hk (X : zX k g cX2_failAt RX2 2 (some .boolean) 1) E => ?_)
  show AW k g 2 I L 0 [(0, vR 82), (1, vI a1)] []
  subst hk
  refine aw_aload_n X 0 dX2_failAt_0 rfl ?_
  refine aw_iload_n X 1 dX2_failAt_1 rfl ?_
  refine aw_putI X zf_RX2_19 rfl rfl rfl zs_82 dX2_failAt_2 ?_
  refine aw_iconst (v := 0) X dX2_failAt_5 (by decide) ?_
  exact aw_zret X E rfl (Or.inl rfl) dX2_failAt_6 h
set_option maxRecDepth 100000 in
theorem m_X2_hasRoomFor {l : Launch} {g : zG} {Q : Option zv → zI → zL → Prop} {I : zI} {L : zL} {a1 : Int32} {a2 : Nat}  (h : if a1 = 0 then (zsh a2 = (14, 10) ∧ (Q (some (vI (v_X4_hasLetterRoom I a2))) I L)) else if a1 = 1 then (zsh a2 = (14, 10) ∧ (Q (some (vI (v_X4_hasPaneRoom I a2))) I L)) else (Q (some (vI 1)) I L)) : Call l g 2 M_X2_hasRoomFor [vI a1, vR a2] I L Q := by
  refine aw_entry (by decide) (Nat.le_of_ble_eq_true rfl) (fun k hk (X : zX k g cX2_hasRoomFor RX2 2 (some .boolean) 2) E => ?_)
  show AW k g 2 I L 0 [(0, vI a1), (1, vR a2)] []
  subst hk
  refine aw_iload_n X 0 dX2_hasRoomFor_0 rfl ?_
  by_cases c5 : a1 = 0
  · replace h := zifp c5 h
    refine aw_swp X 28 (0) (27) dX2_hasRoomFor_1 rfl (by rw [c5]; rfl) rfl rfl ?_
    refine aw_aload_n X 1 dX2_hasRoomFor_28 rfl ?_
    have n6 := h.1
    replace h := h.2
    refine aw_pV X (as := []) mf_X4_hasLetterRoom zw_615 (p_X4_hasLetterRoom n6) n6 rfl rfl (by decide) (Nat.le_of_ble_eq_true rfl) dX2_hasRoomFor_29 ?_
    exact aw_zret X E rfl (b_X4_hasLetterRoom) dX2_hasRoomFor_32 h
  replace h := zifn c5 h
  by_cases c7 : a1 = 1
  · replace h := zifp c7 h
    refine aw_swp X 33 (1) (32) dX2_hasRoomFor_1 rfl (by rw [c7]; rfl) rfl rfl ?_
    refine aw_aload_n X 1 dX2_hasRoomFor_33 rfl ?_
    have n8 := h.1
    replace h := h.2
    refine aw_pV X (as := []) mf_X4_hasPaneRoom zw_616 (p_X4_hasPaneRoom n8) n8 rfl rfl (by decide) (Nat.le_of_ble_eq_true rfl) dX2_hasRoomFor_34 ?_
    exact aw_zret X E rfl (b_X4_hasPaneRoom) dX2_hasRoomFor_37 h
  replace h := zifn c7 h
  have e0 := ztn (n := 0) rfl c5
  have e1 := ztn (n := 1) rfl c7
  refine aw_swd X 38 dX2_hasRoomFor_1 rfl (by intro q hq; simp only [List.mem_cons, List.not_mem_nil, or_false] at hq; rcases hq with rfl | rfl <;> assumption) rfl ?_
  refine aw_iconst (v := 1) X dX2_hasRoomFor_38 (by decide) ?_
  exact aw_zret X E rfl (Or.inr rfl) dX2_hasRoomFor_39 h
def v_X2_isDigitAt (I : zI) (L : zL) (a1 : Nat) : Int32 := if (I 82 1) < (I a1 2) then if (v_X3_signAt I L a1 (I 82 1)) < 48 then 0 else if 57 < (v_X3_signAt I L a1 (I 82 1)) then 0 else (1 : Int32) else (0 : Int32)
def k_X2_isDigitAt (I : zI) (L : zL) (a1 : Nat) : Prop := zsh a1 = (13, 5)
set_option maxRecDepth 100000 in
theorem p_X2_isDigitAt {l : Launch} {g : zG} {I : zI} {L : zL} {a1 : Nat}  (hk0 : k_X2_isDigitAt I L a1) : Call l g 3 M_X2_isDigitAt [vR 82, vR a1] I L (zp (some (vI (v_X2_isDigitAt I L a1))) I L) := by
  refine aw_entry (by decide) (Nat.le_of_ble_eq_true rfl) (fun k hk (X : zX k g cX2_isDigitAt RX2 2 (some .boolean) 3) E => ?_)
  show AW k g 2 I L 0 [(0, vR 82), (1, vR a1)] []
  subst hk
  have n1 : zsh a1 = (13, 5) := hk0
  have hJ : ∀ w1 : Int32, w1 = (if (I 82 1) < (I a1 2) then if (v_X3_signAt I L a1 (I 82 1)) < 48 then 0 else if 57 < (v_X3_signAt I L a1 (I 82 1)) then 0 else (1 : Int32) else (0 : Int32)) → zp (some (vI (v_X2_isDigitAt I L a1))) I L (some (vI w1)) I L := fun w1 e1 => ⟨by rw [e1]; rfl, rfl, rfl⟩
  refine aw_aload_n X 0 dX2_isDigitAt_0 rfl ?_
  refine aw_getI X zf_RX2_15 rfl zs_82 dX2_isDigitAt_1 ?_
  refine aw_aload_n X 1 dX2_isDigitAt_4 rfl ?_
  refine aw_getI X zf_RX2_28 rfl n1 dX2_isDigitAt_5 ?_
  have hJ5 : ∀ (w1 : Int32), w1 = (if (I 82 1) < (I a1 2) then if (v_X3_signAt I L a1 (I 82 1)) < 48 then 0 else if 57 < (v_X3_signAt I L a1 (I 82 1)) then 0 else (1 : Int32) else (0 : Int32)) → AW k g 2 I L 42 [] [vI w1] := by
    intro w1 q1
    subst q1
    exact aw_zret X E rfl (by (repeat' split) <;> first | exact Or.inl rfl | exact Or.inr rfl) dX2_isDigitAt_42 (hJ _ rfl)
  refine aw_icmp_gen X 41 dX2_isDigitAt_8 rfl (fun c2 => ?_) (fun c2 => ?_)
  · refine aw_aload_n X 1 dX2_isDigitAt_11 rfl ?_
    refine aw_aload_n X 0 dX2_isDigitAt_12 rfl ?_
    refine aw_getI X zf_RX2_15 rfl zs_82 dX2_isDigitAt_13 ?_
    refine aw_pV X (as := [vI (I 82 1)]) mf_X3_signAt zw_536 (p_X3_signAt n1) n1 rfl rfl (by decide) (Nat.le_of_ble_eq_true rfl) dX2_isDigitAt_16 ?_
    refine aw_bipush (v := 48) X dX2_isDigitAt_19 (by decide) ?_
    refine aw_icmp_lt X 41 dX2_isDigitAt_21 rfl (fun c3 => ?_) (fun c3 => ?_)
    · refine aw_iconst (v := 0) X dX2_isDigitAt_41 (by decide) ?_
      refine aw_perm (ks9 := []) [] rfl ?_
      exact hJ5 _ ((if_pos c3).symm.trans (if_pos c2).symm)
    · refine aw_aload_n X 1 dX2_isDigitAt_24 rfl ?_
      refine aw_aload_n X 0 dX2_isDigitAt_25 rfl ?_
      refine aw_getI X zf_RX2_15 rfl zs_82 dX2_isDigitAt_26 ?_
      refine aw_pV X (as := [vI (I 82 1)]) mf_X3_signAt zw_536 (p_X3_signAt n1) n1 rfl rfl (by decide) (Nat.le_of_ble_eq_true rfl) dX2_isDigitAt_29 ?_
      refine aw_bipush (v := 57) X dX2_isDigitAt_32 (by decide) ?_
      refine aw_icmp_gt X 41 dX2_isDigitAt_34 rfl (fun c4 => ?_) (fun c4 => ?_)
      · refine aw_iconst (v := 0) X dX2_isDigitAt_41 (by decide) ?_
        refine aw_perm (ks9 := []) [] rfl ?_
        exact hJ5 _ (((if_pos c4).symm.trans (if_neg c3).symm).trans (if_pos c2).symm)
      · refine aw_iconst (v := 1) X dX2_isDigitAt_37 (by decide) ?_
        refine aw_goto X 42 dX2_isDigitAt_38 rfl ?_
        refine aw_perm (ks9 := []) [] rfl ?_
        exact hJ5 _ (((if_neg c4).symm.trans (if_neg c3).symm).trans (if_pos c2).symm)
  · refine aw_iconst (v := 0) X dX2_isDigitAt_41 (by decide) ?_
    refine aw_perm (ks9 := []) [] rfl ?_
    exact hJ5 _ (if_neg c2).symm
theorem b_X2_isDigitAt {I : zI} {L : zL} {a1 : Nat} (hk0 : k_X2_isDigitAt I L a1) : v_X2_isDigitAt I L a1 = 0 ∨ v_X2_isDigitAt I L a1 = 1 := by
  unfold v_X2_isDigitAt
  repeat' split
  all_goals first | exact Or.inl rfl | exact Or.inr rfl | exact hk0 | exact hk0.1 | exact hk0.2
def v_X2_lettersOf (a1 : Int32) : Nat := if a1 = 0 then 2000 + 0 else if a1 = 1 then 2000 + 1 else if a1 = 2 then 2000 + 2 else if a1 = 3 then 2000 + 3 else if a1 = 4 then 2000 + 4 else (2000 + 5)
set_option maxRecDepth 100000 in
theorem p_X2_lettersOf {l : Launch} {g : zG} {I : zI} {L : zL} {a1 : Int32}  : Call l g 1 M_X2_lettersOf [vI a1] I L (zp (some (vR (v_X2_lettersOf a1))) I L) := by
  refine aw_entry (by decide) (Nat.le_of_ble_eq_true rfl) (fun k hk (X : zX k g cX2_lettersOf RX2 1 (some (.object "java/lang/String")) 1) E => ?_)
  show AW k g 1 I L 0 [(0, vI a1)] []
  subst hk
  have hJ : ∀ w1 : Nat, w1 = (if a1 = 0 then 2000 + 0 else if a1 = 1 then 2000 + 1 else if a1 = 2 then 2000 + 2 else if a1 = 3 then 2000 + 3 else if a1 = 4 then 2000 + 4 else (2000 + 5)) → zp (some (vR (v_X2_lettersOf a1))) I L (some (vR w1)) I L := fun w1 e1 => ⟨by rw [e1]; rfl, rfl, rfl⟩
  refine aw_iload_n X 0 dX2_lettersOf_0 rfl ?_
  by_cases c1 : a1 = 0
  · refine aw_tableIn X 0 36 dX2_lettersOf_1 (by rw [c1]; rfl) (by decide) rfl rfl ?_
    refine aw_ldcS X (List.mem_of_getElem? (i := 0) rfl) rfl dX2_lettersOf_36 ?_
    exact aw_aret X E rfl dX2_lettersOf_38 (hJ _ (if_pos c1).symm)
  by_cases c2 : a1 = 1
  · refine aw_tableIn X 1 39 dX2_lettersOf_1 (by rw [c2]; rfl) (by decide) rfl rfl ?_
    refine aw_ldcS X (List.mem_of_getElem? (i := 1) rfl) rfl dX2_lettersOf_39 ?_
    exact aw_aret X E rfl dX2_lettersOf_41 (hJ _ ((if_neg c1).trans (if_pos c2)).symm)
  by_cases c3 : a1 = 2
  · refine aw_tableIn X 2 42 dX2_lettersOf_1 (by rw [c3]; rfl) (by decide) rfl rfl ?_
    refine aw_ldcS X (List.mem_of_getElem? (i := 2) rfl) rfl dX2_lettersOf_42 ?_
    exact aw_aret X E rfl dX2_lettersOf_44 (hJ _ ((if_neg c1).trans ((if_neg c2).trans (if_pos c3))).symm)
  by_cases c4 : a1 = 3
  · refine aw_tableIn X 3 45 dX2_lettersOf_1 (by rw [c4]; rfl) (by decide) rfl rfl ?_
    refine aw_ldcS X (List.mem_of_getElem? (i := 3) rfl) rfl dX2_lettersOf_45 ?_
    exact aw_aret X E rfl dX2_lettersOf_47 (hJ _ ((if_neg c1).trans ((if_neg c2).trans ((if_neg c3).trans (if_pos c4)))).symm)
  by_cases c5 : a1 = 4
  · refine aw_tableIn X 4 48 dX2_lettersOf_1 (by rw [c5]; rfl) (by decide) rfl rfl ?_
    refine aw_ldcS X (List.mem_of_getElem? (i := 4) rfl) rfl dX2_lettersOf_48 ?_
    exact aw_aret X E rfl dX2_lettersOf_50 (hJ _ ((if_neg c1).trans ((if_neg c2).trans ((if_neg c3).trans ((if_neg c4).trans (if_pos c5))))).symm)
  have e0 := ztn (n := 0) rfl c1
  have e1 := ztn (n := 1) rfl c2
  have e2 := ztn (n := 2) rfl c3
  have e3 := ztn (n := 3) rfl c4
  have e4 := ztn (n := 4) rfl c5
  refine aw_tableOut X 51 dX2_lettersOf_1 (by omega) rfl ?_
  refine aw_ldcS X (List.mem_of_getElem? (i := 5) rfl) rfl dX2_lettersOf_51 ?_
  exact aw_aret X E rfl dX2_lettersOf_53 (hJ _ ((if_neg c1).trans ((if_neg c2).trans ((if_neg c3).trans ((if_neg c4).trans (if_neg c5))))).symm)
set_option maxRecDepth 100000 in
theorem m_X2_signStands {l : Launch} {g : zG} {Q : Option zv → zI → zL → Prop} {I : zI} {L : zL} {a1 : Nat} {a2 : Int32}  (h : zsh a1 = (13, 5) ∧ (if (I 82 1) < (I a1 2) then (if (v_X3_signAt I L a1 (I 82 1)) = a2 then (Q (some (vI 1)) (zs I 82 1 ((I 82 1) + 1)) L) else (Call l g 1 M_X2_failAt [vR 82, vI (I 82 1)] I L (zi fun r4 I4 L4 => (r4 = 0 ∨ r4 = 1) ∧ (Q (some (vI r4)) I4 L4)))) else (Call l g 1 M_X2_failAt [vR 82, vI (I 82 1)] I L (zi fun r6 I6 L6 => (r6 = 0 ∨ r6 = 1) ∧ (Q (some (vI r6)) I6 L6))))) : Call l g 3 M_X2_signStands [vR 82, vR a1, vI a2] I L Q := by
  refine aw_entry (by decide) (Nat.le_of_ble_eq_true rfl) (fun k hk (X : zX k g cX2_signStands RX2 3 (some .boolean) 3) E => ?_)
  show AW k g 3 I L 0 [(0, vR 82), (1, vR a1), (2, vI a2)] []
  subst hk
  refine aw_aload_n X 0 dX2_signStands_0 rfl ?_
  refine aw_getI X zf_RX2_15 rfl zs_82 dX2_signStands_1 ?_
  refine aw_aload_n X 1 dX2_signStands_4 rfl ?_
  have n1 := h.1
  replace h := h.2
  refine aw_getI X zf_RX2_28 rfl n1 dX2_signStands_5 ?_
  refine aw_icmp_gen X 23 dX2_signStands_8 rfl (fun c2 => ?_) (fun c2 => ?_)
  · replace h := zifp c2 h
    refine aw_aload_n X 1 dX2_signStands_11 rfl ?_
    refine aw_aload_n X 0 dX2_signStands_12 rfl ?_
    refine aw_getI X zf_RX2_15 rfl zs_82 dX2_signStands_13 ?_
    refine aw_pV X (as := [vI (I 82 1)]) mf_X3_signAt zw_536 (p_X3_signAt n1) n1 rfl rfl (by decide) (Nat.le_of_ble_eq_true rfl) dX2_signStands_16 ?_
    refine aw_iload_n X 2 dX2_signStands_19 rfl ?_
    refine aw_icmp_eq X 32 dX2_signStands_20 rfl (fun c3 => ?_) (fun c3 => ?_)
    · replace h := zifp c3 h
      refine aw_aload_n X 0 dX2_signStands_32 rfl ?_
      refine aw_dup X dX2_signStands_33 rfl ?_
      refine aw_getI X zf_RX2_15 rfl zs_82 dX2_signStands_34 ?_
      refine aw_iconst (v := 1) X dX2_signStands_37 (by decide) ?_
      refine aw_iadd X dX2_signStands_38 ?_
      refine aw_putI X zf_RX2_15 rfl rfl rfl zs_82 dX2_signStands_39 ?_
      refine aw_iconst (v := 1) X dX2_signStands_42 (by decide) ?_
      exact aw_zret X E rfl (Or.inr rfl) dX2_signStands_43 h
    · replace h := zifn c3 h
      refine aw_aload_n X 0 dX2_signStands_23 rfl ?_
      refine aw_aload_n X 0 dX2_signStands_24 rfl ?_
      refine aw_getI X zf_RX2_15 rfl zs_82 dX2_signStands_25 ?_
      refine aw_callV X (as := [vI (I 82 1)]) mf_X2_failAt zw_543 h zs_82 rfl rfl (by decide) (Nat.le_of_ble_eq_true rfl) dX2_signStands_28 (fun v I4 L4 h => ?_)
      obtain ⟨r4, rfl, h⟩ := h
      have n5 := h.1
      replace h := h.2
      exact aw_zret X E rfl n5 dX2_signStands_31 h
  · replace h := zifn c2 h
    refine aw_aload_n X 0 dX2_signStands_23 rfl ?_
    refine aw_aload_n X 0 dX2_signStands_24 rfl ?_
    refine aw_getI X zf_RX2_15 rfl zs_82 dX2_signStands_25 ?_
    refine aw_callV X (as := [vI (I 82 1)]) mf_X2_failAt zw_543 h zs_82 rfl rfl (by decide) (Nat.le_of_ble_eq_true rfl) dX2_signStands_28 (fun v I6 L6 h => ?_)
    obtain ⟨r6, rfl, h⟩ := h
    have n7 := h.1
    replace h := h.2
    exact aw_zret X E rfl n7 dX2_signStands_31 h
set_option maxRecDepth 100000 in
theorem s_X2_lettersStand_2 {k : zK} {g : zG} {Q : Option zv → zI → zL → Prop} {I : zI} {L : zL} {y1 : Nat} {y2 : Nat} {y3 : Int32}  (X : zX k g cX2_lettersStand RX2 4 (some .boolean) 8) (E : zE k g Q) (h : zstr6 y2 ∧ (if y3 < (zsln y2) then (zsin y2 y3 ∧ (Call (kl k) g 3 M_X2_signStands [vR 82, vR y1, vI (zsch y2 y3)] I L (zi fun r4 I4 L4 => if r4 = 0 then (Q (some (vI 0)) I4 L4) else (AW k g 4 I4 L4 2 [(0, vR 82), (1, vR y1), (2, vR y2), (3, vI (y3 + 1))] [])))) else (Q (some (vI 1)) I L))) : AW k g 4 I L 2 [(0, vR 82), (1, vR y1), (2, vR y2), (3, vI y3)] [] := by
  refine aw_iload_n X 3 dX2_lettersStand_2 rfl ?_
  refine aw_aload_n X 2 dX2_lettersStand_3 rfl ?_
  have n1 := h.1
  replace h := h.2
  refine aw_strlen X (by decide) (Nat.le_of_ble_eq_true rfl) zw_560 n1 dX2_lettersStand_4 ?_
  refine aw_icmp_gen X 31 dX2_lettersStand_7 rfl (fun c2 => ?_) (fun c2 => ?_)
  · replace h := zifp c2 h
    refine aw_aload_n X 0 dX2_lettersStand_10 rfl ?_
    refine aw_aload_n X 1 dX2_lettersStand_11 rfl ?_
    refine aw_aload_n X 2 dX2_lettersStand_12 rfl ?_
    refine aw_iload_n X 3 dX2_lettersStand_13 rfl ?_
    have n3 := h.1
    replace h := h.2
    refine aw_strchar X (by decide) (Nat.le_of_ble_eq_true rfl) zw_570 n1 n3 dX2_lettersStand_14 ?_
    refine aw_callV X (as := [vR y1, vI (zsch y2 y3)]) mf_X2_signStands zw_608 h zs_82 rfl rfl (by decide) (Nat.le_of_ble_eq_true rfl) dX2_lettersStand_17 (fun v I4 L4 h => ?_)
    obtain ⟨r4, rfl, h⟩ := h
    refine aw_if_ne X 25 dX2_lettersStand_20 rfl (fun c5 => ?_) (fun c5 => ?_)
    · replace h := zifn c5 h
      refine aw_iinc (v := y3 + 1) X 3 dX2_lettersStand_25 rfl rfl (by decide) rfl ?_
      refine aw_goto X 2 dX2_lettersStand_28 rfl ?_
      refine aw_perm (ks9 := [(0, vR 82), (1, vR y1), (2, vR y2), (3, vI (y3 + 1))]) [1, 2, 3, 0] rfl ?_
      exact h
    · replace h := zifp c5 h
      refine aw_iconst (v := 0) X dX2_lettersStand_23 (by decide) ?_
      exact aw_zret X E rfl (Or.inl rfl) dX2_lettersStand_24 h
  · replace h := zifn c2 h
    refine aw_iconst (v := 1) X dX2_lettersStand_31 (by decide) ?_
    exact aw_zret X E rfl (Or.inr rfl) dX2_lettersStand_32 h
set_option maxRecDepth 100000 in
theorem m_X2_lettersStand {l : Launch} {g : zG} {Q : Option zv → zI → zL → Prop} {I : zI} {L : zL} {a1 : Nat} {a2 : Nat}  (h : ∀ k : zK, kl k = l → zX k g cX2_lettersStand RX2 4 (some .boolean) 8 → zE k g Q → (AW k g 4 I L 2 [(0, vR 82), (1, vR a1), (2, vR a2), (3, vI 0)] [])) : Call l g 8 M_X2_lettersStand [vR 82, vR a1, vR a2] I L Q := by
  refine aw_entry (by decide) (Nat.le_of_ble_eq_true rfl) (fun k hk (X : zX k g cX2_lettersStand RX2 4 (some .boolean) 8) E => ?_)
  show AW k g 4 I L 0 [(0, vR 82), (1, vR a1), (2, vR a2)] []
  replace h := h k hk X E
  subst hk
  refine aw_iconst (v := 0) X dX2_lettersStand_0 (by decide) ?_
  refine aw_istore_n X dX2_lettersStand_1 (by decide) rfl ?_
  refine aw_perm (ks9 := [(0, vR 82), (1, vR a1), (2, vR a2), (3, vI 0)]) [1, 2, 3, 0] rfl ?_
  exact h
set_option maxRecDepth 100000 in
theorem m_X2_mostOf {l : Launch} {g : zG} {Q : Option zv → zI → zL → Prop} {I : zI} {L : zL} {a1 : Int32} {a2 : Int32} {a3 : Nat}  (h : if a1 = 0 then (Q (some (vI 65535)) I L) else if a1 = 1 then (Q (some (vI (if a2 = 0 then 6 else (9 : Int32)))) I L) else if a1 = 2 then ((a2 = 0 → zsh a3 = (14, 10)) ∧ ((¬ (a2 = 0) → zsh a3 = (14, 10)) ∧ (Q (some (vI (if a2 = 0 then (I a3 3) - 1 else ((I a3 2) - 1)))) I L))) else if a1 = 3 then (Q (some (vI 40)) I L) else if a1 = 4 then (Q (some (vI 9)) I L) else (Q (some (vI 9)) I L)) : Call l g 1 M_X2_mostOf [vI a1, vI a2, vR a3] I L Q := by
  refine aw_entry (by decide) (Nat.le_of_ble_eq_true rfl) (fun k hk (X : zX k g cX2_mostOf RX2 3 (some .int) 1) E => ?_)
  show AW k g 3 I L 0 [(0, vI a1), (1, vI a2), (2, vR a3)] []
  subst hk
  refine aw_iload_n X 0 dX2_mostOf_0 rfl ?_
  by_cases c15 : a1 = 0
  · replace h := zifp c15 h
    refine aw_tableIn X 0 36 dX2_mostOf_1 (by rw [c15]; rfl) (by decide) rfl rfl ?_
    refine aw_ldc X zw_623 dX2_mostOf_36 ?_
    exact aw_iret X E rfl dX2_mostOf_38 h
  replace h := zifn c15 h
  by_cases c16 : a1 = 1
  · replace h := zifp c16 h
    refine aw_tableIn X 1 39 dX2_mostOf_1 (by rw [c16]; rfl) (by decide) rfl rfl ?_
    refine aw_iload_n X 1 dX2_mostOf_39 rfl ?_
    have hJ19 : ∀ (w1 : Int32), w1 = (if a2 = 0 then 6 else (9 : Int32)) → AW k g 3 I L 60 [] [vI w1] := by
      intro w1 q1
      subst q1
      exact aw_iret X E rfl dX2_mostOf_60 h
    refine aw_if_ne X 48 dX2_mostOf_40 rfl (fun c17 => ?_) (fun c17 => ?_)
    · refine aw_iload_n X 1 dX2_mostOf_48 rfl ?_
      refine aw_iconst (v := 1) X dX2_mostOf_49 (by decide) ?_
      refine aw_icmp_ne X 58 dX2_mostOf_50 rfl (fun c18 => ?_) (fun c18 => ?_)
      · refine aw_bipush (v := 9) X dX2_mostOf_58 (by decide) ?_
        refine aw_perm (ks9 := []) [] rfl ?_
        exact hJ19 _ (if_neg c17).symm
      · refine aw_bipush (v := 9) X dX2_mostOf_53 (by decide) ?_
        refine aw_goto X 60 dX2_mostOf_55 rfl ?_
        refine aw_perm (ks9 := []) [] rfl ?_
        exact hJ19 _ (if_neg c17).symm
    · refine aw_bipush (v := 6) X dX2_mostOf_43 (by decide) ?_
      refine aw_goto X 60 dX2_mostOf_45 rfl ?_
      refine aw_perm (ks9 := []) [] rfl ?_
      exact hJ19 _ (if_pos c17).symm
  replace h := zifn c16 h
  by_cases c20 : a1 = 2
  · replace h := zifp c20 h
    refine aw_tableIn X 2 61 dX2_mostOf_1 (by rw [c20]; rfl) (by decide) rfl rfl ?_
    refine aw_iload_n X 1 dX2_mostOf_61 rfl ?_
    have n24 := h.1
    replace h := h.2
    have n25 := h.1
    replace h := h.2
    have hJ26 : ∀ (w1 : Int32), w1 = (if a2 = 0 then (I a3 3) - 1 else ((I a3 2) - 1)) → AW k g 3 I L 80 [] [vI w1] := by
      intro w1 q1
      subst q1
      exact aw_iret X E rfl dX2_mostOf_80 h
    refine aw_if_ne X 74 dX2_mostOf_62 rfl (fun c21 => ?_) (fun c21 => ?_)
    · have n23 := (n25 c21)
      refine aw_aload_n X 2 dX2_mostOf_74 rfl ?_
      refine aw_getI X zf_RX2_112 rfl n23 dX2_mostOf_75 ?_
      refine aw_iconst (v := 1) X dX2_mostOf_78 (by decide) ?_
      refine aw_isub X dX2_mostOf_79 ?_
      refine aw_perm (ks9 := []) [] rfl ?_
      exact hJ26 _ (if_neg c21).symm
    · have n22 := (n24 c21)
      refine aw_aload_n X 2 dX2_mostOf_65 rfl ?_
      refine aw_getI X zf_RX2_109 rfl n22 dX2_mostOf_66 ?_
      refine aw_iconst (v := 1) X dX2_mostOf_69 (by decide) ?_
      refine aw_isub X dX2_mostOf_70 ?_
      refine aw_goto X 80 dX2_mostOf_71 rfl ?_
      refine aw_perm (ks9 := []) [] rfl ?_
      exact hJ26 _ (if_pos c21).symm
  replace h := zifn c20 h
  by_cases c27 : a1 = 3
  · replace h := zifp c27 h
    refine aw_tableIn X 3 81 dX2_mostOf_1 (by rw [c27]; rfl) (by decide) rfl rfl ?_
    refine aw_bipush (v := 40) X dX2_mostOf_81 (by decide) ?_
    exact aw_iret X E rfl dX2_mostOf_83 h
  replace h := zifn c27 h
  by_cases c28 : a1 = 4
  · replace h := zifp c28 h
    refine aw_tableIn X 4 84 dX2_mostOf_1 (by rw [c28]; rfl) (by decide) rfl rfl ?_
    refine aw_bipush (v := 9) X dX2_mostOf_84 (by decide) ?_
    exact aw_iret X E rfl dX2_mostOf_86 h
  replace h := zifn c28 h
  have e0 := ztn (n := 0) rfl c15
  have e1 := ztn (n := 1) rfl c16
  have e2 := ztn (n := 2) rfl c20
  have e3 := ztn (n := 3) rfl c27
  have e4 := ztn (n := 4) rfl c28
  refine aw_tableOut X 87 dX2_mostOf_1 (by omega) rfl ?_
  refine aw_bipush (v := 9) X dX2_mostOf_87 (by decide) ?_
  exact aw_iret X E rfl dX2_mostOf_89 h
set_option maxRecDepth 100000 in
theorem s_X2_numberStands_12 {k : zK} {g : zG} {Q : Option zv → zI → zL → Prop} {I : zI} {L : zL} {y1 : Nat} {y2 : Int32} {y3 : Int32} {y4 : Int32} {y5 : Int32} {y6 : Int32}  (X : zX k g cX2_numberStands RX2 7 (some .boolean) 4) (E : zE k g Q) (h : if y6 < 5 then (k_X2_isDigitAt I L y1 ∧ (if (v_X2_isDigitAt I L y1) = 0 then (if (I 82 1) = y4 then (Call (kl k) g 1 M_X2_failAt [vR 82, vI y4] I L (zi fun r5 I5 L5 => (r5 = 0 ∨ r5 = 1) ∧ (Q (some (vI r5)) I5 L5))) else (if y2 < y5 then (Call (kl k) g 1 M_X2_failAt [vR 82, vI y4] I L (zi fun r8 I8 L8 => (r8 = 0 ∨ r8 = 1) ∧ (Q (some (vI r8)) I8 L8))) else (if y3 < 0 then (Q (some (vI 1)) I L) else (if y3 < 3 then (Q (some (vI 1)) (zs I 83 y3.toNatClampNeg y5) L) else (Q (some (vI 1)) I L))))) else (zsh y1 = (13, 5) ∧ (AW k g 7 (zs I 82 1 ((I 82 1) + 1)) L 12 [(0, vR 82), (1, vR y1), (2, vI y2), (3, vI y3), (4, vI y4), (5, vI (((y5 * 10) + (v_X3_signAt I L y1 (I 82 1))) - 48)), (6, vI (y6 + 1))] [])))) else (if (I 82 1) = y4 then (Call (kl k) g 1 M_X2_failAt [vR 82, vI y4] I L (zi fun r14 I14 L14 => (r14 = 0 ∨ r14 = 1) ∧ (Q (some (vI r14)) I14 L14))) else (if y2 < y5 then (Call (kl k) g 1 M_X2_failAt [vR 82, vI y4] I L (zi fun r17 I17 L17 => (r17 = 0 ∨ r17 = 1) ∧ (Q (some (vI r17)) I17 L17))) else (if y3 < 0 then (Q (some (vI 1)) I L) else (if y3 < 3 then (Q (some (vI 1)) (zs I 83 y3.toNatClampNeg y5) L) else (Q (some (vI 1)) I L)))))) : AW k g 7 I L 12 [(0, vR 82), (1, vR y1), (2, vI y2), (3, vI y3), (4, vI y4), (5, vI y5), (6, vI y6)] [] := by
  refine aw_iload X 6 dX2_numberStands_12 rfl ?_
  refine aw_iconst (v := 5) X dX2_numberStands_14 (by decide) ?_
  refine aw_icmp_gen X 61 dX2_numberStands_15 rfl (fun c1 => ?_) (fun c1 => ?_)
  · replace h := zifp c1 h
    refine aw_aload_n X 0 dX2_numberStands_18 rfl ?_
    refine aw_aload_n X 1 dX2_numberStands_19 rfl ?_
    have n2 := h.1
    replace h := h.2
    refine aw_pV X (as := [vR y1]) mf_X2_isDigitAt zw_628 (p_X2_isDigitAt n2) zs_82 rfl rfl (by decide) (Nat.le_of_ble_eq_true rfl) dX2_numberStands_20 ?_
    refine aw_if_eq X 61 dX2_numberStands_23 rfl (fun c3 => ?_) (fun c3 => ?_)
    · replace h := zifp c3 h
      refine aw_aload_n X 0 dX2_numberStands_61 rfl ?_
      refine aw_getI X zf_RX2_15 rfl zs_82 dX2_numberStands_62 ?_
      refine aw_iload X 4 dX2_numberStands_65 rfl ?_
      refine aw_icmp_eq X 76 dX2_numberStands_67 rfl (fun c4 => ?_) (fun c4 => ?_)
      · replace h := zifp c4 h
        refine aw_aload_n X 0 dX2_numberStands_76 rfl ?_
        refine aw_iload X 4 dX2_numberStands_77 rfl ?_
        refine aw_callV X (as := [vI y4]) mf_X2_failAt zw_543 h zs_82 rfl rfl (by decide) (Nat.le_of_ble_eq_true rfl) dX2_numberStands_79 (fun v I5 L5 h => ?_)
        obtain ⟨r5, rfl, h⟩ := h
        have n6 := h.1
        replace h := h.2
        exact aw_zret X E rfl n6 dX2_numberStands_82 h
      · replace h := zifn c4 h
        refine aw_iload X 5 dX2_numberStands_70 rfl ?_
        refine aw_iload_n X 2 dX2_numberStands_72 rfl ?_
        refine aw_icmp_len X 83 dX2_numberStands_73 rfl (fun c7 => ?_) (fun c7 => ?_)
        · replace h := zifp c7 h
          refine aw_aload_n X 0 dX2_numberStands_76 rfl ?_
          refine aw_iload X 4 dX2_numberStands_77 rfl ?_
          refine aw_callV X (as := [vI y4]) mf_X2_failAt zw_543 h zs_82 rfl rfl (by decide) (Nat.le_of_ble_eq_true rfl) dX2_numberStands_79 (fun v I8 L8 h => ?_)
          obtain ⟨r8, rfl, h⟩ := h
          have n9 := h.1
          replace h := h.2
          exact aw_zret X E rfl n9 dX2_numberStands_82 h
        · replace h := zifn c7 h
          refine aw_iload_n X 3 dX2_numberStands_83 rfl ?_
          refine aw_if_lt X 104 dX2_numberStands_84 rfl (fun c10 => ?_) (fun c10 => ?_)
          · replace h := zifp c10 h
            refine aw_iconst (v := 1) X dX2_numberStands_104 (by decide) ?_
            exact aw_zret X E rfl (Or.inr rfl) dX2_numberStands_105 h
          · replace h := zifn c10 h
            refine aw_iload_n X 3 dX2_numberStands_87 rfl ?_
            refine aw_aload_n X 0 dX2_numberStands_88 rfl ?_
            refine aw_getR X zf_RX2_9 rfl zs_82 zr_82_0 dX2_numberStands_89 ?_
            refine aw_alen (v := 3) X zs_83 (by decide) (by decide) dX2_numberStands_92 ?_
            refine aw_icmp_gen X 104 dX2_numberStands_93 rfl (fun c11 => ?_) (fun c11 => ?_)
            · replace h := zifp c11 h
              refine aw_aload_n X 0 dX2_numberStands_96 rfl ?_
              refine aw_getR X zf_RX2_9 rfl zs_82 zr_82_0 dX2_numberStands_97 ?_
              refine aw_iload_n X 3 dX2_numberStands_100 rfl ?_
              refine aw_iload X 5 dX2_numberStands_101 rfl ?_
              refine aw_iastj (j := y3.toNatClampNeg) X zs_83 (zinof c10 c11 (by decide)) rfl dX2_numberStands_103 ?_
              refine aw_iconst (v := 1) X dX2_numberStands_104 (by decide) ?_
              exact aw_zret X E rfl (Or.inr rfl) dX2_numberStands_105 h
            · replace h := zifn c11 h
              refine aw_iconst (v := 1) X dX2_numberStands_104 (by decide) ?_
              exact aw_zret X E rfl (Or.inr rfl) dX2_numberStands_105 h
    · replace h := zifn c3 h
      refine aw_iload X 5 dX2_numberStands_26 rfl ?_
      refine aw_bipush (v := 10) X dX2_numberStands_28 (by decide) ?_
      refine aw_imul X dX2_numberStands_30 ?_
      refine aw_aload_n X 1 dX2_numberStands_31 rfl ?_
      refine aw_aload_n X 0 dX2_numberStands_32 rfl ?_
      refine aw_getI X zf_RX2_15 rfl zs_82 dX2_numberStands_33 ?_
      have n12 := h.1
      replace h := h.2
      refine aw_pV X (as := [vI (I 82 1)]) mf_X3_signAt zw_536 (p_X3_signAt n12) n12 rfl rfl (by decide) (Nat.le_of_ble_eq_true rfl) dX2_numberStands_36 ?_
      refine aw_iadd X dX2_numberStands_39 ?_
      refine aw_bipush (v := 48) X dX2_numberStands_40 (by decide) ?_
      refine aw_isub X dX2_numberStands_42 ?_
      refine aw_istore X dX2_numberStands_43 (by decide) rfl ?_
      refine aw_aload_n X 1 dX2_numberStands_45 rfl ?_
      refine aw_dup X dX2_numberStands_46 rfl ?_
      refine aw_getI X zf_RX2_15 rfl zs_82 dX2_numberStands_47 ?_
      refine aw_iconst (v := 1) X dX2_numberStands_50 (by decide) ?_
      refine aw_iadd X dX2_numberStands_51 ?_
      refine aw_putI X zf_RX2_15 rfl rfl rfl zs_82 dX2_numberStands_52 ?_
      refine aw_iinc (v := y6 + 1) X 6 dX2_numberStands_55 rfl rfl (by decide) rfl ?_
      refine aw_goto X 12 dX2_numberStands_58 rfl ?_
      refine aw_perm (ks9 := [(0, vR 82), (1, vR y1), (2, vI y2), (3, vI y3), (4, vI y4), (5, vI (((y5 * 10) + (v_X3_signAt I L y1 (I 82 1))) - 48)), (6, vI (y6 + 1))]) [2, 3, 4, 5, 6, 1, 0] rfl ?_
      exact h
  · replace h := zifn c1 h
    refine aw_aload_n X 0 dX2_numberStands_61 rfl ?_
    refine aw_getI X zf_RX2_15 rfl zs_82 dX2_numberStands_62 ?_
    refine aw_iload X 4 dX2_numberStands_65 rfl ?_
    refine aw_icmp_eq X 76 dX2_numberStands_67 rfl (fun c13 => ?_) (fun c13 => ?_)
    · replace h := zifp c13 h
      refine aw_aload_n X 0 dX2_numberStands_76 rfl ?_
      refine aw_iload X 4 dX2_numberStands_77 rfl ?_
      refine aw_callV X (as := [vI y4]) mf_X2_failAt zw_543 h zs_82 rfl rfl (by decide) (Nat.le_of_ble_eq_true rfl) dX2_numberStands_79 (fun v I14 L14 h => ?_)
      obtain ⟨r14, rfl, h⟩ := h
      have n15 := h.1
      replace h := h.2
      exact aw_zret X E rfl n15 dX2_numberStands_82 h
    · replace h := zifn c13 h
      refine aw_iload X 5 dX2_numberStands_70 rfl ?_
      refine aw_iload_n X 2 dX2_numberStands_72 rfl ?_
      refine aw_icmp_len X 83 dX2_numberStands_73 rfl (fun c16 => ?_) (fun c16 => ?_)
      · replace h := zifp c16 h
        refine aw_aload_n X 0 dX2_numberStands_76 rfl ?_
        refine aw_iload X 4 dX2_numberStands_77 rfl ?_
        refine aw_callV X (as := [vI y4]) mf_X2_failAt zw_543 h zs_82 rfl rfl (by decide) (Nat.le_of_ble_eq_true rfl) dX2_numberStands_79 (fun v I17 L17 h => ?_)
        obtain ⟨r17, rfl, h⟩ := h
        have n18 := h.1
        replace h := h.2
        exact aw_zret X E rfl n18 dX2_numberStands_82 h
      · replace h := zifn c16 h
        refine aw_iload_n X 3 dX2_numberStands_83 rfl ?_
        refine aw_if_lt X 104 dX2_numberStands_84 rfl (fun c19 => ?_) (fun c19 => ?_)
        · replace h := zifp c19 h
          refine aw_iconst (v := 1) X dX2_numberStands_104 (by decide) ?_
          exact aw_zret X E rfl (Or.inr rfl) dX2_numberStands_105 h
        · replace h := zifn c19 h
          refine aw_iload_n X 3 dX2_numberStands_87 rfl ?_
          refine aw_aload_n X 0 dX2_numberStands_88 rfl ?_
          refine aw_getR X zf_RX2_9 rfl zs_82 zr_82_0 dX2_numberStands_89 ?_
          refine aw_alen (v := 3) X zs_83 (by decide) (by decide) dX2_numberStands_92 ?_
          refine aw_icmp_gen X 104 dX2_numberStands_93 rfl (fun c20 => ?_) (fun c20 => ?_)
          · replace h := zifp c20 h
            refine aw_aload_n X 0 dX2_numberStands_96 rfl ?_
            refine aw_getR X zf_RX2_9 rfl zs_82 zr_82_0 dX2_numberStands_97 ?_
            refine aw_iload_n X 3 dX2_numberStands_100 rfl ?_
            refine aw_iload X 5 dX2_numberStands_101 rfl ?_
            refine aw_iastj (j := y3.toNatClampNeg) X zs_83 (zinof c19 c20 (by decide)) rfl dX2_numberStands_103 ?_
            refine aw_iconst (v := 1) X dX2_numberStands_104 (by decide) ?_
            exact aw_zret X E rfl (Or.inr rfl) dX2_numberStands_105 h
          · replace h := zifn c20 h
            refine aw_iconst (v := 1) X dX2_numberStands_104 (by decide) ?_
            exact aw_zret X E rfl (Or.inr rfl) dX2_numberStands_105 h
set_option maxRecDepth 100000 in
theorem m_X2_numberStands {l : Launch} {g : zG} {Q : Option zv → zI → zL → Prop} {I : zI} {L : zL} {a1 : Nat} {a2 : Int32} {a3 : Int32}  (h : ∀ k : zK, kl k = l → zX k g cX2_numberStands RX2 7 (some .boolean) 4 → zE k g Q → (AW k g 7 I L 12 [(0, vR 82), (1, vR a1), (2, vI a2), (3, vI a3), (4, vI (I 82 1)), (5, vI 0), (6, vI 0)] [])) : Call l g 4 M_X2_numberStands [vR 82, vR a1, vI a2, vI a3] I L Q := by
  refine aw_entry (by decide) (Nat.le_of_ble_eq_true rfl) (fun k hk (X : zX k g cX2_numberStands RX2 7 (some .boolean) 4) E => ?_)
  show AW k g 7 I L 0 [(0, vR 82), (1, vR a1), (2, vI a2), (3, vI a3)] []
  replace h := h k hk X E
  subst hk
  refine aw_aload_n X 0 dX2_numberStands_0 rfl ?_
  refine aw_getI X zf_RX2_15 rfl zs_82 dX2_numberStands_1 ?_
  refine aw_istore X dX2_numberStands_4 (by decide) rfl ?_
  refine aw_iconst (v := 0) X dX2_numberStands_6 (by decide) ?_
  refine aw_istore X dX2_numberStands_7 (by decide) rfl ?_
  refine aw_iconst (v := 0) X dX2_numberStands_9 (by decide) ?_
  refine aw_istore X dX2_numberStands_10 (by decide) rfl ?_
  refine aw_perm (ks9 := [(0, vR 82), (1, vR a1), (2, vI a2), (3, vI a3), (4, vI (I 82 1)), (5, vI 0), (6, vI 0)]) [3, 4, 5, 6, 2, 1, 0] rfl ?_
  exact h
def v_X2_numbersOf (a1 : Int32) : Int32 := if a1 = 1 then 3 else if a1 = 2 then 2 else (1 : Int32)
set_option maxRecDepth 100000 in
theorem p_X2_numbersOf {l : Launch} {g : zG} {I : zI} {L : zL} {a1 : Int32}  : Call l g 1 M_X2_numbersOf [vI a1] I L (zp (some (vI (v_X2_numbersOf a1))) I L) := by
  refine aw_entry (by decide) (Nat.le_of_ble_eq_true rfl) (fun k hk (X : zX k g cX2_numbersOf RX2 1 (some .int) 1) E => ?_)
  show AW k g 1 I L 0 [(0, vI a1)] []
  subst hk
  have hJ : ∀ w1 : Int32, w1 = (if a1 = 1 then 3 else if a1 = 2 then 2 else (1 : Int32)) → zp (some (vI (v_X2_numbersOf a1))) I L (some (vI w1)) I L := fun w1 e1 => ⟨by rw [e1]; rfl, rfl, rfl⟩
  refine aw_iload_n X 0 dX2_numbersOf_0 rfl ?_
  by_cases c1 : a1 = 1
  · refine aw_swp X 28 (1) (27) dX2_numbersOf_1 rfl (by rw [c1]; rfl) rfl rfl ?_
    refine aw_iconst (v := 3) X dX2_numbersOf_28 (by decide) ?_
    exact aw_iret X E rfl dX2_numbersOf_29 (hJ _ (if_pos c1).symm)
  by_cases c2 : a1 = 2
  · refine aw_swp X 30 (2) (29) dX2_numbersOf_1 rfl (by rw [c2]; rfl) rfl rfl ?_
    refine aw_iconst (v := 2) X dX2_numbersOf_30 (by decide) ?_
    exact aw_iret X E rfl dX2_numbersOf_31 (hJ _ ((if_neg c1).trans (if_pos c2)).symm)
  have e0 := ztn (n := 1) rfl c1
  have e1 := ztn (n := 2) rfl c2
  refine aw_swd X 32 dX2_numbersOf_1 rfl (by intro q hq; simp only [List.mem_cons, List.not_mem_nil, or_false] at hq; rcases hq with rfl | rfl <;> assumption) rfl ?_
  refine aw_iconst (v := 1) X dX2_numbersOf_32 (by decide) ?_
  exact aw_iret X E rfl dX2_numbersOf_33 (hJ _ ((if_neg c1).trans (if_neg c2)).symm)
set_option maxRecDepth 100000 in
theorem m_X2_tell {l : Launch} {g : zG} {Q : Option zv → zI → zL → Prop} {I : zI} {L : zL} {a1 : Int32} {a2 : Nat}  (h : if a1 = 0 then (zsh a2 = (14, 10) ∧ (Call l g 2 M_X4_addLetter [vR a2, vI (I 83 0)] I L (zi fun r3 I3 L3 => Q none I3 L3))) else if a1 = 1 then (zsh a2 = (14, 10) ∧ (Call l g 2 M_X4_addPane [vR a2, vI (I 83 0), vI (I 83 1), vI (I 83 2)] I L (zi fun r6 I6 L6 => Q none I6 L6))) else if a1 = 2 then (zsh a2 = (14, 10) ∧ (if (v_X4_paneAt I a2 (I 83 0)) = 0 then (Q none I L) else (Q none (zs I (v_X4_paneAt I a2 (I 83 0)) 3 (I 83 1)) L))) else if a1 = 3 then (zsh a2 = (14, 10) ∧ (Q none (zs I a2 4 (I 83 0)) L)) else if a1 = 4 then (zsh a2 = (14, 10) ∧ (Q none (zs I a2 5 (I 83 0)) L)) else (zsh a2 = (14, 10) ∧ (Q none (zs I a2 6 (I 83 0)) L))) : Call l g 3 M_X2_tell [vR 82, vI a1, vR a2] I L Q := by
  refine aw_entry (by decide) (Nat.le_of_ble_eq_true rfl) (fun k hk (X : zX k g cX2_tell RX2 7 none 3) E => ?_)
  show AW k g 7 I L 0 [(0, vR 82), (1, vI a1), (2, vR a2)] []
  subst hk
  refine aw_aload_n X 0 dX2_tell_0 rfl ?_
  refine aw_getR X zf_RX2_9 rfl zs_82 zr_82_0 dX2_tell_1 ?_
  refine aw_alen (v := 3) X zs_83 (by decide) (by decide) dX2_tell_4 ?_
  refine aw_if_len X 17 dX2_tell_5 rfl (fun _ => ?_) (fun e => absurd (by decide) e)
  refine aw_aload_n X 0 dX2_tell_8 rfl ?_
  refine aw_getR X zf_RX2_9 rfl zs_82 zr_82_0 dX2_tell_9 ?_
  refine aw_iconst (v := 0) X dX2_tell_12 (by decide) ?_
  refine aw_ialdj (j := 0) X zs_83 (zinof (m := 3) (by decide) (by decide) (by decide)) (by decide) dX2_tell_13 ?_
  refine aw_goto X 18 dX2_tell_14 rfl ?_
  refine aw_istore_n X dX2_tell_18 (by decide) rfl ?_
  refine aw_aload_n X 1 dX2_tell_19 rfl ?_
  refine aw_getR X zf_RX2_9 rfl zs_82 zr_82_0 dX2_tell_20 ?_
  refine aw_alen (v := 3) X zs_83 (by decide) (by decide) dX2_tell_23 ?_
  refine aw_iconst (v := 1) X dX2_tell_24 (by decide) ?_
  refine aw_icmp_len X 37 dX2_tell_25 rfl (fun _ => ?_) (fun e => absurd (by decide) e)
  refine aw_aload_n X 1 dX2_tell_28 rfl ?_
  refine aw_getR X zf_RX2_9 rfl zs_82 zr_82_0 dX2_tell_29 ?_
  refine aw_iconst (v := 1) X dX2_tell_32 (by decide) ?_
  refine aw_ialdj (j := 1) X zs_83 (zinof (m := 3) (by decide) (by decide) (by decide)) (by decide) dX2_tell_33 ?_
  refine aw_goto X 38 dX2_tell_34 rfl ?_
  refine aw_istore X dX2_tell_38 (by decide) rfl ?_
  refine aw_aload_n X 2 dX2_tell_40 rfl ?_
  refine aw_getR X zf_RX2_9 rfl zs_82 zr_82_0 dX2_tell_41 ?_
  refine aw_alen (v := 3) X zs_83 (by decide) (by decide) dX2_tell_44 ?_
  refine aw_iconst (v := 2) X dX2_tell_45 (by decide) ?_
  refine aw_icmp_len X 58 dX2_tell_46 rfl (fun _ => ?_) (fun e => absurd (by decide) e)
  refine aw_aload_n X 2 dX2_tell_49 rfl ?_
  refine aw_getR X zf_RX2_9 rfl zs_82 zr_82_0 dX2_tell_50 ?_
  refine aw_iconst (v := 2) X dX2_tell_53 (by decide) ?_
  refine aw_ialdj (j := 2) X zs_83 (zinof (m := 3) (by decide) (by decide) (by decide)) (by decide) dX2_tell_54 ?_
  refine aw_goto X 59 dX2_tell_55 rfl ?_
  refine aw_istore X dX2_tell_59 (by decide) rfl ?_
  refine aw_iload_n X 4 dX2_tell_61 rfl ?_
  by_cases c1 : a1 = 0
  · replace h := zifp c1 h
    refine aw_tableIn X 0 96 dX2_tell_62 (by rw [c1]; rfl) (by decide) rfl rfl ?_
    refine aw_aload_n X 5 dX2_tell_96 rfl ?_
    refine aw_iload_n X 2 dX2_tell_97 rfl ?_
    have n2 := h.1
    replace h := h.2
    refine aw_callV X (as := [vI (I 83 0)]) mf_X4_addLetter zw_636 h n2 rfl rfl (by decide) (Nat.le_of_ble_eq_true rfl) dX2_tell_98 (fun v I3 L3 h => ?_)
    obtain ⟨r3, rfl, h⟩ := h
    refine aw_pop X dX2_tell_101 rfl ?_
    refine aw_goto X 161 dX2_tell_102 rfl ?_
    exact aw_vret X E rfl dX2_tell_161 h
  replace h := zifn c1 h
  by_cases c4 : a1 = 1
  · replace h := zifp c4 h
    refine aw_tableIn X 1 105 dX2_tell_62 (by rw [c4]; rfl) (by decide) rfl rfl ?_
    refine aw_aload_n X 5 dX2_tell_105 rfl ?_
    refine aw_iload_n X 2 dX2_tell_106 rfl ?_
    refine aw_iload X 1 dX2_tell_107 rfl ?_
    refine aw_iload X 0 dX2_tell_109 rfl ?_
    have n5 := h.1
    replace h := h.2
    refine aw_callV X (as := [vI (I 83 0), vI (I 83 1), vI (I 83 2)]) mf_X4_addPane zw_637 h n5 rfl rfl (by decide) (Nat.le_of_ble_eq_true rfl) dX2_tell_111 (fun v I6 L6 h => ?_)
    obtain ⟨r6, rfl, h⟩ := h
    refine aw_pop X dX2_tell_114 rfl ?_
    refine aw_goto X 161 dX2_tell_115 rfl ?_
    exact aw_vret X E rfl dX2_tell_161 h
  replace h := zifn c4 h
  by_cases c7 : a1 = 2
  · replace h := zifp c7 h
    refine aw_tableIn X 2 118 dX2_tell_62 (by rw [c7]; rfl) (by decide) rfl rfl ?_
    refine aw_aload_n X 5 dX2_tell_118 rfl ?_
    refine aw_iload_n X 2 dX2_tell_119 rfl ?_
    have n8 := h.1
    replace h := h.2
    refine aw_pV X (as := [vI (I 83 0)]) mf_X4_paneAt zw_638 (p_X4_paneAt n8) n8 rfl rfl (by decide) (Nat.le_of_ble_eq_true rfl) dX2_tell_120 ?_
    refine aw_astore X dX2_tell_123 (by decide) rfl ?_
    refine aw_aload X 0 dX2_tell_125 rfl ?_
    refine aw_ifnull X 161 dX2_tell_127 rfl (fun c9 => ?_) (fun c9 => ?_)
    · replace h := zifp c9 h
      exact aw_vret X E rfl dX2_tell_161 h
    · replace h := zifn c9 h
      refine aw_aload X 0 dX2_tell_130 rfl ?_
      refine aw_iload X 2 dX2_tell_132 rfl ?_
      refine aw_putI X zf_RX2_126 rfl rfl rfl (nn_X4_paneAt n8 c9) dX2_tell_134 ?_
      refine aw_goto X 161 dX2_tell_137 rfl ?_
      exact aw_vret X E rfl dX2_tell_161 h
  replace h := zifn c7 h
  by_cases c10 : a1 = 3
  · replace h := zifp c10 h
    refine aw_tableIn X 3 140 dX2_tell_62 (by rw [c10]; rfl) (by decide) rfl rfl ?_
    refine aw_aload_n X 5 dX2_tell_140 rfl ?_
    refine aw_iload_n X 2 dX2_tell_141 rfl ?_
    have n11 := h.1
    replace h := h.2
    refine aw_putI X zf_RX2_131 rfl rfl rfl n11 dX2_tell_142 ?_
    refine aw_goto X 161 dX2_tell_145 rfl ?_
    exact aw_vret X E rfl dX2_tell_161 h
  replace h := zifn c10 h
  by_cases c12 : a1 = 4
  · replace h := zifp c12 h
    refine aw_tableIn X 4 148 dX2_tell_62 (by rw [c12]; rfl) (by decide) rfl rfl ?_
    refine aw_aload_n X 5 dX2_tell_148 rfl ?_
    refine aw_iload_n X 2 dX2_tell_149 rfl ?_
    have n13 := h.1
    replace h := h.2
    refine aw_putI X zf_RX2_133 rfl rfl rfl n13 dX2_tell_150 ?_
    refine aw_goto X 161 dX2_tell_153 rfl ?_
    exact aw_vret X E rfl dX2_tell_161 h
  replace h := zifn c12 h
  have e0 := ztn (n := 0) rfl c1
  have e1 := ztn (n := 1) rfl c4
  have e2 := ztn (n := 2) rfl c7
  have e3 := ztn (n := 3) rfl c10
  have e4 := ztn (n := 4) rfl c12
  refine aw_tableOut X 156 dX2_tell_62 (by omega) rfl ?_
  refine aw_aload_n X 5 dX2_tell_156 rfl ?_
  refine aw_iload_n X 2 dX2_tell_157 rfl ?_
  have n14 := h.1
  replace h := h.2
  refine aw_putI X zf_RX2_135 rfl rfl rfl n14 dX2_tell_158 ?_
  exact aw_vret X E rfl dX2_tell_161 h
def v_X2_wordFrom (a1 : Int32) : Int32 := if a1 = 99 then 3 else if a1 = 102 then 0 else if a1 = 104 then 2 else if a1 = 111 then 5 else if a1 = 112 then 1 else if a1 = 119 then 4 else ((-1) : Int32)
set_option maxRecDepth 100000 in
theorem p_X2_wordFrom {l : Launch} {g : zG} {I : zI} {L : zL} {a1 : Int32}  : Call l g 1 M_X2_wordFrom [vI a1] I L (zp (some (vI (v_X2_wordFrom a1))) I L) := by
  refine aw_entry (by decide) (Nat.le_of_ble_eq_true rfl) (fun k hk (X : zX k g cX2_wordFrom RX2 1 (some .int) 1) E => ?_)
  show AW k g 1 I L 0 [(0, vI a1)] []
  subst hk
  have hJ : ∀ w1 : Int32, w1 = (if a1 = 99 then 3 else if a1 = 102 then 0 else if a1 = 104 then 2 else if a1 = 111 then 5 else if a1 = 112 then 1 else if a1 = 119 then 4 else ((-1) : Int32)) → zp (some (vI (v_X2_wordFrom a1))) I L (some (vI w1)) I L := fun w1 e1 => ⟨by rw [e1]; rfl, rfl, rfl⟩
  refine aw_iload_n X 0 dX2_wordFrom_0 rfl ?_
  by_cases c1 : a1 = 99
  · refine aw_swp X 66 (99) (65) dX2_wordFrom_1 rfl (by rw [c1]; rfl) rfl rfl ?_
    refine aw_iconst (v := 3) X dX2_wordFrom_66 (by decide) ?_
    exact aw_iret X E rfl dX2_wordFrom_67 (hJ _ (if_pos c1).symm)
  by_cases c2 : a1 = 102
  · refine aw_swp X 60 (102) (59) dX2_wordFrom_1 rfl (by rw [c2]; rfl) rfl rfl ?_
    refine aw_iconst (v := 0) X dX2_wordFrom_60 (by decide) ?_
    exact aw_iret X E rfl dX2_wordFrom_61 (hJ _ ((if_neg c1).trans (if_pos c2)).symm)
  by_cases c3 : a1 = 104
  · refine aw_swp X 64 (104) (63) dX2_wordFrom_1 rfl (by rw [c3]; rfl) rfl rfl ?_
    refine aw_iconst (v := 2) X dX2_wordFrom_64 (by decide) ?_
    exact aw_iret X E rfl dX2_wordFrom_65 (hJ _ ((if_neg c1).trans ((if_neg c2).trans (if_pos c3))).symm)
  by_cases c4 : a1 = 111
  · refine aw_swp X 70 (111) (69) dX2_wordFrom_1 rfl (by rw [c4]; rfl) rfl rfl ?_
    refine aw_iconst (v := 5) X dX2_wordFrom_70 (by decide) ?_
    exact aw_iret X E rfl dX2_wordFrom_71 (hJ _ ((if_neg c1).trans ((if_neg c2).trans ((if_neg c3).trans (if_pos c4)))).symm)
  by_cases c5 : a1 = 112
  · refine aw_swp X 62 (112) (61) dX2_wordFrom_1 rfl (by rw [c5]; rfl) rfl rfl ?_
    refine aw_iconst (v := 1) X dX2_wordFrom_62 (by decide) ?_
    exact aw_iret X E rfl dX2_wordFrom_63 (hJ _ ((if_neg c1).trans ((if_neg c2).trans ((if_neg c3).trans ((if_neg c4).trans (if_pos c5))))).symm)
  by_cases c6 : a1 = 119
  · refine aw_swp X 68 (119) (67) dX2_wordFrom_1 rfl (by rw [c6]; rfl) rfl rfl ?_
    refine aw_iconst (v := 4) X dX2_wordFrom_68 (by decide) ?_
    exact aw_iret X E rfl dX2_wordFrom_69 (hJ _ ((if_neg c1).trans ((if_neg c2).trans ((if_neg c3).trans ((if_neg c4).trans ((if_neg c5).trans (if_pos c6)))))).symm)
  have e0 := ztn (n := 99) rfl c1
  have e1 := ztn (n := 102) rfl c2
  have e2 := ztn (n := 104) rfl c3
  have e3 := ztn (n := 111) rfl c4
  have e4 := ztn (n := 112) rfl c5
  have e5 := ztn (n := 119) rfl c6
  refine aw_swd X 72 dX2_wordFrom_1 rfl (by intro q hq; simp only [List.mem_cons, List.not_mem_nil, or_false] at hq; rcases hq with rfl | rfl | rfl | rfl | rfl | rfl <;> assumption) rfl ?_
  refine aw_iconst (v := (-1)) X dX2_wordFrom_72 (by decide) ?_
  exact aw_iret X E rfl dX2_wordFrom_73 (hJ _ ((if_neg c1).trans ((if_neg c2).trans ((if_neg c3).trans ((if_neg c4).trans ((if_neg c5).trans (if_neg c6)))))).symm)
set_option maxRecDepth 100000 in
theorem s_X2_itemStands_81 {k : zK} {g : zG} {Q : Option zv → zI → zL → Prop} {I : zI} {L : zL} {y1 : Nat} {y2 : Nat} {y4 : Int32} {y5 : Int32}  (X : zX k g cX2_itemStands RX2 6 (some .boolean) 9) (E : zE k g Q) (h : if y5 < (v_X2_numbersOf y4) then (if y5 < 3 then (Call (kl k) g 3 M_X2_signStands [vR 82, vR y1, vI 32] I L (zi fun r3 I3 L3 => if r3 = 0 then (Q (some (vI 0)) I3 L3) else (Call (kl k) g 1 M_X2_mostOf [vI y4, vI y5, vR y2] I3 L3 (zi fun r5 I5 L5 => Call (kl k) g 4 M_X2_numberStands [vR 82, vR y1, vI r5, vI y5] I5 L5 (zi fun r6 I6 L6 => if r6 = 0 then (Q (some (vI 0)) I6 L6) else (AW k g 6 I6 L6 81 [(0, vR 82), (1, vR y1), (2, vR y2), (4, vI y4), (5, vI (y5 + 1))] [])))))) else (Call (kl k) g 3 M_X2_tell [vR 82, vI y4, vR y2] I L (zn fun I8 L8 => Q (some (vI 1)) I8 L8))) else (Call (kl k) g 3 M_X2_tell [vR 82, vI y4, vR y2] I L (zn fun I9 L9 => Q (some (vI 1)) I9 L9))) : AW k g 6 I L 81 [(0, vR 82), (1, vR y1), (2, vR y2), (4, vI y4), (5, vI y5)] [] := by
  refine aw_iload X 4 dX2_itemStands_81 rfl ?_
  refine aw_iload X 3 dX2_itemStands_83 rfl ?_
  refine aw_pS X (as := [vI y4]) mf_X2_numbersOf zw_617 (p_X2_numbersOf) rfl rfl (by decide) (Nat.le_of_ble_eq_true rfl) dX2_itemStands_85 ?_
  refine aw_icmp_gen X 137 dX2_itemStands_88 rfl (fun c1 => ?_) (fun c1 => ?_)
  · replace h := zifp c1 h
    refine aw_iload X 4 dX2_itemStands_91 rfl ?_
    refine aw_aload_n X 0 dX2_itemStands_93 rfl ?_
    refine aw_getR X zf_RX2_9 rfl zs_82 zr_82_0 dX2_itemStands_94 ?_
    refine aw_alen (v := 3) X zs_83 (by decide) (by decide) dX2_itemStands_97 ?_
    refine aw_icmp_gen X 137 dX2_itemStands_98 rfl (fun c2 => ?_) (fun c2 => ?_)
    · replace h := zifp c2 h
      refine aw_aload_n X 0 dX2_itemStands_101 rfl ?_
      refine aw_aload_n X 1 dX2_itemStands_102 rfl ?_
      refine aw_bipush (v := 32) X dX2_itemStands_103 (by decide) ?_
      refine aw_callV X (as := [vR y1, vI 32]) mf_X2_signStands zw_608 h zs_82 rfl rfl (by decide) (Nat.le_of_ble_eq_true rfl) dX2_itemStands_105 (fun v I3 L3 h => ?_)
      obtain ⟨r3, rfl, h⟩ := h
      refine aw_if_eq X 129 dX2_itemStands_108 rfl (fun c4 => ?_) (fun c4 => ?_)
      · replace h := zifp c4 h
        refine aw_iconst (v := 0) X dX2_itemStands_129 (by decide) ?_
        exact aw_zret X E rfl (Or.inl rfl) dX2_itemStands_130 h
      · replace h := zifn c4 h
        refine aw_aload_n X 0 dX2_itemStands_111 rfl ?_
        refine aw_aload_n X 1 dX2_itemStands_112 rfl ?_
        refine aw_iload X 3 dX2_itemStands_113 rfl ?_
        refine aw_iload X 4 dX2_itemStands_115 rfl ?_
        refine aw_aload_n X 2 dX2_itemStands_117 rfl ?_
        refine aw_callS X (as := [vI y4, vI y5, vR y2]) mf_X2_mostOf zw_620 h rfl rfl (by decide) (Nat.le_of_ble_eq_true rfl) dX2_itemStands_118 (fun v I5 L5 h => ?_)
        obtain ⟨r5, rfl, h⟩ := h
        refine aw_iload X 4 dX2_itemStands_121 rfl ?_
        refine aw_callV X (as := [vR y1, vI r5, vI y5]) mf_X2_numberStands zw_624 h zs_82 rfl rfl (by decide) (Nat.le_of_ble_eq_true rfl) dX2_itemStands_123 (fun v I6 L6 h => ?_)
        obtain ⟨r6, rfl, h⟩ := h
        refine aw_if_ne X 131 dX2_itemStands_126 rfl (fun c7 => ?_) (fun c7 => ?_)
        · replace h := zifn c7 h
          refine aw_iinc (v := y5 + 1) X 4 dX2_itemStands_131 rfl rfl (by decide) rfl ?_
          refine aw_goto X 81 dX2_itemStands_134 rfl ?_
          refine aw_perm (ks9 := [(0, vR 82), (1, vR y1), (2, vR y2), (4, vI y4), (5, vI (y5 + 1))]) [1, 2, 3, 4, 0] rfl ?_
          exact h
        · replace h := zifp c7 h
          refine aw_iconst (v := 0) X dX2_itemStands_129 (by decide) ?_
          exact aw_zret X E rfl (Or.inl rfl) dX2_itemStands_130 h
    · replace h := zifn c2 h
      refine aw_aload_n X 0 dX2_itemStands_137 rfl ?_
      refine aw_iload X 3 dX2_itemStands_138 rfl ?_
      refine aw_aload_n X 2 dX2_itemStands_140 rfl ?_
      refine aw_callV X (as := [vI y4, vR y2]) mf_X2_tell zw_632 h zs_82 rfl rfl (by decide) (Nat.le_of_ble_eq_true rfl) dX2_itemStands_141 (fun v I8 L8 h => ?_)
      obtain ⟨rfl, h⟩ := h
      refine aw_iconst (v := 1) X dX2_itemStands_144 (by decide) ?_
      exact aw_zret X E rfl (Or.inr rfl) dX2_itemStands_145 h
  · replace h := zifn c1 h
    refine aw_aload_n X 0 dX2_itemStands_137 rfl ?_
    refine aw_iload X 3 dX2_itemStands_138 rfl ?_
    refine aw_aload_n X 2 dX2_itemStands_140 rfl ?_
    refine aw_callV X (as := [vI y4, vR y2]) mf_X2_tell zw_632 h zs_82 rfl rfl (by decide) (Nat.le_of_ble_eq_true rfl) dX2_itemStands_141 (fun v I9 L9 h => ?_)
    obtain ⟨rfl, h⟩ := h
    refine aw_iconst (v := 1) X dX2_itemStands_144 (by decide) ?_
    exact aw_zret X E rfl (Or.inr rfl) dX2_itemStands_145 h
set_option maxRecDepth 100000 in
theorem m_X2_itemStands {l : Launch} {g : zG} {Q : Option zv → zI → zL → Prop} {I : zI} {L : zL} {a1 : Nat} {a2 : Nat}  (h : ∀ k : zK, kl k = l → zX k g cX2_itemStands RX2 6 (some .boolean) 9 → zE k g Q → (zsh a1 = (13, 5) ∧ ((∀ u4 : Int32, u4 = (if (I 82 1) < (I a1 2) then v_X2_wordFrom (v_X3_signAt I L a1 (I 82 1)) else ((-1) : Int32)) → if u4 = (-1) then (Call (kl k) g 1 M_X2_failAt [vR 82, vI (I 82 1)] I L (zi fun r12 I12 L12 => (r12 = 0 ∨ r12 = 1) ∧ (Q (some (vI r12)) I12 L12))) else (Call (kl k) g 8 M_X2_lettersStand [vR 82, vR a1, vR (v_X2_lettersOf u4)] I L (zi fun r6 I6 L6 => if r6 = 0 then (Q (some (vI 0)) I6 L6) else (Call (kl k) g 2 M_X2_hasRoomFor [vI u4, vR a2] I6 L6 (zi fun r8 I8 L8 => if r8 = 0 then (Call (kl k) g 1 M_X2_failAt [vR 82, vI (I 82 1)] I8 L8 (zi fun r10 I10 L10 => (r10 = 0 ∨ r10 = 1) ∧ (Q (some (vI r10)) I10 L10))) else (AW k g 6 I8 L8 81 [(0, vR 82), (1, vR a1), (2, vR a2), (4, vI u4), (5, vI 0)] []))))))))) : Call l g 9 M_X2_itemStands [vR 82, vR a1, vR a2] I L Q := by
  refine aw_entry (by decide) (Nat.le_of_ble_eq_true rfl) (fun k hk (X : zX k g cX2_itemStands RX2 6 (some .boolean) 9) E => ?_)
  show AW k g 6 I L 0 [(0, vR 82), (1, vR a1), (2, vR a2)] []
  replace h := h k hk X E
  subst hk
  refine aw_aload_n X 0 dX2_itemStands_0 rfl ?_
  refine aw_getI X zf_RX2_15 rfl zs_82 dX2_itemStands_1 ?_
  refine aw_istore_n X dX2_itemStands_4 (by decide) rfl ?_
  refine aw_aload_n X 1 dX2_itemStands_5 rfl ?_
  refine aw_getI X zf_RX2_15 rfl zs_82 dX2_itemStands_6 ?_
  refine aw_aload_n X 2 dX2_itemStands_9 rfl ?_
  have n1 := h.1
  replace h := h.2
  refine aw_getI X zf_RX2_28 rfl n1 dX2_itemStands_10 ?_
  have hJ3 : ∀ (u4 : Int32), u4 = (if (I 82 1) < (I a1 2) then v_X2_wordFrom (v_X3_signAt I L a1 (I 82 1)) else ((-1) : Int32)) → AW k g 6 I L 31 [(0, vR 82), (1, vR a1), (2, vR a2), (3, vI (I 82 1))] [vI u4] := by
    intro u4 q1
    replace h := h u4 q1
    refine aw_istore X dX2_itemStands_31 (by decide) rfl ?_
    refine aw_iload X 0 dX2_itemStands_33 rfl ?_
    refine aw_iconst (v := (-1)) X dX2_itemStands_35 (by decide) ?_
    refine aw_icmp_ne X 48 dX2_itemStands_36 rfl (fun c5 => ?_) (fun c5 => ?_)
    · replace h := zifn c5 h
      refine aw_aload_n X 1 dX2_itemStands_48 rfl ?_
      refine aw_aload_n X 2 dX2_itemStands_49 rfl ?_
      refine aw_iload X 0 dX2_itemStands_50 rfl ?_
      refine aw_pS X (as := [vI u4]) mf_X2_lettersOf zw_547 (p_X2_lettersOf) rfl rfl (by decide) (Nat.le_of_ble_eq_true rfl) dX2_itemStands_52 ?_
      refine aw_callV X (as := [vR a1, vR (v_X2_lettersOf u4)]) mf_X2_lettersStand zw_556 h zs_82 rfl rfl (by decide) (Nat.le_of_ble_eq_true rfl) dX2_itemStands_55 (fun v I6 L6 h => ?_)
      obtain ⟨r6, rfl, h⟩ := h
      refine aw_if_ne X 63 dX2_itemStands_58 rfl (fun c7 => ?_) (fun c7 => ?_)
      · replace h := zifn c7 h
        refine aw_iload X 0 dX2_itemStands_63 rfl ?_
        refine aw_aload_n X 3 dX2_itemStands_65 rfl ?_
        refine aw_callS X (as := [vI u4, vR a2]) mf_X2_hasRoomFor zw_612 h rfl rfl (by decide) (Nat.le_of_ble_eq_true rfl) dX2_itemStands_66 (fun v I8 L8 h => ?_)
        obtain ⟨r8, rfl, h⟩ := h
        refine aw_if_ne X 78 dX2_itemStands_69 rfl (fun c9 => ?_) (fun c9 => ?_)
        · replace h := zifn c9 h
          refine aw_iconst (v := 0) X dX2_itemStands_78 (by decide) ?_
          refine aw_istore X dX2_itemStands_79 (by decide) rfl ?_
          refine aw_perm (ks9 := [(0, vR 82), (1, vR a1), (2, vR a2), (4, vI u4), (5, vI 0)]) [2, 3, 4, 1, 0] rfl ?_
          exact h
        · replace h := zifp c9 h
          refine aw_aload_n X 1 dX2_itemStands_72 rfl ?_
          refine aw_iload_n X 4 dX2_itemStands_73 rfl ?_
          refine aw_callV X (as := [vI (I 82 1)]) mf_X2_failAt zw_543 h zs_82 rfl rfl (by decide) (Nat.le_of_ble_eq_true rfl) dX2_itemStands_74 (fun v I10 L10 h => ?_)
          obtain ⟨r10, rfl, h⟩ := h
          have n11 := h.1
          replace h := h.2
          exact aw_zret X E rfl n11 dX2_itemStands_77 h
      · replace h := zifp c7 h
        refine aw_iconst (v := 0) X dX2_itemStands_61 (by decide) ?_
        exact aw_zret X E rfl (Or.inl rfl) dX2_itemStands_62 h
    · replace h := zifp c5 h
      refine aw_aload_n X 1 dX2_itemStands_39 rfl ?_
      refine aw_aload_n X 1 dX2_itemStands_40 rfl ?_
      refine aw_getI X zf_RX2_15 rfl zs_82 dX2_itemStands_41 ?_
      refine aw_callV X (as := [vI (I 82 1)]) mf_X2_failAt zw_543 h zs_82 rfl rfl (by decide) (Nat.le_of_ble_eq_true rfl) dX2_itemStands_44 (fun v I12 L12 h => ?_)
      obtain ⟨r12, rfl, h⟩ := h
      have n13 := h.1
      replace h := h.2
      exact aw_zret X E rfl n13 dX2_itemStands_47 h
  refine aw_icmp_gen X 30 dX2_itemStands_13 rfl (fun c2 => ?_) (fun c2 => ?_)
  · refine aw_aload_n X 2 dX2_itemStands_16 rfl ?_
    refine aw_aload_n X 1 dX2_itemStands_17 rfl ?_
    refine aw_getI X zf_RX2_15 rfl zs_82 dX2_itemStands_18 ?_
    refine aw_pV X (as := [vI (I 82 1)]) mf_X3_signAt zw_536 (p_X3_signAt n1) n1 rfl rfl (by decide) (Nat.le_of_ble_eq_true rfl) dX2_itemStands_21 ?_
    refine aw_pS X (as := [vI (v_X3_signAt I L a1 (I 82 1))]) mf_X2_wordFrom zw_540 (p_X2_wordFrom) rfl rfl (by decide) (Nat.le_of_ble_eq_true rfl) dX2_itemStands_24 ?_
    refine aw_goto X 31 dX2_itemStands_27 rfl ?_
    refine aw_perm (ks9 := [(0, vR 82), (1, vR a1), (2, vR a2), (3, vI (I 82 1))]) [1, 2, 3, 0] rfl ?_
    exact hJ3 _ (if_pos c2).symm
  · refine aw_iconst (v := (-1)) X dX2_itemStands_30 (by decide) ?_
    refine aw_perm (ks9 := [(0, vR 82), (1, vR a1), (2, vR a2), (3, vI (I 82 1))]) [1, 2, 3, 0] rfl ?_
    exact hJ3 _ (if_neg c2).symm
set_option maxRecDepth 100000 in
theorem s_X2_itemsOf_12 {k : zK} {g : zG} {Q : Option zv → zI → zL → Prop} {I : zI} {L : zL} {y1 : Nat} {y2 : Nat} {y3 : Int32}  (X : zX k g cX2_itemsOf RX2 4 (some .int) 10) (E : zE k g Q) (h : if 160 < y3 then (Call (kl k) g 1 M_X2_failAt [vR 82, vI (I 82 1)] I L (zi fun r2 I2 L2 => Q (some (vI (-1))) I2 L2)) else (Call (kl k) g 9 M_X2_itemStands [vR 82, vR y1, vR y2] I L (zi fun r3 I3 L3 => if r3 = 0 then (Q (some (vI (-1))) I3 L3) else (zsh y1 = (13, 5) ∧ (if (I3 82 1) < (I3 y1 2) then (Call (kl k) g 3 M_X2_signStands [vR 82, vR y1, vI 59] I3 L3 (zi fun r7 I7 L7 => if r7 = 0 then (Q (some (vI (-1))) I7 L7) else (AW k g 4 I7 L7 12 [(0, vR 82), (1, vR y1), (2, vR y2), (3, vI (y3 + 1))] []))) else (Q (some (vI y3)) I3 L3)))))) : AW k g 4 I L 12 [(0, vR 82), (1, vR y1), (2, vR y2), (3, vI y3)] [] := by
  refine aw_iload_n X 3 dX2_itemsOf_12 rfl ?_
  refine aw_sipush (v := 160) X dX2_itemsOf_13 (by decide) ?_
  refine aw_icmp_gt X 61 dX2_itemsOf_16 rfl (fun c1 => ?_) (fun c1 => ?_)
  · replace h := zifp c1 h
    refine aw_aload_n X 0 dX2_itemsOf_61 rfl ?_
    refine aw_aload_n X 0 dX2_itemsOf_62 rfl ?_
    refine aw_getI X zf_RX2_15 rfl zs_82 dX2_itemsOf_63 ?_
    refine aw_callV X (as := [vI (I 82 1)]) mf_X2_failAt zw_543 h zs_82 rfl rfl (by decide) (Nat.le_of_ble_eq_true rfl) dX2_itemsOf_66 (fun v I2 L2 h => ?_)
    obtain ⟨r2, rfl, h⟩ := h
    refine aw_pop X dX2_itemsOf_69 rfl ?_
    refine aw_iconst (v := (-1)) X dX2_itemsOf_70 (by decide) ?_
    exact aw_iret X E rfl dX2_itemsOf_71 h
  · replace h := zifn c1 h
    refine aw_aload_n X 0 dX2_itemsOf_19 rfl ?_
    refine aw_aload_n X 1 dX2_itemsOf_20 rfl ?_
    refine aw_aload_n X 2 dX2_itemsOf_21 rfl ?_
    refine aw_callV X (as := [vR y1, vR y2]) mf_X2_itemStands zw_532 h zs_82 rfl rfl (by decide) (Nat.le_of_ble_eq_true rfl) dX2_itemsOf_22 (fun v I3 L3 h => ?_)
    obtain ⟨r3, rfl, h⟩ := h
    refine aw_if_ne X 30 dX2_itemsOf_25 rfl (fun c4 => ?_) (fun c4 => ?_)
    · replace h := zifn c4 h
      refine aw_aload_n X 0 dX2_itemsOf_30 rfl ?_
      refine aw_getI X zf_RX2_15 rfl zs_82 dX2_itemsOf_31 ?_
      refine aw_aload_n X 1 dX2_itemsOf_34 rfl ?_
      have n5 := h.1
      replace h := h.2
      refine aw_getI X zf_RX2_28 rfl n5 dX2_itemsOf_35 ?_
      refine aw_icmp_lt X 43 dX2_itemsOf_38 rfl (fun c6 => ?_) (fun c6 => ?_)
      · replace h := zifp c6 h
        refine aw_aload_n X 0 dX2_itemsOf_43 rfl ?_
        refine aw_aload_n X 1 dX2_itemsOf_44 rfl ?_
        refine aw_bipush (v := 59) X dX2_itemsOf_45 (by decide) ?_
        refine aw_callV X (as := [vR y1, vI 59]) mf_X2_signStands zw_608 h zs_82 rfl rfl (by decide) (Nat.le_of_ble_eq_true rfl) dX2_itemsOf_47 (fun v I7 L7 h => ?_)
        obtain ⟨r7, rfl, h⟩ := h
        refine aw_if_ne X 55 dX2_itemsOf_50 rfl (fun c8 => ?_) (fun c8 => ?_)
        · replace h := zifn c8 h
          refine aw_iinc (v := y3 + 1) X 3 dX2_itemsOf_55 rfl rfl (by decide) rfl ?_
          refine aw_goto X 12 dX2_itemsOf_58 rfl ?_
          refine aw_perm (ks9 := [(0, vR 82), (1, vR y1), (2, vR y2), (3, vI (y3 + 1))]) [1, 2, 3, 0] rfl ?_
          exact h
        · replace h := zifp c8 h
          refine aw_iconst (v := (-1)) X dX2_itemsOf_53 (by decide) ?_
          exact aw_iret X E rfl dX2_itemsOf_54 h
      · replace h := zifn c6 h
        refine aw_iload_n X 3 dX2_itemsOf_41 rfl ?_
        exact aw_iret X E rfl dX2_itemsOf_42 h
    · replace h := zifp c4 h
      refine aw_iconst (v := (-1)) X dX2_itemsOf_28 (by decide) ?_
      exact aw_iret X E rfl dX2_itemsOf_29 h
set_option maxRecDepth 100000 in
theorem m_X2_itemsOf {l : Launch} {g : zG} {Q : Option zv → zI → zL → Prop} {I : zI} {L : zL} {a1 : Nat} {a2 : Nat}  (h : ∀ k : zK, kl k = l → zX k g cX2_itemsOf RX2 4 (some .int) 10 → zE k g Q → ((∀ I1 : zI, I1 = (zs I 82 1 0) → AW k g 4 (zs I1 82 2 (-1)) L 12 [(0, vR 82), (1, vR a1), (2, vR a2), (3, vI 1)] []))) : Call l g 10 M_X2_itemsOf [vR 82, vR a1, vR a2] I L Q := by
  refine aw_entry (by decide) (Nat.le_of_ble_eq_true rfl) (fun k hk (X : zX k g cX2_itemsOf RX2 4 (some .int) 10) E => ?_)
  show AW k g 4 I L 0 [(0, vR 82), (1, vR a1), (2, vR a2)] []
  replace h := h k hk X E
  subst hk
  refine aw_aload_n X 0 dX2_itemsOf_0 rfl ?_
  refine aw_iconst (v := 0) X dX2_itemsOf_1 (by decide) ?_
  refine aw_putI X zf_RX2_15 rfl rfl rfl zs_82 dX2_itemsOf_2 ?_
  refine aw_aload_n X 0 dX2_itemsOf_5 rfl ?_
  refine aw_iconst (v := (-1)) X dX2_itemsOf_6 (by decide) ?_
  refine aw_nameI (fun I1 e1 => ?_)
  replace h := h I1 e1
  refine aw_putI X zf_RX2_19 rfl rfl rfl zs_82 dX2_itemsOf_7 ?_
  refine aw_iconst (v := 1) X dX2_itemsOf_10 (by decide) ?_
  refine aw_istore_n X dX2_itemsOf_11 (by decide) rfl ?_
  refine aw_perm (ks9 := [(0, vR 82), (1, vR a1), (2, vR a2), (3, vI 1)]) [1, 2, 3, 0] rfl ?_
  exact h
def v_X5_isChosen (I : zI) (a1 : Int32) (a2 : Int32) : Int32 := if ((jshr a1 (((I 2 3) - 1) - a2)) &&& 1) = 1 then 1 else (0 : Int32)
set_option maxRecDepth 100000 in
theorem p_X5_isChosen {l : Launch} {g : zG} {I : zI} {L : zL} {a1 : Int32} {a2 : Int32}  : Call l g 1 M_X5_isChosen [vR 59, vI a1, vI a2] I L (zp (some (vI (v_X5_isChosen I a1 a2))) I L) := by
  refine aw_entry (by decide) (Nat.le_of_ble_eq_true rfl) (fun k hk (X : zX k g cX5_isChosen RX5 3 (some .boolean) 1) E => ?_)
  show AW k g 3 I L 0 [(0, vR 59), (1, vI a1), (2, vI a2)] []
  subst hk
  have hJ : ∀ w1 : Int32, w1 = (if ((jshr a1 (((I 2 3) - 1) - a2)) &&& 1) = 1 then 1 else (0 : Int32)) → zp (some (vI (v_X5_isChosen I a1 a2))) I L (some (vI w1)) I L := fun w1 e1 => ⟨by rw [e1]; rfl, rfl, rfl⟩
  refine aw_iload_n X 1 dX5_isChosen_0 rfl ?_
  refine aw_aload_n X 0 dX5_isChosen_1 rfl ?_
  refine aw_getR X zf_RX5_9 rfl zs_59 zr_59_0 dX5_isChosen_2 ?_
  refine aw_getI X zf_RX5_98 rfl zs_2 dX5_isChosen_5 ?_
  refine aw_iconst (v := 1) X dX5_isChosen_8 (by decide) ?_
  refine aw_isub X dX5_isChosen_9 ?_
  refine aw_iload_n X 2 dX5_isChosen_10 rfl ?_
  refine aw_isub X dX5_isChosen_11 ?_
  refine aw_ishr X dX5_isChosen_12 ?_
  refine aw_iconst (v := 1) X dX5_isChosen_13 (by decide) ?_
  refine aw_iand X dX5_isChosen_14 ?_
  refine aw_iconst (v := 1) X dX5_isChosen_15 (by decide) ?_
  have hJ2 : ∀ (w1 : Int32), w1 = (if ((jshr a1 (((I 2 3) - 1) - a2)) &&& 1) = 1 then 1 else (0 : Int32)) → AW k g 3 I L 24 [] [vI w1] := by
    intro w1 q1
    subst q1
    exact aw_zret X E rfl (by (repeat' split) <;> first | exact Or.inl rfl | exact Or.inr rfl) dX5_isChosen_24 (hJ _ rfl)
  refine aw_icmp_ne X 23 dX5_isChosen_16 rfl (fun c1 => ?_) (fun c1 => ?_)
  · refine aw_iconst (v := 0) X dX5_isChosen_23 (by decide) ?_
    refine aw_perm (ks9 := []) [] rfl ?_
    exact hJ2 _ (if_neg c1).symm
  · refine aw_iconst (v := 1) X dX5_isChosen_19 (by decide) ?_
    refine aw_goto X 24 dX5_isChosen_20 rfl ?_
    refine aw_perm (ks9 := []) [] rfl ?_
    exact hJ2 _ (if_pos c1).symm
theorem b_X5_isChosen {I : zI} {a1 : Int32} {a2 : Int32} : v_X5_isChosen I a1 a2 = 0 ∨ v_X5_isChosen I a1 a2 = 1 := by
  unfold v_X5_isChosen
  repeat' split
  all_goals first | exact Or.inl rfl | exact Or.inr rfl
set_option maxRecDepth 100000 in
theorem s_X5_rightBy_8 {k : zK} {g : zG} {Q : Option zv → zI → zL → Prop} {I : zI} {L : zL} {y1 : Int32} {y2 : Nat} {y3 : Int32} {y4 : Int32} {y5 : Int32}  (X : zX k g cX5_rightBy RX5 6 (some .int) 3) (E : zE k g Q) (h : if y5 < (I 2 3) then (if y5 < 8 then ((¬ ((v_X5_isChosen I y1 y5) = 0) → vp_in y5 8 ∧ zsh y2 = (13, 5)) ∧ ((∀ u8 : Int32, u8 = (if (v_X5_isChosen I y1 y5) = 0 then y3 else (y3 + ((jshr (I 63 y5.toNatClampNeg) (v_X3_signAt I L y2 y4)) &&& 1))) → AW k g 6 I L 8 [(0, vR 59), (1, vI y1), (2, vR y2), (3, vI u8), (4, vI (if (v_X5_isChosen I y1 y5) = 0 then y4 else (y4 + 1))), (5, vI (y5 + 1))] []))) else (Q (some (vI y3)) I L)) else (Q (some (vI y3)) I L)) : AW k g 6 I L 8 [(0, vR 59), (1, vI y1), (2, vR y2), (3, vI y3), (4, vI y4), (5, vI y5)] [] := by
  refine aw_iload X 5 dX5_rightBy_8 rfl ?_
  refine aw_aload_n X 0 dX5_rightBy_10 rfl ?_
  refine aw_getR X zf_RX5_9 rfl zs_59 zr_59_0 dX5_rightBy_11 ?_
  refine aw_getI X zf_RX5_98 rfl zs_2 dX5_rightBy_14 ?_
  refine aw_icmp_gen X 68 dX5_rightBy_17 rfl (fun c1 => ?_) (fun c1 => ?_)
  · replace h := zifp c1 h
    refine aw_iload X 5 dX5_rightBy_20 rfl ?_
    refine aw_aload_n X 0 dX5_rightBy_22 rfl ?_
    refine aw_getR X zf_RX5_26 rfl zs_59 zr_59_3 dX5_rightBy_23 ?_
    refine aw_alen (v := 8) X zs_63 (by decide) (by decide) dX5_rightBy_26 ?_
    refine aw_icmp_gen X 68 dX5_rightBy_27 rfl (fun c2 => ?_) (fun c2 => ?_)
    · replace h := zifp c2 h
      refine aw_aload_n X 0 dX5_rightBy_30 rfl ?_
      refine aw_iload_n X 1 dX5_rightBy_31 rfl ?_
      refine aw_iload X 5 dX5_rightBy_32 rfl ?_
      refine aw_pV X (as := [vI y1, vI y5]) mf_X5_isChosen zw_790 (p_X5_isChosen) zs_59 rfl rfl (by decide) (Nat.le_of_ble_eq_true rfl) dX5_rightBy_34 ?_
      have n6 := h.1
      replace h := h.2
      have hJ7 : ∀ (u8 : Int32) (w2 : Int32), u8 = (if (v_X5_isChosen I y1 y5) = 0 then y3 else (y3 + ((jshr (I 63 y5.toNatClampNeg) (v_X3_signAt I L y2 y4)) &&& 1))) → w2 = (if (v_X5_isChosen I y1 y5) = 0 then y4 else (y4 + 1)) → AW k g 6 I L 62 [(0, vR 59), (1, vI y1), (2, vR y2), (3, vI u8), (4, vI w2), (5, vI y5)] [] := by
        intro u8 w2 q1 q2
        replace h := h u8 q1
        subst q2
        refine aw_iinc (v := y5 + 1) X 5 dX5_rightBy_62 rfl rfl (by decide) rfl ?_
        refine aw_goto X 8 dX5_rightBy_65 rfl ?_
        refine aw_perm (ks9 := [(0, vR 59), (1, vI y1), (2, vR y2), (3, vI u8), (4, vI (if (v_X5_isChosen I y1 y5) = 0 then y4 else (y4 + 1))), (5, vI (y5 + 1))]) [1, 2, 3, 4, 5, 0] rfl ?_
        exact h
      refine aw_if_eq X 62 dX5_rightBy_37 rfl (fun c3 => ?_) (fun c3 => ?_)
      · refine aw_perm (ks9 := [(0, vR 59), (1, vI y1), (2, vR y2), (3, vI y3), (4, vI y4), (5, vI y5)]) [0, 1, 2, 3, 4, 5] rfl ?_
        exact hJ7 _ _ (if_pos c3).symm (if_pos c3).symm
      · obtain ⟨n4, n5⟩ := (n6 c3)
        refine aw_iload_n X 3 dX5_rightBy_40 rfl ?_
        refine aw_aload_n X 0 dX5_rightBy_41 rfl ?_
        refine aw_getR X zf_RX5_26 rfl zs_59 zr_59_3 dX5_rightBy_42 ?_
        refine aw_iload X 5 dX5_rightBy_45 rfl ?_
        refine aw_ialdj (j := y5.toNatClampNeg) X zs_63 n4 rfl dX5_rightBy_47 ?_
        refine aw_aload_n X 2 dX5_rightBy_48 rfl ?_
        refine aw_iload X 4 dX5_rightBy_49 rfl ?_
        refine aw_pV X (as := [vI y4]) mf_X3_signAt zw_780 (p_X3_signAt n5) n5 rfl rfl (by decide) (Nat.le_of_ble_eq_true rfl) dX5_rightBy_51 ?_
        refine aw_ishr X dX5_rightBy_54 ?_
        refine aw_iconst (v := 1) X dX5_rightBy_55 (by decide) ?_
        refine aw_iand X dX5_rightBy_56 ?_
        refine aw_iadd X dX5_rightBy_57 ?_
        refine aw_istore_n X dX5_rightBy_58 (by decide) rfl ?_
        refine aw_iinc (v := y4 + 1) X 4 dX5_rightBy_59 rfl rfl (by decide) rfl ?_
        refine aw_perm (ks9 := [(0, vR 59), (1, vI y1), (2, vR y2), (3, vI (y3 + ((jshr (I 63 y5.toNatClampNeg) (v_X3_signAt I L y2 y4)) &&& 1))), (4, vI (y4 + 1)), (5, vI y5)]) [2, 3, 4, 1, 0, 5] rfl ?_
        exact hJ7 _ _ (if_neg c3).symm (if_neg c3).symm
    · replace h := zifn c2 h
      refine aw_iload_n X 3 dX5_rightBy_68 rfl ?_
      exact aw_iret X E rfl dX5_rightBy_69 h
  · replace h := zifn c1 h
    refine aw_iload_n X 3 dX5_rightBy_68 rfl ?_
    exact aw_iret X E rfl dX5_rightBy_69 h
set_option maxRecDepth 100000 in
theorem m_X5_rightBy {l : Launch} {g : zG} {Q : Option zv → zI → zL → Prop} {I : zI} {L : zL} {a1 : Int32} {a2 : Nat}  (h : ∀ k : zK, kl k = l → zX k g cX5_rightBy RX5 6 (some .int) 3 → zE k g Q → (AW k g 6 I L 8 [(0, vR 59), (1, vI a1), (2, vR a2), (3, vI 0), (4, vI 0), (5, vI 0)] [])) : Call l g 3 M_X5_rightBy [vR 59, vI a1, vR a2] I L Q := by
  refine aw_entry (by decide) (Nat.le_of_ble_eq_true rfl) (fun k hk (X : zX k g cX5_rightBy RX5 6 (some .int) 3) E => ?_)
  show AW k g 6 I L 0 [(0, vR 59), (1, vI a1), (2, vR a2)] []
  replace h := h k hk X E
  subst hk
  refine aw_iconst (v := 0) X dX5_rightBy_0 (by decide) ?_
  refine aw_istore_n X dX5_rightBy_1 (by decide) rfl ?_
  refine aw_iconst (v := 0) X dX5_rightBy_2 (by decide) ?_
  refine aw_istore X dX5_rightBy_3 (by decide) rfl ?_
  refine aw_iconst (v := 0) X dX5_rightBy_5 (by decide) ?_
  refine aw_istore X dX5_rightBy_6 (by decide) rfl ?_
  refine aw_perm (ks9 := [(0, vR 59), (1, vI a1), (2, vR a2), (3, vI 0), (4, vI 0), (5, vI 0)]) [3, 4, 5, 2, 1, 0] rfl ?_
  exact h
set_option maxRecDepth 100000 in
theorem s_X5_choosePanesFor_22 {k : zK} {g : zG} {Q : Option zv → zI → zL → Prop} {I : zI} {L : zL} {y1 : Nat} {y2 : Int32} {y3 : Int32}  (X : zX k g cX5_choosePanesFor RX5 5 none 4) (E : zE k g Q) (h : if y3 < 0 then (Q none I L) else (if (v_J6_bitCount_0f7a4 y3) = y2 then (Call (kl k) g 3 M_X5_rightBy [vR 59, vI y3, vR y1] I L (zi fun r3 I3 L3 => if (I3 59 6) < r3 then ((∀ I5 : zI, I5 = (zs I3 59 6 r3) → AW k g 5 (zs I5 59 5 y3) L3 22 [(0, vR 59), (1, vR y1), (2, vI y2), (3, vI (y3 + (-1)))] [])) else (AW k g 5 I3 L3 22 [(0, vR 59), (1, vR y1), (2, vI y2), (3, vI (y3 + (-1)))] []))) else (AW k g 5 I L 22 [(0, vR 59), (1, vR y1), (2, vI y2), (3, vI (y3 + (-1)))] []))) : AW k g 5 I L 22 [(0, vR 59), (1, vR y1), (2, vI y2), (3, vI y3)] [] := by
  refine aw_iload_n X 3 dX5_choosePanesFor_22 rfl ?_
  refine aw_if_lt X 68 dX5_choosePanesFor_23 rfl (fun c1 => ?_) (fun c1 => ?_)
  · replace h := zifp c1 h
    exact aw_vret X E rfl dX5_choosePanesFor_68 h
  · replace h := zifn c1 h
    refine aw_iload_n X 3 dX5_choosePanesFor_26 rfl ?_
    refine aw_pS X (as := [vI y3]) mf_J6_bitCount_0f7a4 zw_785 (p_J6_bitCount_0f7a4) rfl rfl (by decide) (Nat.le_of_ble_eq_true rfl) dX5_choosePanesFor_27 ?_
    refine aw_iload_n X 2 dX5_choosePanesFor_30 rfl ?_
    refine aw_icmp_ne X 62 dX5_choosePanesFor_31 rfl (fun c2 => ?_) (fun c2 => ?_)
    · replace h := zifn c2 h
      refine aw_iinc (v := y3 + (-1)) X 3 dX5_choosePanesFor_62 rfl rfl (by decide) rfl ?_
      refine aw_goto X 22 dX5_choosePanesFor_65 rfl ?_
      refine aw_perm (ks9 := [(0, vR 59), (1, vR y1), (2, vI y2), (3, vI (y3 + (-1)))]) [1, 2, 3, 0] rfl ?_
      exact h
    · replace h := zifp c2 h
      refine aw_aload_n X 0 dX5_choosePanesFor_34 rfl ?_
      refine aw_iload_n X 3 dX5_choosePanesFor_35 rfl ?_
      refine aw_aload_n X 1 dX5_choosePanesFor_36 rfl ?_
      refine aw_callV X (as := [vI y3, vR y1]) mf_X5_rightBy zw_786 h zs_59 rfl rfl (by decide) (Nat.le_of_ble_eq_true rfl) dX5_choosePanesFor_37 (fun v I3 L3 h => ?_)
      obtain ⟨r3, rfl, h⟩ := h
      refine aw_istore X dX5_choosePanesFor_40 (by decide) rfl ?_
      refine aw_iload X 0 dX5_choosePanesFor_42 rfl ?_
      refine aw_aload_n X 1 dX5_choosePanesFor_44 rfl ?_
      refine aw_getI X zf_RX5_36 rfl zs_59 dX5_choosePanesFor_45 ?_
      refine aw_icmp_len X 62 dX5_choosePanesFor_48 rfl (fun c4 => ?_) (fun c4 => ?_)
      · replace h := zifp c4 h
        refine aw_aload_n X 1 dX5_choosePanesFor_51 rfl ?_
        refine aw_iload X 0 dX5_choosePanesFor_52 rfl ?_
        refine aw_putI X zf_RX5_36 rfl rfl rfl zs_59 dX5_choosePanesFor_54 ?_
        refine aw_aload_n X 1 dX5_choosePanesFor_57 rfl ?_
        refine aw_iload_n X 4 dX5_choosePanesFor_58 rfl ?_
        refine aw_nameI (fun I5 e5 => ?_)
        replace h := h I5 e5
        refine aw_putI X zf_RX5_32 rfl rfl rfl zs_59 dX5_choosePanesFor_59 ?_
        refine aw_iinc (v := y3 + (-1)) X 4 dX5_choosePanesFor_62 rfl rfl (by decide) rfl ?_
        refine aw_goto X 22 dX5_choosePanesFor_65 rfl ?_
        refine aw_perm (ks9 := [(0, vR 59), (1, vR y1), (2, vI y2), (3, vI (y3 + (-1)))]) [2, 3, 4, 0] rfl ?_
        exact h
      · replace h := zifn c4 h
        refine aw_iinc (v := y3 + (-1)) X 4 dX5_choosePanesFor_62 rfl rfl (by decide) rfl ?_
        refine aw_goto X 22 dX5_choosePanesFor_65 rfl ?_
        refine aw_perm (ks9 := [(0, vR 59), (1, vR y1), (2, vI y2), (3, vI (y3 + (-1)))]) [2, 3, 4, 0] rfl ?_
        exact h
set_option maxRecDepth 100000 in
theorem m_X5_choosePanesFor {l : Launch} {g : zG} {Q : Option zv → zI → zL → Prop} {I : zI} {L : zL} {a1 : Nat} {a2 : Int32}  (h : ∀ k : zK, kl k = l → zX k g cX5_choosePanesFor RX5 5 none 4 → zE k g Q → ((∀ I1 : zI, I1 = (zs I 59 5 0) → (∀ I2 : zI, I2 = (zs I1 59 6 (-1)) → AW k g 5 I2 L 22 [(0, vR 59), (1, vR a1), (2, vI a2), (3, vI ((jshl 1 (I2 2 3)) - 1))] [])))) : Call l g 4 M_X5_choosePanesFor [vR 59, vR a1, vI a2] I L Q := by
  refine aw_entry (by decide) (Nat.le_of_ble_eq_true rfl) (fun k hk (X : zX k g cX5_choosePanesFor RX5 5 none 4) E => ?_)
  show AW k g 5 I L 0 [(0, vR 59), (1, vR a1), (2, vI a2)] []
  replace h := h k hk X E
  subst hk
  refine aw_aload_n X 0 dX5_choosePanesFor_0 rfl ?_
  refine aw_iconst (v := 0) X dX5_choosePanesFor_1 (by decide) ?_
  refine aw_putI X zf_RX5_32 rfl rfl rfl zs_59 dX5_choosePanesFor_2 ?_
  refine aw_aload_n X 0 dX5_choosePanesFor_5 rfl ?_
  refine aw_iconst (v := (-1)) X dX5_choosePanesFor_6 (by decide) ?_
  refine aw_nameI (fun I1 e1 => ?_)
  replace h := h I1 e1
  refine aw_putI X zf_RX5_36 rfl rfl rfl zs_59 dX5_choosePanesFor_7 ?_
  refine aw_iconst (v := 1) X dX5_choosePanesFor_10 (by decide) ?_
  refine aw_aload_n X 0 dX5_choosePanesFor_11 rfl ?_
  refine aw_nameI (fun I2 e2 => ?_)
  replace h := h I2 e2
  refine aw_getR X zf_RX5_9 rfl zs_59 zr_59_0 dX5_choosePanesFor_12 ?_
  refine aw_getI X zf_RX5_98 rfl zs_2 dX5_choosePanesFor_15 ?_
  refine aw_ishl X dX5_choosePanesFor_18 ?_
  refine aw_iconst (v := 1) X dX5_choosePanesFor_19 (by decide) ?_
  refine aw_isub X dX5_choosePanesFor_20 ?_
  refine aw_istore_n X dX5_choosePanesFor_21 (by decide) rfl ?_
  refine aw_perm (ks9 := [(0, vR 59), (1, vR a1), (2, vI a2), (3, vI ((jshl 1 (I2 2 3)) - 1))]) [1, 2, 3, 0] rfl ?_
  exact h
set_option maxRecDepth 100000 in
theorem s_X5_chosenPane_4 {k : zK} {g : zG} {Q : Option zv → zI → zL → Prop} {I : zI} {L : zL} {y1 : Int32} {y2 : Int32} {y3 : Int32}  (X : zX k g cX5_chosenPane RX5 4 (some .int) 2) (E : zE k g Q) (h : if y3 < (I 2 3) then (if (v_X5_isChosen I (I 59 5) y3) = 0 then (AW k g 4 I L 4 [(0, vR 59), (1, vI y1), (2, vI y2), (3, vI (y3 + 1))] []) else (if y2 = y1 then (Q (some (vI y3)) I L) else (AW k g 4 I L 4 [(0, vR 59), (1, vI y1), (2, vI (y2 + 1)), (3, vI (y3 + 1))] []))) else (Q (some (vI (-1))) I L)) : AW k g 4 I L 4 [(0, vR 59), (1, vI y1), (2, vI y2), (3, vI y3)] [] := by
  refine aw_iload_n X 3 dX5_chosenPane_4 rfl ?_
  refine aw_aload_n X 0 dX5_chosenPane_5 rfl ?_
  refine aw_getR X zf_RX5_9 rfl zs_59 zr_59_0 dX5_chosenPane_6 ?_
  refine aw_getI X zf_RX5_98 rfl zs_2 dX5_chosenPane_9 ?_
  refine aw_icmp_gen X 43 dX5_chosenPane_12 rfl (fun c1 => ?_) (fun c1 => ?_)
  · replace h := zifp c1 h
    refine aw_aload_n X 0 dX5_chosenPane_15 rfl ?_
    refine aw_aload_n X 0 dX5_chosenPane_16 rfl ?_
    refine aw_getI X zf_RX5_32 rfl zs_59 dX5_chosenPane_17 ?_
    refine aw_iload_n X 3 dX5_chosenPane_20 rfl ?_
    refine aw_pV X (as := [vI (I 59 5), vI y3]) mf_X5_isChosen zw_790 (p_X5_isChosen) zs_59 rfl rfl (by decide) (Nat.le_of_ble_eq_true rfl) dX5_chosenPane_21 ?_
    refine aw_if_eq X 37 dX5_chosenPane_24 rfl (fun c2 => ?_) (fun c2 => ?_)
    · replace h := zifp c2 h
      refine aw_iinc (v := y3 + 1) X 3 dX5_chosenPane_37 rfl rfl (by decide) rfl ?_
      refine aw_goto X 4 dX5_chosenPane_40 rfl ?_
      refine aw_perm (ks9 := [(0, vR 59), (1, vI y1), (2, vI y2), (3, vI (y3 + 1))]) [1, 2, 3, 0] rfl ?_
      exact h
    · replace h := zifn c2 h
      refine aw_iload_n X 2 dX5_chosenPane_27 rfl ?_
      refine aw_iload_n X 1 dX5_chosenPane_28 rfl ?_
      refine aw_icmp_ne X 34 dX5_chosenPane_29 rfl (fun c3 => ?_) (fun c3 => ?_)
      · replace h := zifn c3 h
        refine aw_iinc (v := y2 + 1) X 2 dX5_chosenPane_34 rfl rfl (by decide) rfl ?_
        refine aw_iinc (v := y3 + 1) X 3 dX5_chosenPane_37 rfl rfl (by decide) rfl ?_
        refine aw_goto X 4 dX5_chosenPane_40 rfl ?_
        refine aw_perm (ks9 := [(0, vR 59), (1, vI y1), (2, vI (y2 + 1)), (3, vI (y3 + 1))]) [2, 3, 1, 0] rfl ?_
        exact h
      · replace h := zifp c3 h
        refine aw_iload_n X 3 dX5_chosenPane_32 rfl ?_
        exact aw_iret X E rfl dX5_chosenPane_33 h
  · replace h := zifn c1 h
    refine aw_iconst (v := (-1)) X dX5_chosenPane_43 (by decide) ?_
    exact aw_iret X E rfl dX5_chosenPane_44 h
set_option maxRecDepth 100000 in
theorem m_X5_chosenPane {l : Launch} {g : zG} {Q : Option zv → zI → zL → Prop} {I : zI} {L : zL} {a1 : Int32}  (h : ∀ k : zK, kl k = l → zX k g cX5_chosenPane RX5 4 (some .int) 2 → zE k g Q → (AW k g 4 I L 4 [(0, vR 59), (1, vI a1), (2, vI 0), (3, vI 0)] [])) : Call l g 2 M_X5_chosenPane [vR 59, vI a1] I L Q := by
  refine aw_entry (by decide) (Nat.le_of_ble_eq_true rfl) (fun k hk (X : zX k g cX5_chosenPane RX5 4 (some .int) 2) E => ?_)
  show AW k g 4 I L 0 [(0, vR 59), (1, vI a1)] []
  replace h := h k hk X E
  subst hk
  refine aw_iconst (v := 0) X dX5_chosenPane_0 (by decide) ?_
  refine aw_istore_n X dX5_chosenPane_1 (by decide) rfl ?_
  refine aw_iconst (v := 0) X dX5_chosenPane_2 (by decide) ?_
  refine aw_istore_n X dX5_chosenPane_3 (by decide) rfl ?_
  refine aw_perm (ks9 := [(0, vR 59), (1, vI a1), (2, vI 0), (3, vI 0)]) [2, 3, 1, 0] rfl ?_
  exact h
set_option maxRecDepth 100000 in
theorem m_X5_shapeOnGlass {l : Launch} {g : zG} {Q : Option zv → zI → zL → Prop} {I : zI} {L : zL} {a1 : Int32} {a2 : Int32} {a3 : Int32}  (h : Call l g 3 M_X1_freezeWith [vR 60, vI (v_X4_cellsOf I 2 a1), vI (v_X1_sharpness I 60 a3 (I 2 5)), vI (I 2 5)] I L (zn fun I1 L1 => Call l g 3 M_X1_passHours [vR 60, vI 0, vI a2, vI (I1 2 6)] I1 L1 (zn fun I2 L2 => Q (some (vI (v_X1_frosted I2 60))) I2 L2))) : Call l g 4 M_X5_shapeOnGlass [vR 59, vI a1, vI a2, vI a3] I L Q := by
  refine aw_entry (by decide) (Nat.le_of_ble_eq_true rfl) (fun k hk (X : zX k g cX5_shapeOnGlass RX5 5 (some .int) 4) E => ?_)
  show AW k g 5 I L 0 [(0, vR 59), (1, vI a1), (2, vI a2), (3, vI a3)] []
  subst hk
  refine aw_aload_n X 0 dX5_shapeOnGlass_0 rfl ?_
  refine aw_getR X zf_RX5_18 rfl zs_59 zr_59_1 dX5_shapeOnGlass_1 ?_
  refine aw_iload_n X 3 dX5_shapeOnGlass_4 rfl ?_
  refine aw_aload_n X 0 dX5_shapeOnGlass_5 rfl ?_
  refine aw_getR X zf_RX5_9 rfl zs_59 zr_59_0 dX5_shapeOnGlass_6 ?_
  refine aw_getI X zf_RX5_60 rfl zs_2 dX5_shapeOnGlass_9 ?_
  refine aw_pV X (as := [vI a3, vI (I 2 5)]) mf_X1_sharpness zw_671 (p_X1_sharpness zs_60) zs_60 rfl rfl (by decide) (Nat.le_of_ble_eq_true rfl) dX5_shapeOnGlass_12 ?_
  refine aw_istore X dX5_shapeOnGlass_15 (by decide) rfl ?_
  refine aw_aload_n X 1 dX5_shapeOnGlass_17 rfl ?_
  refine aw_getR X zf_RX5_18 rfl zs_59 zr_59_1 dX5_shapeOnGlass_18 ?_
  refine aw_aload_n X 1 dX5_shapeOnGlass_21 rfl ?_
  refine aw_getR X zf_RX5_9 rfl zs_59 zr_59_0 dX5_shapeOnGlass_22 ?_
  refine aw_iload_n X 2 dX5_shapeOnGlass_25 rfl ?_
  refine aw_pV X (as := [vI a1]) mf_X4_cellsOf zw_672 (p_X4_cellsOf zs_2) zs_2 rfl rfl (by decide) (Nat.le_of_ble_eq_true rfl) dX5_shapeOnGlass_26 ?_
  refine aw_iload X 0 dX5_shapeOnGlass_29 rfl ?_
  refine aw_aload_n X 1 dX5_shapeOnGlass_31 rfl ?_
  refine aw_getR X zf_RX5_9 rfl zs_59 zr_59_0 dX5_shapeOnGlass_32 ?_
  refine aw_getI X zf_RX5_60 rfl zs_2 dX5_shapeOnGlass_35 ?_
  refine aw_callV X (as := [vI (v_X4_cellsOf I 2 a1), vI (v_X1_sharpness I 60 a3 (I 2 5)), vI (I 2 5)]) mf_X1_freezeWith zw_673 h zs_60 rfl rfl (by decide) (Nat.le_of_ble_eq_true rfl) dX5_shapeOnGlass_38 (fun v I1 L1 h => ?_)
  obtain ⟨rfl, h⟩ := h
  refine aw_aload_n X 1 dX5_shapeOnGlass_41 rfl ?_
  refine aw_getR X zf_RX5_18 rfl zs_59 zr_59_1 dX5_shapeOnGlass_42 ?_
  refine aw_iconst (v := 0) X dX5_shapeOnGlass_45 (by decide) ?_
  refine aw_iload_n X 3 dX5_shapeOnGlass_46 rfl ?_
  refine aw_aload_n X 1 dX5_shapeOnGlass_47 rfl ?_
  refine aw_getR X zf_RX5_9 rfl zs_59 zr_59_0 dX5_shapeOnGlass_48 ?_
  refine aw_getI X zf_RX5_74 rfl zs_2 dX5_shapeOnGlass_51 ?_
  refine aw_callV X (as := [vI 0, vI a2, vI (I1 2 6)]) mf_X1_passHours zw_702 h zs_60 rfl rfl (by decide) (Nat.le_of_ble_eq_true rfl) dX5_shapeOnGlass_54 (fun v I2 L2 h => ?_)
  obtain ⟨rfl, h⟩ := h
  refine aw_aload_n X 1 dX5_shapeOnGlass_57 rfl ?_
  refine aw_getR X zf_RX5_18 rfl zs_59 zr_59_1 dX5_shapeOnGlass_58 ?_
  refine aw_pV X (as := []) mf_X1_frosted zw_715 (p_X1_frosted zs_60) zs_60 rfl rfl (by decide) (Nat.le_of_ble_eq_true rfl) dX5_shapeOnGlass_61 ?_
  exact aw_iret X E rfl dX5_shapeOnGlass_64 h
set_option maxRecDepth 100000 in
theorem m_X5_shapeAt {l : Launch} {g : zG} {Q : Option zv → zI → zL → Prop} {I : zI} {L : zL} {a1 : Nat} {a2 : Int32} {a3 : Int32}  (h : Call l g 1 M_X1_takeGlass [vR 60, vR a1] I L (zn fun I1 L1 => Call l g 4 M_X5_shapeOnGlass [vR 59, vI a2, vI a3, vI (I1 2 4)] I1 L1 (zi fun r2 I2 L2 => Q (some (vI r2)) I2 L2))) : Call l g 5 M_X5_shapeAt [vR 59, vR a1, vI a2, vI a3] I L Q := by
  refine aw_entry (by decide) (Nat.le_of_ble_eq_true rfl) (fun k hk (X : zX k g cX5_shapeAt RX5 4 (some .int) 5) E => ?_)
  show AW k g 4 I L 0 [(0, vR 59), (1, vR a1), (2, vI a2), (3, vI a3)] []
  subst hk
  refine aw_aload_n X 0 dX5_shapeAt_0 rfl ?_
  refine aw_getR X zf_RX5_18 rfl zs_59 zr_59_1 dX5_shapeAt_1 ?_
  refine aw_aload_n X 1 dX5_shapeAt_4 rfl ?_
  refine aw_callV X (as := [vR a1]) mf_X1_takeGlass zw_666 h zs_60 rfl rfl (by decide) (Nat.le_of_ble_eq_true rfl) dX5_shapeAt_5 (fun v I1 L1 h => ?_)
  obtain ⟨rfl, h⟩ := h
  refine aw_aload_n X 0 dX5_shapeAt_8 rfl ?_
  refine aw_iload_n X 2 dX5_shapeAt_9 rfl ?_
  refine aw_iload_n X 3 dX5_shapeAt_10 rfl ?_
  refine aw_aload_n X 0 dX5_shapeAt_11 rfl ?_
  refine aw_getR X zf_RX5_9 rfl zs_59 zr_59_0 dX5_shapeAt_12 ?_
  refine aw_getI X zf_RX5_51 rfl zs_2 dX5_shapeAt_15 ?_
  refine aw_callV X (as := [vI a2, vI a3, vI (I1 2 4)]) mf_X5_shapeOnGlass zw_667 h zs_59 rfl rfl (by decide) (Nat.le_of_ble_eq_true rfl) dX5_shapeAt_18 (fun v I2 L2 h => ?_)
  obtain ⟨r2, rfl, h⟩ := h
  exact aw_iret X E rfl dX5_shapeAt_21 h
set_option maxRecDepth 100000 in
theorem s_X5_curtainsRead_4 {k : zK} {g : zG} {Q : Option zv → zI → zL → Prop} {I : zI} {L : zL} {y1 : Int32} {y2 : Int32}  (X : zX k g cX5_curtainsRead RX5 4 (some .int) 6) (E : zE k g Q) (h : if y2 < (I 2 3) then (if (v_X4_paneAt I 2 y2) = 0 then (AW k g 4 I L 4 [(0, vR 59), (1, vI y1), (2, vI (y2 + 1))] []) else (if (I (v_X4_paneAt I 2 y2) 3) = (-1) then (Call (kl k) g 5 M_X5_shapeAt [vR 59, vR (v_X4_paneAt I 2 y2), vI (-1), vI 0] I L (zi fun r4 I4 L4 => k_X4_readingOf I4 2 r4 ∧ (AW k g 4 I4 L4 4 [(0, vR 59), (1, vI (if (v_X4_readingOf I4 2 r4) = (-1) then y1 else (y1 ||| (jshl 1 y2)))), (2, vI (y2 + 1))] []))) else (AW k g 4 I L 4 [(0, vR 59), (1, vI y1), (2, vI (y2 + 1))] []))) else (Q (some (vI y1)) I L)) : AW k g 4 I L 4 [(0, vR 59), (1, vI y1), (2, vI y2)] [] := by
  refine aw_iload_n X 2 dX5_curtainsRead_4 rfl ?_
  refine aw_aload_n X 0 dX5_curtainsRead_5 rfl ?_
  refine aw_getR X zf_RX5_9 rfl zs_59 zr_59_0 dX5_curtainsRead_6 ?_
  refine aw_getI X zf_RX5_98 rfl zs_2 dX5_curtainsRead_9 ?_
  refine aw_icmp_gen X 66 dX5_curtainsRead_12 rfl (fun c1 => ?_) (fun c1 => ?_)
  · replace h := zifp c1 h
    refine aw_aload_n X 0 dX5_curtainsRead_15 rfl ?_
    refine aw_getR X zf_RX5_9 rfl zs_59 zr_59_0 dX5_curtainsRead_16 ?_
    refine aw_iload_n X 2 dX5_curtainsRead_19 rfl ?_
    refine aw_pV X (as := [vI y2]) mf_X4_paneAt zw_762 (p_X4_paneAt zs_2) zs_2 rfl rfl (by decide) (Nat.le_of_ble_eq_true rfl) dX5_curtainsRead_20 ?_
    refine aw_astore_n X dX5_curtainsRead_23 (by decide) rfl ?_
    refine aw_aload_n X 0 dX5_curtainsRead_24 rfl ?_
    refine aw_ifnull X 60 dX5_curtainsRead_25 rfl (fun c2 => ?_) (fun c2 => ?_)
    · replace h := zifp c2 h
      refine aw_iinc (v := y2 + 1) X 3 dX5_curtainsRead_60 rfl rfl (by decide) rfl ?_
      refine aw_goto X 4 dX5_curtainsRead_63 rfl ?_
      refine aw_perm (ks9 := [(0, vR 59), (1, vI y1), (2, vI (y2 + 1))]) [2, 3, 0] rfl ?_
      exact h
    · replace h := zifn c2 h
      refine aw_aload_n X 0 dX5_curtainsRead_28 rfl ?_
      refine aw_getI X zf_RX5_108 rfl (nn_X4_paneAt zs_2 c2) dX5_curtainsRead_29 ?_
      refine aw_iconst (v := (-1)) X dX5_curtainsRead_32 (by decide) ?_
      refine aw_icmp_ne X 60 dX5_curtainsRead_33 rfl (fun c3 => ?_) (fun c3 => ?_)
      · replace h := zifn c3 h
        refine aw_iinc (v := y2 + 1) X 3 dX5_curtainsRead_60 rfl rfl (by decide) rfl ?_
        refine aw_goto X 4 dX5_curtainsRead_63 rfl ?_
        refine aw_perm (ks9 := [(0, vR 59), (1, vI y1), (2, vI (y2 + 1))]) [2, 3, 0] rfl ?_
        exact h
      · replace h := zifp c3 h
        refine aw_aload_n X 1 dX5_curtainsRead_36 rfl ?_
        refine aw_getR X zf_RX5_9 rfl zs_59 zr_59_0 dX5_curtainsRead_37 ?_
        refine aw_aload_n X 1 dX5_curtainsRead_40 rfl ?_
        refine aw_aload_n X 0 dX5_curtainsRead_41 rfl ?_
        refine aw_iconst (v := (-1)) X dX5_curtainsRead_42 (by decide) ?_
        refine aw_iconst (v := 0) X dX5_curtainsRead_43 (by decide) ?_
        refine aw_callV X (as := [vR (v_X4_paneAt I 2 y2), vI (-1), vI 0]) mf_X5_shapeAt zw_662 h zs_59 rfl rfl (by decide) (Nat.le_of_ble_eq_true rfl) dX5_curtainsRead_44 (fun v I4 L4 h => ?_)
        obtain ⟨r4, rfl, h⟩ := h
        have n5 := h.1
        replace h := h.2
        refine aw_pV X (as := [vI r4]) mf_X4_readingOf zw_751 (p_X4_readingOf zs_2 n5) zs_2 rfl rfl (by decide) (Nat.le_of_ble_eq_true rfl) dX5_curtainsRead_47 ?_
        refine aw_iconst (v := (-1)) X dX5_curtainsRead_50 (by decide) ?_
        have hJ7 : ∀ (w1 : Int32), w1 = (if (v_X4_readingOf I4 2 r4) = (-1) then y1 else (y1 ||| (jshl 1 y2))) → AW k g 4 I4 L4 60 [(0, vR 59), (1, vI w1), (2, vI y2)] [] := by
          intro w1 q1
          subst q1
          refine aw_iinc (v := y2 + 1) X 2 dX5_curtainsRead_60 rfl rfl (by decide) rfl ?_
          refine aw_goto X 4 dX5_curtainsRead_63 rfl ?_
          refine aw_perm (ks9 := [(0, vR 59), (1, vI (if (v_X4_readingOf I4 2 r4) = (-1) then y1 else (y1 ||| (jshl 1 y2)))), (2, vI (y2 + 1))]) [1, 2, 0] rfl ?_
          exact h
        refine aw_icmp_eq X 60 dX5_curtainsRead_51 rfl (fun c6 => ?_) (fun c6 => ?_)
        · refine aw_perm (ks9 := [(0, vR 59), (1, vI y1), (2, vI y2)]) [1, 2, 3] rfl ?_
          exact hJ7 _ (if_pos c6).symm
        · refine aw_iload_n X 2 dX5_curtainsRead_54 rfl ?_
          refine aw_iconst (v := 1) X dX5_curtainsRead_55 (by decide) ?_
          refine aw_iload_n X 3 dX5_curtainsRead_56 rfl ?_
          refine aw_ishl X dX5_curtainsRead_57 ?_
          refine aw_ior X dX5_curtainsRead_58 ?_
          refine aw_istore_n X dX5_curtainsRead_59 (by decide) rfl ?_
          refine aw_perm (ks9 := [(0, vR 59), (1, vI (y1 ||| (jshl 1 y2))), (2, vI y2)]) [2, 0, 3] rfl ?_
          exact hJ7 _ (if_neg c6).symm
  · replace h := zifn c1 h
    refine aw_iload_n X 1 dX5_curtainsRead_66 rfl ?_
    exact aw_iret X E rfl dX5_curtainsRead_67 h
set_option maxRecDepth 100000 in
theorem m_X5_curtainsRead {l : Launch} {g : zG} {Q : Option zv → zI → zL → Prop} {I : zI} {L : zL}   (h : ∀ k : zK, kl k = l → zX k g cX5_curtainsRead RX5 4 (some .int) 6 → zE k g Q → (AW k g 4 I L 4 [(0, vR 59), (1, vI 0), (2, vI 0)] [])) : Call l g 6 M_X5_curtainsRead [vR 59] I L Q := by
  refine aw_entry (by decide) (Nat.le_of_ble_eq_true rfl) (fun k hk (X : zX k g cX5_curtainsRead RX5 4 (some .int) 6) E => ?_)
  show AW k g 4 I L 0 [(0, vR 59)] []
  replace h := h k hk X E
  subst hk
  refine aw_iconst (v := 0) X dX5_curtainsRead_0 (by decide) ?_
  refine aw_istore_n X dX5_curtainsRead_1 (by decide) rfl ?_
  refine aw_iconst (v := 0) X dX5_curtainsRead_2 (by decide) ?_
  refine aw_istore_n X dX5_curtainsRead_3 (by decide) rfl ?_
  refine aw_perm (ks9 := [(0, vR 59), (1, vI 0), (2, vI 0)]) [2, 1, 0] rfl ?_
  exact h
set_option maxRecDepth 100000 in
theorem s_X5_readAllHours_56 {k : zK} {g : zG} {Q : Option zv → zI → zL → Prop} {I : zI} {L : zL} {y4 : Int32}  (X : zX k g cX5_readAllHours RX5 5 none 4) (E : zE k g Q) (h : if y4 < 25 then (k_X4_readingOf I 2 (v_X1_frosted I 60) ∧ (vp_in y4 25 ∧ ((∀ I4 : zI, I4 = (zs I 62 y4.toNatClampNeg (v_X4_readingOf I 2 (v_X1_frosted I 60))) → Call (kl k) g 2 M_X1_meltBy [vR 60, vI (v_X1_melting I4 60 y4 (I4 2 6))] I4 L (zn fun I5 L5 => AW k g 5 I5 L5 56 [(0, vR 59), (4, vI (y4 + 1))] []))))) else (Q none I L)) : AW k g 5 I L 56 [(0, vR 59), (4, vI y4)] [] := by
  refine aw_iload X 1 dX5_readAllHours_56 rfl ?_
  refine aw_aload_n X 0 dX5_readAllHours_58 rfl ?_
  refine aw_getR X zf_RX5_22 rfl zs_59 zr_59_2 dX5_readAllHours_59 ?_
  refine aw_alen (v := 25) X zs_62 (by decide) (by decide) dX5_readAllHours_62 ?_
  refine aw_icmp_gen X 116 dX5_readAllHours_63 rfl (fun c1 => ?_) (fun c1 => ?_)
  · replace h := zifp c1 h
    refine aw_aload_n X 0 dX5_readAllHours_66 rfl ?_
    refine aw_getR X zf_RX5_22 rfl zs_59 zr_59_2 dX5_readAllHours_67 ?_
    refine aw_iload X 1 dX5_readAllHours_70 rfl ?_
    refine aw_aload_n X 0 dX5_readAllHours_72 rfl ?_
    refine aw_getR X zf_RX5_9 rfl zs_59 zr_59_0 dX5_readAllHours_73 ?_
    refine aw_aload_n X 0 dX5_readAllHours_76 rfl ?_
    refine aw_getR X zf_RX5_18 rfl zs_59 zr_59_1 dX5_readAllHours_77 ?_
    refine aw_pV X (as := []) mf_X1_frosted zw_715 (p_X1_frosted zs_60) zs_60 rfl rfl (by decide) (Nat.le_of_ble_eq_true rfl) dX5_readAllHours_80 ?_
    have n2 := h.1
    replace h := h.2
    refine aw_pV X (as := [vI (v_X1_frosted I 60)]) mf_X4_readingOf zw_751 (p_X4_readingOf zs_2 n2) zs_2 rfl rfl (by decide) (Nat.le_of_ble_eq_true rfl) dX5_readAllHours_83 ?_
    have n3 := h.1
    replace h := h.2
    refine aw_iastj (j := y4.toNatClampNeg) X zs_62 n3 rfl dX5_readAllHours_86 ?_
    refine aw_aload_n X 0 dX5_readAllHours_87 rfl ?_
    refine aw_nameI (fun I4 e4 => ?_)
    replace h := h I4 e4
    refine aw_getR X zf_RX5_18 rfl zs_59 zr_59_1 dX5_readAllHours_88 ?_
    refine aw_aload_n X 0 dX5_readAllHours_91 rfl ?_
    refine aw_getR X zf_RX5_18 rfl zs_59 zr_59_1 dX5_readAllHours_92 ?_
    refine aw_iload X 1 dX5_readAllHours_95 rfl ?_
    refine aw_aload_n X 0 dX5_readAllHours_97 rfl ?_
    refine aw_getR X zf_RX5_9 rfl zs_59 zr_59_0 dX5_readAllHours_98 ?_
    refine aw_getI X zf_RX5_74 rfl zs_2 dX5_readAllHours_101 ?_
    refine aw_pV X (as := [vI y4, vI (I4 2 6)]) mf_X1_melting zw_752 (p_X1_melting zs_60) zs_60 rfl rfl (by decide) (Nat.le_of_ble_eq_true rfl) dX5_readAllHours_104 ?_
    refine aw_callV X (as := [vI (v_X1_melting I4 60 y4 (I4 2 6))]) mf_X1_meltBy zw_753 h zs_60 rfl rfl (by decide) (Nat.le_of_ble_eq_true rfl) dX5_readAllHours_107 (fun v I5 L5 h => ?_)
    obtain ⟨rfl, h⟩ := h
    refine aw_iinc (v := y4 + 1) X 1 dX5_readAllHours_110 rfl rfl (by decide) rfl ?_
    refine aw_goto X 56 dX5_readAllHours_113 rfl ?_
    refine aw_perm (ks9 := [(0, vR 59), (4, vI (y4 + 1))]) [1, 0] rfl ?_
    exact h
  · replace h := zifn c1 h
    exact aw_vret X E rfl dX5_readAllHours_116 h
set_option maxRecDepth 100000 in
theorem m_X5_readAllHours {l : Launch} {g : zG} {Q : Option zv → zI → zL → Prop} {I : zI} {L : zL} {a1 : Nat} {a2 : Int32}  (h : ∀ k : zK, kl k = l → zX k g cX5_readAllHours RX5 5 none 4 → zE k g Q → (Call (kl k) g 1 M_X1_takeGlass [vR 60, vR a1] I L (zn fun I1 L1 => Call (kl k) g 3 M_X1_freezeWith [vR 60, vI (v_X4_cellsOf I1 2 a2), vI (v_X1_sharpness I1 60 (I1 2 4) (I1 2 5)), vI (I1 2 5)] I1 L1 (zn fun I2 L2 => AW k g 5 I2 L2 56 [(0, vR 59), (4, vI 0)] [])))) : Call l g 4 M_X5_readAllHours [vR 59, vR a1, vI a2] I L Q := by
  refine aw_entry (by decide) (Nat.le_of_ble_eq_true rfl) (fun k hk (X : zX k g cX5_readAllHours RX5 5 none 4) E => ?_)
  show AW k g 5 I L 0 [(0, vR 59), (1, vR a1), (2, vI a2)] []
  replace h := h k hk X E
  subst hk
  refine aw_aload_n X 0 dX5_readAllHours_0 rfl ?_
  refine aw_getR X zf_RX5_18 rfl zs_59 zr_59_1 dX5_readAllHours_1 ?_
  refine aw_aload_n X 1 dX5_readAllHours_4 rfl ?_
  refine aw_callV X (as := [vR a1]) mf_X1_takeGlass zw_666 h zs_60 rfl rfl (by decide) (Nat.le_of_ble_eq_true rfl) dX5_readAllHours_5 (fun v I1 L1 h => ?_)
  obtain ⟨rfl, h⟩ := h
  refine aw_aload_n X 0 dX5_readAllHours_8 rfl ?_
  refine aw_getR X zf_RX5_18 rfl zs_59 zr_59_1 dX5_readAllHours_9 ?_
  refine aw_aload_n X 0 dX5_readAllHours_12 rfl ?_
  refine aw_getR X zf_RX5_9 rfl zs_59 zr_59_0 dX5_readAllHours_13 ?_
  refine aw_getI X zf_RX5_51 rfl zs_2 dX5_readAllHours_16 ?_
  refine aw_aload_n X 0 dX5_readAllHours_19 rfl ?_
  refine aw_getR X zf_RX5_9 rfl zs_59 zr_59_0 dX5_readAllHours_20 ?_
  refine aw_getI X zf_RX5_60 rfl zs_2 dX5_readAllHours_23 ?_
  refine aw_pV X (as := [vI (I1 2 4), vI (I1 2 5)]) mf_X1_sharpness zw_671 (p_X1_sharpness zs_60) zs_60 rfl rfl (by decide) (Nat.le_of_ble_eq_true rfl) dX5_readAllHours_26 ?_
  refine aw_istore_n X dX5_readAllHours_29 (by decide) rfl ?_
  refine aw_aload_n X 1 dX5_readAllHours_30 rfl ?_
  refine aw_getR X zf_RX5_18 rfl zs_59 zr_59_1 dX5_readAllHours_31 ?_
  refine aw_aload_n X 1 dX5_readAllHours_34 rfl ?_
  refine aw_getR X zf_RX5_9 rfl zs_59 zr_59_0 dX5_readAllHours_35 ?_
  refine aw_iload_n X 3 dX5_readAllHours_38 rfl ?_
  refine aw_pV X (as := [vI a2]) mf_X4_cellsOf zw_672 (p_X4_cellsOf zs_2) zs_2 rfl rfl (by decide) (Nat.le_of_ble_eq_true rfl) dX5_readAllHours_39 ?_
  refine aw_iload_n X 0 dX5_readAllHours_42 rfl ?_
  refine aw_aload_n X 1 dX5_readAllHours_43 rfl ?_
  refine aw_getR X zf_RX5_9 rfl zs_59 zr_59_0 dX5_readAllHours_44 ?_
  refine aw_getI X zf_RX5_60 rfl zs_2 dX5_readAllHours_47 ?_
  refine aw_callV X (as := [vI (v_X4_cellsOf I1 2 a2), vI (v_X1_sharpness I1 60 (I1 2 4) (I1 2 5)), vI (I1 2 5)]) mf_X1_freezeWith zw_673 h zs_60 rfl rfl (by decide) (Nat.le_of_ble_eq_true rfl) dX5_readAllHours_50 (fun v I2 L2 h => ?_)
  obtain ⟨rfl, h⟩ := h
  refine aw_iconst (v := 0) X dX5_readAllHours_53 (by decide) ?_
  refine aw_istore X dX5_readAllHours_54 (by decide) rfl ?_
  refine aw_perm (ks9 := [(0, vR 59), (4, vI 0)]) [2, 0] rfl ?_
  exact h
set_option maxRecDepth 100000 in
theorem s_X5_firstHourAs_9 {k : zK} {g : zG} {Q : Option zv → zI → zL → Prop} {I : zI} {L : zL} {y3 : Int32} {y4 : Int32}  (X : zX k g cX5_firstHourAs RX5 5 (some .int) 5) (E : zE k g Q) (h : if y4 < 25 then (vp_in y4 25 ∧ (if (I 62 y4.toNatClampNeg) = y3 then (Q (some (vI y4)) I L) else (AW k g 5 I L 9 [(0, vR 59), (3, vI y3), (4, vI (y4 + 1))] []))) else (Q (some (vI (-1))) I L)) : AW k g 5 I L 9 [(0, vR 59), (3, vI y3), (4, vI y4)] [] := by
  refine aw_iload X 2 dX5_firstHourAs_9 rfl ?_
  refine aw_aload_n X 0 dX5_firstHourAs_11 rfl ?_
  refine aw_getR X zf_RX5_22 rfl zs_59 zr_59_2 dX5_firstHourAs_12 ?_
  refine aw_alen (v := 25) X zs_62 (by decide) (by decide) dX5_firstHourAs_15 ?_
  refine aw_icmp_gen X 39 dX5_firstHourAs_16 rfl (fun c1 => ?_) (fun c1 => ?_)
  · replace h := zifp c1 h
    refine aw_aload_n X 0 dX5_firstHourAs_19 rfl ?_
    refine aw_getR X zf_RX5_22 rfl zs_59 zr_59_2 dX5_firstHourAs_20 ?_
    refine aw_iload X 2 dX5_firstHourAs_23 rfl ?_
    have n2 := h.1
    replace h := h.2
    refine aw_ialdj (j := y4.toNatClampNeg) X zs_62 n2 rfl dX5_firstHourAs_25 ?_
    refine aw_iload_n X 1 dX5_firstHourAs_26 rfl ?_
    refine aw_icmp_ne X 33 dX5_firstHourAs_27 rfl (fun c3 => ?_) (fun c3 => ?_)
    · replace h := zifn c3 h
      refine aw_iinc (v := y4 + 1) X 2 dX5_firstHourAs_33 rfl rfl (by decide) rfl ?_
      refine aw_goto X 9 dX5_firstHourAs_36 rfl ?_
      refine aw_perm (ks9 := [(0, vR 59), (3, vI y3), (4, vI (y4 + 1))]) [1, 2, 0] rfl ?_
      exact h
    · replace h := zifp c3 h
      refine aw_iload X 2 dX5_firstHourAs_30 rfl ?_
      exact aw_iret X E rfl dX5_firstHourAs_32 h
  · replace h := zifn c1 h
    refine aw_iconst (v := (-1)) X dX5_firstHourAs_39 (by decide) ?_
    exact aw_iret X E rfl dX5_firstHourAs_40 h
set_option maxRecDepth 100000 in
theorem m_X5_firstHourAs {l : Launch} {g : zG} {Q : Option zv → zI → zL → Prop} {I : zI} {L : zL} {a1 : Nat} {a2 : Int32} {a3 : Int32}  (h : ∀ k : zK, kl k = l → zX k g cX5_firstHourAs RX5 5 (some .int) 5 → zE k g Q → (Call (kl k) g 4 M_X5_readAllHours [vR 59, vR a1, vI a2] I L (zn fun I1 L1 => AW k g 5 I1 L1 9 [(0, vR 59), (3, vI a3), (4, vI 0)] []))) : Call l g 5 M_X5_firstHourAs [vR 59, vR a1, vI a2, vI a3] I L Q := by
  refine aw_entry (by decide) (Nat.le_of_ble_eq_true rfl) (fun k hk (X : zX k g cX5_firstHourAs RX5 5 (some .int) 5) E => ?_)
  show AW k g 5 I L 0 [(0, vR 59), (1, vR a1), (2, vI a2), (3, vI a3)] []
  replace h := h k hk X E
  subst hk
  refine aw_aload_n X 0 dX5_firstHourAs_0 rfl ?_
  refine aw_aload_n X 1 dX5_firstHourAs_1 rfl ?_
  refine aw_iload_n X 2 dX5_firstHourAs_2 rfl ?_
  refine aw_callV X (as := [vR a1, vI a2]) mf_X5_readAllHours zw_747 h zs_59 rfl rfl (by decide) (Nat.le_of_ble_eq_true rfl) dX5_firstHourAs_3 (fun v I1 L1 h => ?_)
  obtain ⟨rfl, h⟩ := h
  refine aw_iconst (v := 0) X dX5_firstHourAs_6 (by decide) ?_
  refine aw_istore X dX5_firstHourAs_7 (by decide) rfl ?_
  refine aw_perm (ks9 := [(0, vR 59), (3, vI a3), (4, vI 0)]) [1, 4, 0] rfl ?_
  exact h
set_option maxRecDepth 100000 in
theorem s_X5_takeDearest_6 {k : zK} {g : zG} {Q : Option zv → zI → zL → Prop} {I : zI} {L : zL} {y1 : Int32} {y2 : Int32} {y3 : Int32}  (X : zX k g cX5_takeDearest RX5 4 (some .int) 1) (E : zE k g Q) (h : if y3 < 8 then (vp_in y3 8 ∧ (AW k g 4 I L 6 [(0, vR 59), (1, vI (if y2 < (I 64 y3.toNatClampNeg) then y3 else y1)), (2, vI (if y2 < (I 64 y3.toNatClampNeg) then I 64 y3.toNatClampNeg else y2)), (3, vI (y3 + 1))] [])) else (if y1 < 0 then (Q (some (vI y2)) I L) else (if y1 < 8 then (Q (some (vI y2)) (zs I 64 y1.toNatClampNeg 0) L) else (Q (some (vI y2)) I L)))) : AW k g 4 I L 6 [(0, vR 59), (1, vI y1), (2, vI y2), (3, vI y3)] [] := by
  refine aw_iload_n X 3 dX5_takeDearest_6 rfl ?_
  refine aw_aload_n X 0 dX5_takeDearest_7 rfl ?_
  refine aw_getR X zf_RX5_29 rfl zs_59 zr_59_4 dX5_takeDearest_8 ?_
  refine aw_alen (v := 8) X zs_64 (by decide) (by decide) dX5_takeDearest_11 ?_
  refine aw_icmp_gen X 40 dX5_takeDearest_12 rfl (fun c1 => ?_) (fun c1 => ?_)
  · replace h := zifp c1 h
    refine aw_aload_n X 0 dX5_takeDearest_15 rfl ?_
    refine aw_getR X zf_RX5_29 rfl zs_59 zr_59_4 dX5_takeDearest_16 ?_
    refine aw_iload_n X 3 dX5_takeDearest_19 rfl ?_
    have n2 := h.1
    replace h := h.2
    refine aw_ialdj (j := y3.toNatClampNeg) X zs_64 n2 rfl dX5_takeDearest_20 ?_
    refine aw_iload_n X 2 dX5_takeDearest_21 rfl ?_
    have hJ4 : ∀ (w1 : Int32) (w2 : Int32), w1 = (if y2 < (I 64 y3.toNatClampNeg) then y3 else y1) → w2 = (if y2 < (I 64 y3.toNatClampNeg) then I 64 y3.toNatClampNeg else y2) → AW k g 4 I L 34 [(0, vR 59), (1, vI w1), (2, vI w2), (3, vI y3)] [] := by
      intro w1 w2 q1 q2
      subst q1
      subst q2
      refine aw_iinc (v := y3 + 1) X 3 dX5_takeDearest_34 rfl rfl (by decide) rfl ?_
      refine aw_goto X 6 dX5_takeDearest_37 rfl ?_
      refine aw_perm (ks9 := [(0, vR 59), (1, vI (if y2 < (I 64 y3.toNatClampNeg) then y3 else y1)), (2, vI (if y2 < (I 64 y3.toNatClampNeg) then I 64 y3.toNatClampNeg else y2)), (3, vI (y3 + 1))]) [1, 2, 3, 0] rfl ?_
      exact h
    refine aw_icmp_len X 34 dX5_takeDearest_22 rfl (fun c3 => ?_) (fun c3 => ?_)
    · refine aw_aload_n X 0 dX5_takeDearest_25 rfl ?_
      refine aw_getR X zf_RX5_29 rfl zs_59 zr_59_4 dX5_takeDearest_26 ?_
      refine aw_iload_n X 3 dX5_takeDearest_29 rfl ?_
      refine aw_ialdj (j := y3.toNatClampNeg) X zs_64 n2 rfl dX5_takeDearest_30 ?_
      refine aw_istore_n X dX5_takeDearest_31 (by decide) rfl ?_
      refine aw_iload_n X 3 dX5_takeDearest_32 rfl ?_
      refine aw_istore_n X dX5_takeDearest_33 (by decide) rfl ?_
      refine aw_perm (ks9 := [(0, vR 59), (1, vI y3), (2, vI (I 64 y3.toNatClampNeg)), (3, vI y3)]) [2, 0, 1, 3] rfl ?_
      exact hJ4 _ _ (if_pos c3).symm (if_pos c3).symm
    · refine aw_perm (ks9 := [(0, vR 59), (1, vI y1), (2, vI y2), (3, vI y3)]) [0, 1, 2, 3] rfl ?_
      exact hJ4 _ _ (if_neg c3).symm (if_neg c3).symm
  · replace h := zifn c1 h
    refine aw_iload_n X 1 dX5_takeDearest_40 rfl ?_
    refine aw_if_lt X 60 dX5_takeDearest_41 rfl (fun c5 => ?_) (fun c5 => ?_)
    · replace h := zifp c5 h
      refine aw_iload_n X 2 dX5_takeDearest_60 rfl ?_
      exact aw_iret X E rfl dX5_takeDearest_61 h
    · replace h := zifn c5 h
      refine aw_iload_n X 1 dX5_takeDearest_44 rfl ?_
      refine aw_aload_n X 0 dX5_takeDearest_45 rfl ?_
      refine aw_getR X zf_RX5_29 rfl zs_59 zr_59_4 dX5_takeDearest_46 ?_
      refine aw_alen (v := 8) X zs_64 (by decide) (by decide) dX5_takeDearest_49 ?_
      refine aw_icmp_gen X 60 dX5_takeDearest_50 rfl (fun c6 => ?_) (fun c6 => ?_)
      · replace h := zifp c6 h
        refine aw_aload_n X 0 dX5_takeDearest_53 rfl ?_
        refine aw_getR X zf_RX5_29 rfl zs_59 zr_59_4 dX5_takeDearest_54 ?_
        refine aw_iload_n X 1 dX5_takeDearest_57 rfl ?_
        refine aw_iconst (v := 0) X dX5_takeDearest_58 (by decide) ?_
        refine aw_iastj (j := y1.toNatClampNeg) X zs_64 (zinof c5 c6 (by decide)) rfl dX5_takeDearest_59 ?_
        refine aw_iload_n X 2 dX5_takeDearest_60 rfl ?_
        exact aw_iret X E rfl dX5_takeDearest_61 h
      · replace h := zifn c6 h
        refine aw_iload_n X 2 dX5_takeDearest_60 rfl ?_
        exact aw_iret X E rfl dX5_takeDearest_61 h
set_option maxRecDepth 100000 in
theorem m_X5_takeDearest {l : Launch} {g : zG} {Q : Option zv → zI → zL → Prop} {I : zI} {L : zL}   (h : ∀ k : zK, kl k = l → zX k g cX5_takeDearest RX5 4 (some .int) 1 → zE k g Q → (AW k g 4 I L 6 [(0, vR 59), (1, vI (-1)), (2, vI 0), (3, vI 0)] [])) : Call l g 1 M_X5_takeDearest [vR 59] I L Q := by
  refine aw_entry (by decide) (Nat.le_of_ble_eq_true rfl) (fun k hk (X : zX k g cX5_takeDearest RX5 4 (some .int) 1) E => ?_)
  show AW k g 4 I L 0 [(0, vR 59)] []
  replace h := h k hk X E
  subst hk
  refine aw_iconst (v := (-1)) X dX5_takeDearest_0 (by decide) ?_
  refine aw_istore_n X dX5_takeDearest_1 (by decide) rfl ?_
  refine aw_iconst (v := 0) X dX5_takeDearest_2 (by decide) ?_
  refine aw_istore_n X dX5_takeDearest_3 (by decide) rfl ?_
  refine aw_iconst (v := 0) X dX5_takeDearest_4 (by decide) ?_
  refine aw_istore_n X dX5_takeDearest_5 (by decide) rfl ?_
  refine aw_perm (ks9 := [(0, vR 59), (1, vI (-1)), (2, vI 0), (3, vI 0)]) [3, 2, 1, 0] rfl ?_
  exact h
set_option maxRecDepth 100000 in
theorem s_X5_worthOf_27 {k : zK} {g : zG} {Q : Option zv → zI → zL → Prop} {I : zI} {L : zL} {y1 : Nat} {y2 : Int32} {y3 : Int32}  (X : zX k g cX5_worthOf RX5 4 (some .int) 5) (E : zE k g Q) (h : if y3 < 25 then (vp_in y3 25 ∧ (zsh y1 = (11, 6) ∧ (AW k g 4 I L 27 [(0, vR 59), (1, vR y1), (2, vI (y2 + (if (I 62 y3.toNatClampNeg) = (I y1 3) then 1 else (0 : Int32)))), (3, vI (y3 + 1))] []))) else (Q (some (vI y2)) I L)) : AW k g 4 I L 27 [(0, vR 59), (1, vR y1), (2, vI y2), (3, vI y3)] [] := by
  refine aw_iload_n X 3 dX5_worthOf_27 rfl ?_
  refine aw_aload_n X 0 dX5_worthOf_28 rfl ?_
  refine aw_getR X zf_RX5_22 rfl zs_59 zr_59_2 dX5_worthOf_29 ?_
  refine aw_alen (v := 25) X zs_62 (by decide) (by decide) dX5_worthOf_32 ?_
  refine aw_icmp_gen X 63 dX5_worthOf_33 rfl (fun c1 => ?_) (fun c1 => ?_)
  · replace h := zifp c1 h
    refine aw_iload_n X 2 dX5_worthOf_36 rfl ?_
    refine aw_aload_n X 0 dX5_worthOf_37 rfl ?_
    refine aw_getR X zf_RX5_22 rfl zs_59 zr_59_2 dX5_worthOf_38 ?_
    refine aw_iload_n X 3 dX5_worthOf_41 rfl ?_
    have n2 := h.1
    replace h := h.2
    refine aw_ialdj (j := y3.toNatClampNeg) X zs_62 n2 rfl dX5_worthOf_42 ?_
    refine aw_aload_n X 1 dX5_worthOf_43 rfl ?_
    have n3 := h.1
    replace h := h.2
    refine aw_getI X zf_RX5_108 rfl n3 dX5_worthOf_44 ?_
    have hJ5 : ∀ (w1 : Int32), w1 = (if (I 62 y3.toNatClampNeg) = (I y1 3) then 1 else (0 : Int32)) → AW k g 4 I L 55 [(0, vR 59), (1, vR y1), (3, vI y3)] [vI w1, vI y2] := by
      intro w1 q1
      subst q1
      refine aw_iadd X dX5_worthOf_55 ?_
      refine aw_istore_n X dX5_worthOf_56 (by decide) rfl ?_
      refine aw_iinc (v := y3 + 1) X 3 dX5_worthOf_57 rfl rfl (by decide) rfl ?_
      refine aw_goto X 27 dX5_worthOf_60 rfl ?_
      refine aw_perm (ks9 := [(0, vR 59), (1, vR y1), (2, vI (y2 + (if (I 62 y3.toNatClampNeg) = (I y1 3) then 1 else (0 : Int32)))), (3, vI (y3 + 1))]) [2, 3, 1, 0] rfl ?_
      exact h
    refine aw_icmp_ne X 54 dX5_worthOf_47 rfl (fun c4 => ?_) (fun c4 => ?_)
    · refine aw_iconst (v := 0) X dX5_worthOf_54 (by decide) ?_
      refine aw_perm (ks9 := [(0, vR 59), (1, vR y1), (3, vI y3)]) [0, 1, 3] rfl ?_
      exact hJ5 _ (if_neg c4).symm
    · refine aw_iconst (v := 1) X dX5_worthOf_50 (by decide) ?_
      refine aw_goto X 55 dX5_worthOf_51 rfl ?_
      refine aw_perm (ks9 := [(0, vR 59), (1, vR y1), (3, vI y3)]) [0, 1, 3] rfl ?_
      exact hJ5 _ (if_pos c4).symm
  · replace h := zifn c1 h
    refine aw_iload_n X 2 dX5_worthOf_63 rfl ?_
    exact aw_iret X E rfl dX5_worthOf_64 h
set_option maxRecDepth 100000 in
theorem m_X5_worthOf {l : Launch} {g : zG} {Q : Option zv → zI → zL → Prop} {I : zI} {L : zL} {a1 : Nat}  (h : ∀ k : zK, kl k = l → zX k g cX5_worthOf RX5 4 (some .int) 5 → zE k g Q → (if a1 = 0 then (Q (some (vI 0)) I L) else (zsh a1 = (11, 6) ∧ (if (I a1 3) = (-1) then (Q (some (vI 0)) I L) else (Call (kl k) g 4 M_X5_readAllHours [vR 59, vR a1, vI (I a1 3)] I L (zn fun I4 L4 => AW k g 4 I4 L4 27 [(0, vR 59), (1, vR a1), (2, vI 0), (3, vI 0)] [])))))) : Call l g 5 M_X5_worthOf [vR 59, vR a1] I L Q := by
  refine aw_entry (by decide) (Nat.le_of_ble_eq_true rfl) (fun k hk (X : zX k g cX5_worthOf RX5 4 (some .int) 5) E => ?_)
  show AW k g 4 I L 0 [(0, vR 59), (1, vR a1)] []
  replace h := h k hk X E
  subst hk
  refine aw_aload_n X 1 dX5_worthOf_0 rfl ?_
  refine aw_ifnull X 12 dX5_worthOf_1 rfl (fun c1 => ?_) (fun c1 => ?_)
  · replace h := zifp c1 h
    refine aw_iconst (v := 0) X dX5_worthOf_12 (by decide) ?_
    exact aw_iret X E rfl dX5_worthOf_13 h
  · replace h := zifn c1 h
    refine aw_aload_n X 1 dX5_worthOf_4 rfl ?_
    have n2 := h.1
    replace h := h.2
    refine aw_getI X zf_RX5_108 rfl n2 dX5_worthOf_5 ?_
    refine aw_iconst (v := (-1)) X dX5_worthOf_8 (by decide) ?_
    refine aw_icmp_ne X 14 dX5_worthOf_9 rfl (fun c3 => ?_) (fun c3 => ?_)
    · replace h := zifn c3 h
      refine aw_aload_n X 0 dX5_worthOf_14 rfl ?_
      refine aw_aload_n X 1 dX5_worthOf_15 rfl ?_
      refine aw_aload_n X 1 dX5_worthOf_16 rfl ?_
      refine aw_getI X zf_RX5_108 rfl n2 dX5_worthOf_17 ?_
      refine aw_callV X (as := [vR a1, vI (I a1 3)]) mf_X5_readAllHours zw_747 h zs_59 rfl rfl (by decide) (Nat.le_of_ble_eq_true rfl) dX5_worthOf_20 (fun v I4 L4 h => ?_)
      obtain ⟨rfl, h⟩ := h
      refine aw_iconst (v := 0) X dX5_worthOf_23 (by decide) ?_
      refine aw_istore_n X dX5_worthOf_24 (by decide) rfl ?_
      refine aw_iconst (v := 0) X dX5_worthOf_25 (by decide) ?_
      refine aw_istore_n X dX5_worthOf_26 (by decide) rfl ?_
      refine aw_perm (ks9 := [(0, vR 59), (1, vR a1), (2, vI 0), (3, vI 0)]) [2, 3, 1, 0] rfl ?_
      exact h
    · replace h := zifp c3 h
      refine aw_iconst (v := 0) X dX5_worthOf_12 (by decide) ?_
      exact aw_iret X E rfl dX5_worthOf_13 h
set_option maxRecDepth 100000 in
theorem s_X5_firstPaperLead_2 {k : zK} {g : zG} {Q : Option zv → zI → zL → Prop} {I : zI} {L : zL} {y1 : Int32}  (X : zX k g cX5_firstPaperLead RX5 4 (some .int) 6) (E : zE k g Q) (h : if y1 < 8 then (Call (kl k) g 5 M_X5_worthOf [vR 59, vR (v_X4_paneAt I 2 y1)] I L (zi fun r2 I2 L2 => vp_in y1 8 ∧ (AW k g 4 (zs I2 64 y1.toNatClampNeg r2) L2 2 [(0, vR 59), (1, vI (y1 + 1))] []))) else (AW k g 4 I L 39 [(0, vR 59), (1, vI 0), (2, vI 0)] [])) : AW k g 4 I L 2 [(0, vR 59), (1, vI y1)] [] := by
  refine aw_iload_n X 1 dX5_firstPaperLead_2 rfl ?_
  refine aw_aload_n X 0 dX5_firstPaperLead_3 rfl ?_
  refine aw_getR X zf_RX5_29 rfl zs_59 zr_59_4 dX5_firstPaperLead_4 ?_
  refine aw_alen (v := 8) X zs_64 (by decide) (by decide) dX5_firstPaperLead_7 ?_
  refine aw_icmp_gen X 35 dX5_firstPaperLead_8 rfl (fun c1 => ?_) (fun c1 => ?_)
  · replace h := zifp c1 h
    refine aw_aload_n X 0 dX5_firstPaperLead_11 rfl ?_
    refine aw_getR X zf_RX5_29 rfl zs_59 zr_59_4 dX5_firstPaperLead_12 ?_
    refine aw_iload_n X 1 dX5_firstPaperLead_15 rfl ?_
    refine aw_aload_n X 0 dX5_firstPaperLead_16 rfl ?_
    refine aw_aload_n X 0 dX5_firstPaperLead_17 rfl ?_
    refine aw_getR X zf_RX5_9 rfl zs_59 zr_59_0 dX5_firstPaperLead_18 ?_
    refine aw_iload_n X 1 dX5_firstPaperLead_21 rfl ?_
    refine aw_pV X (as := [vI y1]) mf_X4_paneAt zw_762 (p_X4_paneAt zs_2) zs_2 rfl rfl (by decide) (Nat.le_of_ble_eq_true rfl) dX5_firstPaperLead_22 ?_
    refine aw_callV X (as := [vR (v_X4_paneAt I 2 y1)]) mf_X5_worthOf zw_888 h zs_59 rfl rfl (by decide) (Nat.le_of_ble_eq_true rfl) dX5_firstPaperLead_25 (fun v I2 L2 h => ?_)
    obtain ⟨r2, rfl, h⟩ := h
    have n3 := h.1
    replace h := h.2
    refine aw_iastj (j := y1.toNatClampNeg) X zs_64 n3 rfl dX5_firstPaperLead_28 ?_
    refine aw_iinc (v := y1 + 1) X 1 dX5_firstPaperLead_29 rfl rfl (by decide) rfl ?_
    refine aw_goto X 2 dX5_firstPaperLead_32 rfl ?_
    refine aw_perm (ks9 := [(0, vR 59), (1, vI (y1 + 1))]) [1, 0] rfl ?_
    exact h
  · replace h := zifn c1 h
    refine aw_iconst (v := 0) X dX5_firstPaperLead_35 (by decide) ?_
    refine aw_istore_n X dX5_firstPaperLead_36 (by decide) rfl ?_
    refine aw_iconst (v := 0) X dX5_firstPaperLead_37 (by decide) ?_
    refine aw_istore_n X dX5_firstPaperLead_38 (by decide) rfl ?_
    refine aw_perm (ks9 := [(0, vR 59), (1, vI 0), (2, vI 0)]) [2, 1, 0] rfl ?_
    exact h
set_option maxRecDepth 100000 in
theorem s_X5_firstPaperLead_39 {k : zK} {g : zG} {Q : Option zv → zI → zL → Prop} {I : zI} {L : zL} {y1 : Int32} {y2 : Int32}  (X : zX k g cX5_firstPaperLead RX5 4 (some .int) 6) (E : zE k g Q) (h : if y2 < 8 then (Call (kl k) g 1 M_X5_takeDearest [vR 59] I L (zi fun r2 I2 L2 => AW k g 4 I2 L2 39 [(0, vR 59), (1, vI (y1 + (if (jrem y2 2) = 0 then r2 else (-r2)))), (2, vI (y2 + 1))] [])) else (Q (some (vI y1)) I L)) : AW k g 4 I L 39 [(0, vR 59), (1, vI y1), (2, vI y2)] [] := by
  refine aw_iload_n X 2 dX5_firstPaperLead_39 rfl ?_
  refine aw_aload_n X 0 dX5_firstPaperLead_40 rfl ?_
  refine aw_getR X zf_RX5_29 rfl zs_59 zr_59_4 dX5_firstPaperLead_41 ?_
  refine aw_alen (v := 8) X zs_64 (by decide) (by decide) dX5_firstPaperLead_44 ?_
  refine aw_icmp_gen X 74 dX5_firstPaperLead_45 rfl (fun c1 => ?_) (fun c1 => ?_)
  · replace h := zifp c1 h
    refine aw_aload_n X 0 dX5_firstPaperLead_48 rfl ?_
    refine aw_callV X (as := []) mf_X5_takeDearest zw_892 h zs_59 rfl rfl (by decide) (Nat.le_of_ble_eq_true rfl) dX5_firstPaperLead_49 (fun v I2 L2 h => ?_)
    obtain ⟨r2, rfl, h⟩ := h
    refine aw_istore_n X dX5_firstPaperLead_52 (by decide) rfl ?_
    refine aw_iload_n X 2 dX5_firstPaperLead_53 rfl ?_
    refine aw_iload_n X 3 dX5_firstPaperLead_54 rfl ?_
    refine aw_iconst (v := 2) X dX5_firstPaperLead_55 (by decide) ?_
    refine aw_irem X dX5_firstPaperLead_56 (by decide) ?_
    have hJ4 : ∀ (w1 : Int32), w1 = (if (jrem y2 2) = 0 then r2 else (-r2)) → AW k g 4 I2 L2 66 [(0, vR 59), (2, vI y2)] [vI w1, vI y1] := by
      intro w1 q1
      subst q1
      refine aw_iadd X dX5_firstPaperLead_66 ?_
      refine aw_istore_n X dX5_firstPaperLead_67 (by decide) rfl ?_
      refine aw_iinc (v := y2 + 1) X 2 dX5_firstPaperLead_68 rfl rfl (by decide) rfl ?_
      refine aw_goto X 39 dX5_firstPaperLead_71 rfl ?_
      refine aw_perm (ks9 := [(0, vR 59), (1, vI (y1 + (if (jrem y2 2) = 0 then r2 else (-r2)))), (2, vI (y2 + 1))]) [2, 1, 0] rfl ?_
      exact h
    refine aw_if_ne X 64 dX5_firstPaperLead_57 rfl (fun c3 => ?_) (fun c3 => ?_)
    · refine aw_iload_n X 0 dX5_firstPaperLead_64 rfl ?_
      refine aw_ineg X dX5_firstPaperLead_65 ?_
      refine aw_perm (ks9 := [(0, vR 59), (2, vI y2)]) [1, 3] rfl ?_
      exact hJ4 _ (if_neg c3).symm
    · refine aw_iload_n X 0 dX5_firstPaperLead_60 rfl ?_
      refine aw_goto X 66 dX5_firstPaperLead_61 rfl ?_
      refine aw_perm (ks9 := [(0, vR 59), (2, vI y2)]) [1, 3] rfl ?_
      exact hJ4 _ (if_pos c3).symm
  · replace h := zifn c1 h
    refine aw_iload_n X 1 dX5_firstPaperLead_74 rfl ?_
    exact aw_iret X E rfl dX5_firstPaperLead_75 h
set_option maxRecDepth 100000 in
theorem m_X5_firstPaperLead {l : Launch} {g : zG} {Q : Option zv → zI → zL → Prop} {I : zI} {L : zL}   (h : ∀ k : zK, kl k = l → zX k g cX5_firstPaperLead RX5 4 (some .int) 6 → zE k g Q → (AW k g 4 I L 2 [(0, vR 59), (1, vI 0)] [])) : Call l g 6 M_X5_firstPaperLead [vR 59] I L Q := by
  refine aw_entry (by decide) (Nat.le_of_ble_eq_true rfl) (fun k hk (X : zX k g cX5_firstPaperLead RX5 4 (some .int) 6) E => ?_)
  show AW k g 4 I L 0 [(0, vR 59)] []
  replace h := h k hk X E
  subst hk
  refine aw_iconst (v := 0) X dX5_firstPaperLead_0 (by decide) ?_
  refine aw_istore_n X dX5_firstPaperLead_1 (by decide) rfl ?_
  refine aw_perm (ks9 := [(0, vR 59), (1, vI 0)]) [1, 0] rfl ?_
  exact h
set_option maxRecDepth 100000 in
theorem m_X5_iceAt {l : Launch} {g : zG} {Q : Option zv → zI → zL → Prop} {I : zI} {L : zL} {a1 : Nat} {a2 : Int32} {a3 : Int32} {a4 : Int32}  (h : Call l g 5 M_X5_shapeAt [vR 59, vR a1, vI a2, vI a3] I L (zi fun r1 I1 L1 => Q (some (vI (v_X1_iceOn I1 60 a4))) I1 L1)) : Call l g 6 M_X5_iceAt [vR 59, vR a1, vI a2, vI a3, vI a4] I L Q := by
  refine aw_entry (by decide) (Nat.le_of_ble_eq_true rfl) (fun k hk (X : zX k g cX5_iceAt RX5 5 (some .int) 6) E => ?_)
  show AW k g 5 I L 0 [(0, vR 59), (1, vR a1), (2, vI a2), (3, vI a3), (4, vI a4)] []
  subst hk
  refine aw_aload_n X 0 dX5_iceAt_0 rfl ?_
  refine aw_aload_n X 1 dX5_iceAt_1 rfl ?_
  refine aw_iload_n X 2 dX5_iceAt_2 rfl ?_
  refine aw_iload_n X 3 dX5_iceAt_3 rfl ?_
  refine aw_callV X (as := [vR a1, vI a2, vI a3]) mf_X5_shapeAt zw_662 h zs_59 rfl rfl (by decide) (Nat.le_of_ble_eq_true rfl) dX5_iceAt_4 (fun v I1 L1 h => ?_)
  obtain ⟨r1, rfl, h⟩ := h
  refine aw_pop X dX5_iceAt_7 rfl ?_
  refine aw_aload_n X 0 dX5_iceAt_8 rfl ?_
  refine aw_getR X zf_RX5_18 rfl zs_59 zr_59_1 dX5_iceAt_9 ?_
  refine aw_iload X 4 dX5_iceAt_12 rfl ?_
  refine aw_pV X (as := [vI a4]) mf_X1_iceOn zw_716 (p_X1_iceOn zs_60) zs_60 rfl rfl (by decide) (Nat.le_of_ble_eq_true rfl) dX5_iceAt_14 ?_
  exact aw_iret X E rfl dX5_iceAt_17 h
set_option maxRecDepth 100000 in
theorem s_X5_lastHour_11 {k : zK} {g : zG} {Q : Option zv → zI → zL → Prop} {I : zI} {L : zL} {y2 : Int32} {y3 : Int32} {y4 : Int32}  (X : zX k g cX5_lastHour RX5 5 (some .int) 5) (E : zE k g Q) (h : if y4 < 25 then (vp_in y4 25 ∧ (if (I 62 y4.toNatClampNeg) = y2 then (AW k g 5 I L 11 [(0, vR 59), (2, vI y2), (3, vI y4), (4, vI (y4 + 1))] []) else (Q (some (vI y3)) I L))) else (Q (some (vI y3)) I L)) : AW k g 5 I L 11 [(0, vR 59), (2, vI y2), (3, vI y3), (4, vI y4)] [] := by
  refine aw_iload X 3 dX5_lastHour_11 rfl ?_
  refine aw_aload_n X 0 dX5_lastHour_13 rfl ?_
  refine aw_getR X zf_RX5_22 rfl zs_59 zr_59_2 dX5_lastHour_14 ?_
  refine aw_alen (v := 25) X zs_62 (by decide) (by decide) dX5_lastHour_17 ?_
  refine aw_icmp_gen X 41 dX5_lastHour_18 rfl (fun c1 => ?_) (fun c1 => ?_)
  · replace h := zifp c1 h
    refine aw_aload_n X 0 dX5_lastHour_21 rfl ?_
    refine aw_getR X zf_RX5_22 rfl zs_59 zr_59_2 dX5_lastHour_22 ?_
    refine aw_iload X 3 dX5_lastHour_25 rfl ?_
    have n2 := h.1
    replace h := h.2
    refine aw_ialdj (j := y4.toNatClampNeg) X zs_62 n2 rfl dX5_lastHour_27 ?_
    refine aw_iload_n X 1 dX5_lastHour_28 rfl ?_
    refine aw_icmp_ne X 41 dX5_lastHour_29 rfl (fun c3 => ?_) (fun c3 => ?_)
    · replace h := zifn c3 h
      refine aw_iload_n X 2 dX5_lastHour_41 rfl ?_
      exact aw_iret X E rfl dX5_lastHour_42 h
    · replace h := zifp c3 h
      refine aw_iload X 3 dX5_lastHour_32 rfl ?_
      refine aw_istore_n X dX5_lastHour_34 (by decide) rfl ?_
      refine aw_iinc (v := y4 + 1) X 3 dX5_lastHour_35 rfl rfl (by decide) rfl ?_
      refine aw_goto X 11 dX5_lastHour_38 rfl ?_
      refine aw_perm (ks9 := [(0, vR 59), (2, vI y2), (3, vI y4), (4, vI (y4 + 1))]) [2, 3, 1, 0] rfl ?_
      exact h
  · replace h := zifn c1 h
    refine aw_iload_n X 2 dX5_lastHour_41 rfl ?_
    exact aw_iret X E rfl dX5_lastHour_42 h
set_option maxRecDepth 100000 in
theorem m_X5_lastHour {l : Launch} {g : zG} {Q : Option zv → zI → zL → Prop} {I : zI} {L : zL} {a1 : Nat} {a2 : Int32}  (h : ∀ k : zK, kl k = l → zX k g cX5_lastHour RX5 5 (some .int) 5 → zE k g Q → (Call (kl k) g 4 M_X5_readAllHours [vR 59, vR a1, vI a2] I L (zn fun I1 L1 => AW k g 5 I1 L1 11 [(0, vR 59), (2, vI a2), (3, vI (-1)), (4, vI 0)] []))) : Call l g 5 M_X5_lastHour [vR 59, vR a1, vI a2] I L Q := by
  refine aw_entry (by decide) (Nat.le_of_ble_eq_true rfl) (fun k hk (X : zX k g cX5_lastHour RX5 5 (some .int) 5) E => ?_)
  show AW k g 5 I L 0 [(0, vR 59), (1, vR a1), (2, vI a2)] []
  replace h := h k hk X E
  subst hk
  refine aw_aload_n X 0 dX5_lastHour_0 rfl ?_
  refine aw_aload_n X 1 dX5_lastHour_1 rfl ?_
  refine aw_iload_n X 2 dX5_lastHour_2 rfl ?_
  refine aw_callV X (as := [vR a1, vI a2]) mf_X5_readAllHours zw_747 h zs_59 rfl rfl (by decide) (Nat.le_of_ble_eq_true rfl) dX5_lastHour_3 (fun v I1 L1 h => ?_)
  obtain ⟨rfl, h⟩ := h
  refine aw_iconst (v := (-1)) X dX5_lastHour_6 (by decide) ?_
  refine aw_istore_n X dX5_lastHour_7 (by decide) rfl ?_
  refine aw_iconst (v := 0) X dX5_lastHour_8 (by decide) ?_
  refine aw_istore X dX5_lastHour_9 (by decide) rfl ?_
  refine aw_perm (ks9 := [(0, vR 59), (2, vI a2), (3, vI (-1)), (4, vI 0)]) [2, 4, 1, 0] rfl ?_
  exact h
set_option maxRecDepth 100000 in
theorem s_X5_leastCold_11 {k : zK} {g : zG} {Q : Option zv → zI → zL → Prop} {I : zI} {L : zL} {y2 : Int32} {y3 : Int32} {y4 : Int32}  (X : zX k g cX5_leastCold RX5 5 (some .int) 5) (E : zE k g Q) (h : if 40 < y4 then (Q (some (vI (-1))) I L) else (Call (kl k) g 4 M_X5_shapeOnGlass [vR 59, vI y2, vI y3, vI y4] I L (zi fun r2 I2 L2 => k_X4_readingOf I2 2 r2 ∧ (if (v_X4_readingOf I2 2 r2) = y2 then (Q (some (vI y4)) I2 L2) else (AW k g 5 I2 L2 11 [(0, vR 59), (2, vI y2), (3, vI y3), (4, vI (y4 + 1))] []))))) : AW k g 5 I L 11 [(0, vR 59), (2, vI y2), (3, vI y3), (4, vI y4)] [] := by
  refine aw_iload X 3 dX5_leastCold_11 rfl ?_
  refine aw_bipush (v := 40) X dX5_leastCold_13 (by decide) ?_
  refine aw_icmp_gt X 46 dX5_leastCold_15 rfl (fun c1 => ?_) (fun c1 => ?_)
  · replace h := zifp c1 h
    refine aw_iconst (v := (-1)) X dX5_leastCold_46 (by decide) ?_
    exact aw_iret X E rfl dX5_leastCold_47 h
  · replace h := zifn c1 h
    refine aw_aload_n X 0 dX5_leastCold_18 rfl ?_
    refine aw_getR X zf_RX5_9 rfl zs_59 zr_59_0 dX5_leastCold_19 ?_
    refine aw_aload_n X 0 dX5_leastCold_22 rfl ?_
    refine aw_iload_n X 1 dX5_leastCold_23 rfl ?_
    refine aw_iload_n X 2 dX5_leastCold_24 rfl ?_
    refine aw_iload X 3 dX5_leastCold_25 rfl ?_
    refine aw_callV X (as := [vI y2, vI y3, vI y4]) mf_X5_shapeOnGlass zw_667 h zs_59 rfl rfl (by decide) (Nat.le_of_ble_eq_true rfl) dX5_leastCold_27 (fun v I2 L2 h => ?_)
    obtain ⟨r2, rfl, h⟩ := h
    have n3 := h.1
    replace h := h.2
    refine aw_pV X (as := [vI r2]) mf_X4_readingOf zw_751 (p_X4_readingOf zs_2 n3) zs_2 rfl rfl (by decide) (Nat.le_of_ble_eq_true rfl) dX5_leastCold_30 ?_
    refine aw_iload_n X 1 dX5_leastCold_33 rfl ?_
    refine aw_icmp_ne X 40 dX5_leastCold_34 rfl (fun c4 => ?_) (fun c4 => ?_)
    · replace h := zifn c4 h
      refine aw_iinc (v := y4 + 1) X 3 dX5_leastCold_40 rfl rfl (by decide) rfl ?_
      refine aw_goto X 11 dX5_leastCold_43 rfl ?_
      refine aw_perm (ks9 := [(0, vR 59), (2, vI y2), (3, vI y3), (4, vI (y4 + 1))]) [1, 2, 3, 0] rfl ?_
      exact h
    · replace h := zifp c4 h
      refine aw_iload X 3 dX5_leastCold_37 rfl ?_
      exact aw_iret X E rfl dX5_leastCold_39 h
set_option maxRecDepth 100000 in
theorem m_X5_leastCold {l : Launch} {g : zG} {Q : Option zv → zI → zL → Prop} {I : zI} {L : zL} {a1 : Nat} {a2 : Int32} {a3 : Int32}  (h : ∀ k : zK, kl k = l → zX k g cX5_leastCold RX5 5 (some .int) 5 → zE k g Q → (Call (kl k) g 1 M_X1_takeGlass [vR 60, vR a1] I L (zn fun I1 L1 => AW k g 5 I1 L1 11 [(0, vR 59), (2, vI a2), (3, vI a3), (4, vI 0)] []))) : Call l g 5 M_X5_leastCold [vR 59, vR a1, vI a2, vI a3] I L Q := by
  refine aw_entry (by decide) (Nat.le_of_ble_eq_true rfl) (fun k hk (X : zX k g cX5_leastCold RX5 5 (some .int) 5) E => ?_)
  show AW k g 5 I L 0 [(0, vR 59), (1, vR a1), (2, vI a2), (3, vI a3)] []
  replace h := h k hk X E
  subst hk
  refine aw_aload_n X 0 dX5_leastCold_0 rfl ?_
  refine aw_getR X zf_RX5_18 rfl zs_59 zr_59_1 dX5_leastCold_1 ?_
  refine aw_aload_n X 1 dX5_leastCold_4 rfl ?_
  refine aw_callV X (as := [vR a1]) mf_X1_takeGlass zw_666 h zs_60 rfl rfl (by decide) (Nat.le_of_ble_eq_true rfl) dX5_leastCold_5 (fun v I1 L1 h => ?_)
  obtain ⟨rfl, h⟩ := h
  refine aw_iconst (v := 0) X dX5_leastCold_8 (by decide) ?_
  refine aw_istore X dX5_leastCold_9 (by decide) rfl ?_
  refine aw_perm (ks9 := [(0, vR 59), (2, vI a2), (3, vI a3), (4, vI 0)]) [1, 3, 4, 0] rfl ?_
  exact h
set_option maxRecDepth 100000 in
theorem s_X5_lettersRightOnGlass_6 {k : zK} {g : zG} {Q : Option zv → zI → zL → Prop} {I : zI} {L : zL} {y1 : Nat} {y2 : Int32} {y3 : Int32} {y4 : Int32} {y5 : Int32}  (X : zX k g cX5_lettersRightOnGlass RX5 7 (some .int) 5) (E : zE k g Q) (h : if y5 < y2 then (zsh y1 = (13, 5) ∧ (Call (kl k) g 4 M_X5_shapeOnGlass [vR 59, vI (v_X3_signAt I L y1 y5), vI y3, vI (I 2 4)] I L (zi fun r3 I3 L3 => k_X4_readingOf I3 2 r3 ∧ ((∀ u7 : Int32, u7 = (if (v_X4_readingOf I3 2 r3) = (v_X3_signAt I L y1 y5) then y4 ||| (jshl 1 (v_X3_signAt I L y1 y5)) else y4) → AW k g 7 I3 L3 6 [(0, vR 59), (1, vR y1), (2, vI y2), (3, vI y3), (4, vI u7), (5, vI (y5 + 1))] []))))) else (Q (some (vI y4)) I L)) : AW k g 7 I L 6 [(0, vR 59), (1, vR y1), (2, vI y2), (3, vI y3), (4, vI y4), (5, vI y5)] [] := by
  refine aw_iload X 5 dX5_lettersRightOnGlass_6 rfl ?_
  refine aw_iload_n X 2 dX5_lettersRightOnGlass_8 rfl ?_
  refine aw_icmp_gen X 61 dX5_lettersRightOnGlass_9 rfl (fun c1 => ?_) (fun c1 => ?_)
  · replace h := zifp c1 h
    refine aw_aload_n X 1 dX5_lettersRightOnGlass_12 rfl ?_
    refine aw_iload X 5 dX5_lettersRightOnGlass_13 rfl ?_
    have n2 := h.1
    replace h := h.2
    refine aw_pV X (as := [vI y5]) mf_X3_signAt zw_780 (p_X3_signAt n2) n2 rfl rfl (by decide) (Nat.le_of_ble_eq_true rfl) dX5_lettersRightOnGlass_15 ?_
    refine aw_istore X dX5_lettersRightOnGlass_18 (by decide) rfl ?_
    refine aw_aload_n X 1 dX5_lettersRightOnGlass_20 rfl ?_
    refine aw_getR X zf_RX5_9 rfl zs_59 zr_59_0 dX5_lettersRightOnGlass_21 ?_
    refine aw_aload_n X 1 dX5_lettersRightOnGlass_24 rfl ?_
    refine aw_iload X 0 dX5_lettersRightOnGlass_25 rfl ?_
    refine aw_iload_n X 4 dX5_lettersRightOnGlass_27 rfl ?_
    refine aw_aload_n X 1 dX5_lettersRightOnGlass_28 rfl ?_
    refine aw_getR X zf_RX5_9 rfl zs_59 zr_59_0 dX5_lettersRightOnGlass_29 ?_
    refine aw_getI X zf_RX5_51 rfl zs_2 dX5_lettersRightOnGlass_32 ?_
    refine aw_callV X (as := [vI (v_X3_signAt I L y1 y5), vI y3, vI (I 2 4)]) mf_X5_shapeOnGlass zw_667 h zs_59 rfl rfl (by decide) (Nat.le_of_ble_eq_true rfl) dX5_lettersRightOnGlass_35 (fun v I3 L3 h => ?_)
    obtain ⟨r3, rfl, h⟩ := h
    have n4 := h.1
    replace h := h.2
    refine aw_pV X (as := [vI r3]) mf_X4_readingOf zw_751 (p_X4_readingOf zs_2 n4) zs_2 rfl rfl (by decide) (Nat.le_of_ble_eq_true rfl) dX5_lettersRightOnGlass_38 ?_
    refine aw_iload X 0 dX5_lettersRightOnGlass_41 rfl ?_
    have hJ6 : ∀ (u7 : Int32), u7 = (if (v_X4_readingOf I3 2 r3) = (v_X3_signAt I L y1 y5) then y4 ||| (jshl 1 (v_X3_signAt I L y1 y5)) else y4) → AW k g 7 I3 L3 55 [(0, vR 59), (1, vR y1), (2, vI y2), (3, vI y3), (4, vI u7), (5, vI y5)] [] := by
      intro u7 q1
      replace h := h u7 q1
      refine aw_iinc (v := y5 + 1) X 5 dX5_lettersRightOnGlass_55 rfl rfl (by decide) rfl ?_
      refine aw_goto X 6 dX5_lettersRightOnGlass_58 rfl ?_
      refine aw_perm (ks9 := [(0, vR 59), (1, vR y1), (2, vI y2), (3, vI y3), (4, vI u7), (5, vI (y5 + 1))]) [1, 2, 3, 4, 5, 0] rfl ?_
      exact h
    refine aw_icmp_ne X 55 dX5_lettersRightOnGlass_43 rfl (fun c5 => ?_) (fun c5 => ?_)
    · refine aw_perm (ks9 := [(0, vR 59), (1, vR y1), (2, vI y2), (3, vI y3), (4, vI y4), (5, vI y5)]) [1, 2, 3, 4, 5, 6] rfl ?_
      exact hJ6 _ (if_neg c5).symm
    · refine aw_iload X 5 dX5_lettersRightOnGlass_46 rfl ?_
      refine aw_iconst (v := 1) X dX5_lettersRightOnGlass_48 (by decide) ?_
      refine aw_iload X 0 dX5_lettersRightOnGlass_49 rfl ?_
      refine aw_ishl X dX5_lettersRightOnGlass_51 ?_
      refine aw_ior X dX5_lettersRightOnGlass_52 ?_
      refine aw_istore X dX5_lettersRightOnGlass_53 (by decide) rfl ?_
      refine aw_perm (ks9 := [(0, vR 59), (1, vR y1), (2, vI y2), (3, vI y3), (4, vI (y4 ||| (jshl 1 (v_X3_signAt I L y1 y5)))), (5, vI y5)]) [2, 3, 4, 5, 0, 6] rfl ?_
      exact hJ6 _ (if_pos c5).symm
  · replace h := zifn c1 h
    refine aw_iload X 4 dX5_lettersRightOnGlass_61 rfl ?_
    exact aw_iret X E rfl dX5_lettersRightOnGlass_63 h
set_option maxRecDepth 100000 in
theorem m_X5_lettersRightOnGlass {l : Launch} {g : zG} {Q : Option zv → zI → zL → Prop} {I : zI} {L : zL} {a1 : Nat} {a2 : Int32} {a3 : Int32}  (h : ∀ k : zK, kl k = l → zX k g cX5_lettersRightOnGlass RX5 7 (some .int) 5 → zE k g Q → (AW k g 7 I L 6 [(0, vR 59), (1, vR a1), (2, vI a2), (3, vI a3), (4, vI 0), (5, vI 0)] [])) : Call l g 5 M_X5_lettersRightOnGlass [vR 59, vR a1, vI a2, vI a3] I L Q := by
  refine aw_entry (by decide) (Nat.le_of_ble_eq_true rfl) (fun k hk (X : zX k g cX5_lettersRightOnGlass RX5 7 (some .int) 5) E => ?_)
  show AW k g 7 I L 0 [(0, vR 59), (1, vR a1), (2, vI a2), (3, vI a3)] []
  replace h := h k hk X E
  subst hk
  refine aw_iconst (v := 0) X dX5_lettersRightOnGlass_0 (by decide) ?_
  refine aw_istore X dX5_lettersRightOnGlass_1 (by decide) rfl ?_
  refine aw_iconst (v := 0) X dX5_lettersRightOnGlass_3 (by decide) ?_
  refine aw_istore X dX5_lettersRightOnGlass_4 (by decide) rfl ?_
  refine aw_perm (ks9 := [(0, vR 59), (1, vR a1), (2, vI a2), (3, vI a3), (4, vI 0), (5, vI 0)]) [2, 3, 4, 5, 1, 0] rfl ?_
  exact h
set_option maxRecDepth 100000 in
theorem s_X5_lettersThatShow_6 {k : zK} {g : zG} {Q : Option zv → zI → zL → Prop} {I : zI} {L : zL} {y1 : Nat} {y2 : Int32} {y3 : Int32} {y4 : Int32} {y5 : Int32}  (X : zX k g cX5_lettersThatShow RX5 6 (some .int) 6) (E : zE k g Q) (h : if y5 < (I 2 2) then (Call (kl k) g 5 M_X5_shapeAt [vR 59, vR y1, vI y5, vI y3] I L (zi fun r2 I2 L2 => AW k g 6 I2 L2 6 [(0, vR 59), (1, vR y1), (2, vI y2), (3, vI y3), (4, vI (if r2 = y2 then y4 ||| (jshl 1 y5) else y4)), (5, vI (y5 + 1))] [])) else (Call (kl k) g 5 M_X5_shapeAt [vR 59, vR y1, vI (-1), vI y3] I L (zi fun r5 I5 L5 => Q (some (vI (if r5 = y2 then y4 ||| 256 else y4))) I5 L5))) : AW k g 6 I L 6 [(0, vR 59), (1, vR y1), (2, vI y2), (3, vI y3), (4, vI y4), (5, vI y5)] [] := by
  refine aw_iload X 5 dX5_lettersThatShow_6 rfl ?_
  refine aw_aload_n X 0 dX5_lettersThatShow_8 rfl ?_
  refine aw_getR X zf_RX5_9 rfl zs_59 zr_59_0 dX5_lettersThatShow_9 ?_
  refine aw_getI X zf_RX5_111 rfl zs_2 dX5_lettersThatShow_12 ?_
  refine aw_icmp_gen X 45 dX5_lettersThatShow_15 rfl (fun c1 => ?_) (fun c1 => ?_)
  · replace h := zifp c1 h
    refine aw_aload_n X 0 dX5_lettersThatShow_18 rfl ?_
    refine aw_aload_n X 1 dX5_lettersThatShow_19 rfl ?_
    refine aw_iload X 5 dX5_lettersThatShow_20 rfl ?_
    refine aw_iload_n X 3 dX5_lettersThatShow_22 rfl ?_
    refine aw_callV X (as := [vR y1, vI y5, vI y3]) mf_X5_shapeAt zw_662 h zs_59 rfl rfl (by decide) (Nat.le_of_ble_eq_true rfl) dX5_lettersThatShow_23 (fun v I2 L2 h => ?_)
    obtain ⟨r2, rfl, h⟩ := h
    refine aw_iload_n X 2 dX5_lettersThatShow_26 rfl ?_
    have hJ4 : ∀ (w1 : Int32), w1 = (if r2 = y2 then y4 ||| (jshl 1 y5) else y4) → AW k g 6 I2 L2 39 [(0, vR 59), (1, vR y1), (2, vI y2), (3, vI y3), (4, vI w1), (5, vI y5)] [] := by
      intro w1 q1
      subst q1
      refine aw_iinc (v := y5 + 1) X 5 dX5_lettersThatShow_39 rfl rfl (by decide) rfl ?_
      refine aw_goto X 6 dX5_lettersThatShow_42 rfl ?_
      refine aw_perm (ks9 := [(0, vR 59), (1, vR y1), (2, vI y2), (3, vI y3), (4, vI (if r2 = y2 then y4 ||| (jshl 1 y5) else y4)), (5, vI (y5 + 1))]) [1, 2, 3, 4, 5, 0] rfl ?_
      exact h
    refine aw_icmp_ne X 39 dX5_lettersThatShow_27 rfl (fun c3 => ?_) (fun c3 => ?_)
    · refine aw_perm (ks9 := [(0, vR 59), (1, vR y1), (2, vI y2), (3, vI y3), (4, vI y4), (5, vI y5)]) [0, 1, 2, 3, 4, 5] rfl ?_
      exact hJ4 _ (if_neg c3).symm
    · refine aw_iload X 4 dX5_lettersThatShow_30 rfl ?_
      refine aw_iconst (v := 1) X dX5_lettersThatShow_32 (by decide) ?_
      refine aw_iload X 5 dX5_lettersThatShow_33 rfl ?_
      refine aw_ishl X dX5_lettersThatShow_35 ?_
      refine aw_ior X dX5_lettersThatShow_36 ?_
      refine aw_istore X dX5_lettersThatShow_37 (by decide) rfl ?_
      refine aw_perm (ks9 := [(0, vR 59), (1, vR y1), (2, vI y2), (3, vI y3), (4, vI (y4 ||| (jshl 1 y5))), (5, vI y5)]) [1, 2, 3, 4, 0, 5] rfl ?_
      exact hJ4 _ (if_pos c3).symm
  · replace h := zifn c1 h
    refine aw_aload_n X 0 dX5_lettersThatShow_45 rfl ?_
    refine aw_aload_n X 1 dX5_lettersThatShow_46 rfl ?_
    refine aw_iconst (v := (-1)) X dX5_lettersThatShow_47 (by decide) ?_
    refine aw_iload_n X 3 dX5_lettersThatShow_48 rfl ?_
    refine aw_callV X (as := [vR y1, vI (-1), vI y3]) mf_X5_shapeAt zw_662 h zs_59 rfl rfl (by decide) (Nat.le_of_ble_eq_true rfl) dX5_lettersThatShow_49 (fun v I5 L5 h => ?_)
    obtain ⟨r5, rfl, h⟩ := h
    refine aw_iload_n X 2 dX5_lettersThatShow_52 rfl ?_
    have hJ7 : ∀ (w1 : Int32), w1 = (if r5 = y2 then y4 ||| 256 else y4) → AW k g 6 I5 L5 67 [] [vI w1] := by
      intro w1 q1
      subst q1
      exact aw_iret X E rfl dX5_lettersThatShow_67 h
    refine aw_icmp_ne X 65 dX5_lettersThatShow_53 rfl (fun c6 => ?_) (fun c6 => ?_)
    · refine aw_iload X 4 dX5_lettersThatShow_65 rfl ?_
      refine aw_perm (ks9 := []) [] rfl ?_
      exact hJ7 _ (if_neg c6).symm
    · refine aw_iload X 4 dX5_lettersThatShow_56 rfl ?_
      refine aw_sipush (v := 256) X dX5_lettersThatShow_58 (by decide) ?_
      refine aw_ior X dX5_lettersThatShow_61 ?_
      refine aw_goto X 67 dX5_lettersThatShow_62 rfl ?_
      refine aw_perm (ks9 := []) [] rfl ?_
      exact hJ7 _ (if_pos c6).symm
set_option maxRecDepth 100000 in
theorem m_X5_lettersThatShow {l : Launch} {g : zG} {Q : Option zv → zI → zL → Prop} {I : zI} {L : zL} {a1 : Nat} {a2 : Int32} {a3 : Int32}  (h : ∀ k : zK, kl k = l → zX k g cX5_lettersThatShow RX5 6 (some .int) 6 → zE k g Q → (AW k g 6 I L 6 [(0, vR 59), (1, vR a1), (2, vI a2), (3, vI a3), (4, vI 0), (5, vI 0)] [])) : Call l g 6 M_X5_lettersThatShow [vR 59, vR a1, vI a2, vI a3] I L Q := by
  refine aw_entry (by decide) (Nat.le_of_ble_eq_true rfl) (fun k hk (X : zX k g cX5_lettersThatShow RX5 6 (some .int) 6) E => ?_)
  show AW k g 6 I L 0 [(0, vR 59), (1, vR a1), (2, vI a2), (3, vI a3)] []
  replace h := h k hk X E
  subst hk
  refine aw_iconst (v := 0) X dX5_lettersThatShow_0 (by decide) ?_
  refine aw_istore X dX5_lettersThatShow_1 (by decide) rfl ?_
  refine aw_iconst (v := 0) X dX5_lettersThatShow_3 (by decide) ?_
  refine aw_istore X dX5_lettersThatShow_4 (by decide) rfl ?_
  refine aw_perm (ks9 := [(0, vR 59), (1, vR a1), (2, vI a2), (3, vI a3), (4, vI 0), (5, vI 0)]) [2, 3, 4, 5, 1, 0] rfl ?_
  exact h
set_option maxRecDepth 100000 in
theorem s_X5_noteRightLetters_3 {k : zK} {g : zG} {Q : Option zv → zI → zL → Prop} {I : zI} {L : zL} {y1 : Nat} {y2 : Int32} {y3 : Int32} {y4 : Int32}  (X : zX k g cX5_noteRightLetters RX5 6 none 6) (E : zE k g Q) (h : if y4 < 8 then (vp_in y4 8 ∧ ((∀ I3 : zI, I3 = (zs I 63 y4.toNatClampNeg 0) → if (v_X4_paneAt I3 2 y4) = 0 then (AW k g 6 I3 L 3 [(0, vR 59), (1, vR y1), (2, vI y2), (3, vI y3), (4, vI (y4 + 1))] []) else (Call (kl k) g 1 M_X1_takeGlass [vR 60, vR (v_X4_paneAt I3 2 y4)] I3 L (zn fun I5 L5 => Call (kl k) g 5 M_X5_lettersRightOnGlass [vR 59, vR y1, vI y2, vI y3] I5 L5 (zi fun r6 I6 L6 => AW k g 6 (zs I6 63 y4.toNatClampNeg r6) L6 3 [(0, vR 59), (1, vR y1), (2, vI y2), (3, vI y3), (4, vI (y4 + 1))] [])))))) else (Q none I L)) : AW k g 6 I L 3 [(0, vR 59), (1, vR y1), (2, vI y2), (3, vI y3), (4, vI y4)] [] := by
  refine aw_iload X 4 dX5_noteRightLetters_3 rfl ?_
  refine aw_aload_n X 0 dX5_noteRightLetters_5 rfl ?_
  refine aw_getR X zf_RX5_26 rfl zs_59 zr_59_3 dX5_noteRightLetters_6 ?_
  refine aw_alen (v := 8) X zs_63 (by decide) (by decide) dX5_noteRightLetters_9 ?_
  refine aw_icmp_gen X 66 dX5_noteRightLetters_10 rfl (fun c1 => ?_) (fun c1 => ?_)
  · replace h := zifp c1 h
    refine aw_aload_n X 0 dX5_noteRightLetters_13 rfl ?_
    refine aw_getR X zf_RX5_26 rfl zs_59 zr_59_3 dX5_noteRightLetters_14 ?_
    refine aw_iload X 4 dX5_noteRightLetters_17 rfl ?_
    refine aw_iconst (v := 0) X dX5_noteRightLetters_19 (by decide) ?_
    have n2 := h.1
    replace h := h.2
    refine aw_iastj (j := y4.toNatClampNeg) X zs_63 n2 rfl dX5_noteRightLetters_20 ?_
    refine aw_aload_n X 0 dX5_noteRightLetters_21 rfl ?_
    refine aw_nameI (fun I3 e3 => ?_)
    replace h := h I3 e3
    refine aw_getR X zf_RX5_9 rfl zs_59 zr_59_0 dX5_noteRightLetters_22 ?_
    refine aw_iload X 4 dX5_noteRightLetters_25 rfl ?_
    refine aw_pV X (as := [vI y4]) mf_X4_paneAt zw_762 (p_X4_paneAt zs_2) zs_2 rfl rfl (by decide) (Nat.le_of_ble_eq_true rfl) dX5_noteRightLetters_27 ?_
    refine aw_astore X dX5_noteRightLetters_30 (by decide) rfl ?_
    refine aw_aload X 0 dX5_noteRightLetters_32 rfl ?_
    refine aw_ifnull X 60 dX5_noteRightLetters_34 rfl (fun c4 => ?_) (fun c4 => ?_)
    · replace h := zifp c4 h
      refine aw_iinc (v := y4 + 1) X 5 dX5_noteRightLetters_60 rfl rfl (by decide) rfl ?_
      refine aw_goto X 3 dX5_noteRightLetters_63 rfl ?_
      refine aw_perm (ks9 := [(0, vR 59), (1, vR y1), (2, vI y2), (3, vI y3), (4, vI (y4 + 1))]) [2, 3, 4, 5, 0] rfl ?_
      exact h
    · replace h := zifn c4 h
      refine aw_aload_n X 1 dX5_noteRightLetters_37 rfl ?_
      refine aw_getR X zf_RX5_18 rfl zs_59 zr_59_1 dX5_noteRightLetters_38 ?_
      refine aw_aload X 0 dX5_noteRightLetters_41 rfl ?_
      refine aw_callV X (as := [vR (v_X4_paneAt I3 2 y4)]) mf_X1_takeGlass zw_666 h zs_60 rfl rfl (by decide) (Nat.le_of_ble_eq_true rfl) dX5_noteRightLetters_43 (fun v I5 L5 h => ?_)
      obtain ⟨rfl, h⟩ := h
      refine aw_aload_n X 1 dX5_noteRightLetters_46 rfl ?_
      refine aw_getR X zf_RX5_26 rfl zs_59 zr_59_3 dX5_noteRightLetters_47 ?_
      refine aw_iload X 5 dX5_noteRightLetters_50 rfl ?_
      refine aw_aload_n X 1 dX5_noteRightLetters_52 rfl ?_
      refine aw_aload_n X 2 dX5_noteRightLetters_53 rfl ?_
      refine aw_iload_n X 3 dX5_noteRightLetters_54 rfl ?_
      refine aw_iload_n X 4 dX5_noteRightLetters_55 rfl ?_
      refine aw_callV X (as := [vR y1, vI y2, vI y3]) mf_X5_lettersRightOnGlass zw_776 h zs_59 rfl rfl (by decide) (Nat.le_of_ble_eq_true rfl) dX5_noteRightLetters_56 (fun v I6 L6 h => ?_)
      obtain ⟨r6, rfl, h⟩ := h
      refine aw_iastj (j := y4.toNatClampNeg) X zs_63 n2 rfl dX5_noteRightLetters_59 ?_
      refine aw_iinc (v := y4 + 1) X 5 dX5_noteRightLetters_60 rfl rfl (by decide) rfl ?_
      refine aw_goto X 3 dX5_noteRightLetters_63 rfl ?_
      refine aw_perm (ks9 := [(0, vR 59), (1, vR y1), (2, vI y2), (3, vI y3), (4, vI (y4 + 1))]) [2, 3, 4, 5, 0] rfl ?_
      exact h
  · replace h := zifn c1 h
    exact aw_vret X E rfl dX5_noteRightLetters_66 h
set_option maxRecDepth 100000 in
theorem m_X5_noteRightLetters {l : Launch} {g : zG} {Q : Option zv → zI → zL → Prop} {I : zI} {L : zL} {a1 : Nat} {a2 : Int32} {a3 : Int32}  (h : ∀ k : zK, kl k = l → zX k g cX5_noteRightLetters RX5 6 none 6 → zE k g Q → (AW k g 6 I L 3 [(0, vR 59), (1, vR a1), (2, vI a2), (3, vI a3), (4, vI 0)] [])) : Call l g 6 M_X5_noteRightLetters [vR 59, vR a1, vI a2, vI a3] I L Q := by
  refine aw_entry (by decide) (Nat.le_of_ble_eq_true rfl) (fun k hk (X : zX k g cX5_noteRightLetters RX5 6 none 6) E => ?_)
  show AW k g 6 I L 0 [(0, vR 59), (1, vR a1), (2, vI a2), (3, vI a3)] []
  replace h := h k hk X E
  subst hk
  refine aw_iconst (v := 0) X dX5_noteRightLetters_0 (by decide) ?_
  refine aw_istore X dX5_noteRightLetters_1 (by decide) rfl ?_
  refine aw_perm (ks9 := [(0, vR 59), (1, vR a1), (2, vI a2), (3, vI a3), (4, vI 0)]) [1, 2, 3, 4, 0] rfl ?_
  exact h
set_option maxRecDepth 100000 in
theorem s_X5_othersReadFor_4 {k : zK} {g : zG} {Q : Option zv → zI → zL → Prop} {I : zI} {L : zL} {y1 : Int32} {y2 : Int32} {y3 : Int32}  (X : zX k g cX5_othersReadFor RX5 5 (some .int) 5) (E : zE k g Q) (h : if y3 < (I 2 3) then (if (v_X4_paneAt I 2 y3) = 0 then (AW k g 5 I L 4 [(0, vR 59), (1, vI y1), (2, vI y2), (3, vI (y3 + 1))] []) else (Call (kl k) g 4 M_X5_readAllHours [vR 59, vR (v_X4_paneAt I 2 y3), vI y1] I L (zn fun I3 L3 => AW k g 5 I3 L3 4 [(0, vR 59), (1, vI y1), (2, vI (y2 ||| (v_X5_lettersAmongReadings I3))), (3, vI (y3 + 1))] []))) else (Q (some (vI (y2 &&& ((jshl 1 y1) ^^^ (-1))))) I L)) : AW k g 5 I L 4 [(0, vR 59), (1, vI y1), (2, vI y2), (3, vI y3)] [] := by
  refine aw_iload_n X 3 dX5_othersReadFor_4 rfl ?_
  refine aw_aload_n X 0 dX5_othersReadFor_5 rfl ?_
  refine aw_getR X zf_RX5_9 rfl zs_59 zr_59_0 dX5_othersReadFor_6 ?_
  refine aw_getI X zf_RX5_98 rfl zs_2 dX5_othersReadFor_9 ?_
  refine aw_icmp_gen X 50 dX5_othersReadFor_12 rfl (fun c1 => ?_) (fun c1 => ?_)
  · replace h := zifp c1 h
    refine aw_aload_n X 0 dX5_othersReadFor_15 rfl ?_
    refine aw_getR X zf_RX5_9 rfl zs_59 zr_59_0 dX5_othersReadFor_16 ?_
    refine aw_iload_n X 3 dX5_othersReadFor_19 rfl ?_
    refine aw_pV X (as := [vI y3]) mf_X4_paneAt zw_762 (p_X4_paneAt zs_2) zs_2 rfl rfl (by decide) (Nat.le_of_ble_eq_true rfl) dX5_othersReadFor_20 ?_
    refine aw_astore X dX5_othersReadFor_23 (by decide) rfl ?_
    refine aw_aload X 0 dX5_othersReadFor_25 rfl ?_
    refine aw_ifnull X 44 dX5_othersReadFor_27 rfl (fun c2 => ?_) (fun c2 => ?_)
    · replace h := zifp c2 h
      refine aw_iinc (v := y3 + 1) X 4 dX5_othersReadFor_44 rfl rfl (by decide) rfl ?_
      refine aw_goto X 4 dX5_othersReadFor_47 rfl ?_
      refine aw_perm (ks9 := [(0, vR 59), (1, vI y1), (2, vI y2), (3, vI (y3 + 1))]) [2, 3, 4, 0] rfl ?_
      exact h
    · replace h := zifn c2 h
      refine aw_aload_n X 1 dX5_othersReadFor_30 rfl ?_
      refine aw_aload X 0 dX5_othersReadFor_31 rfl ?_
      refine aw_iload_n X 2 dX5_othersReadFor_33 rfl ?_
      refine aw_callV X (as := [vR (v_X4_paneAt I 2 y3), vI y1]) mf_X5_readAllHours zw_747 h zs_59 rfl rfl (by decide) (Nat.le_of_ble_eq_true rfl) dX5_othersReadFor_34 (fun v I3 L3 h => ?_)
      obtain ⟨rfl, h⟩ := h
      refine aw_iload_n X 3 dX5_othersReadFor_37 rfl ?_
      refine aw_aload_n X 1 dX5_othersReadFor_38 rfl ?_
      refine aw_pV X (as := []) mf_X5_lettersAmongReadings zw_806 (p_X5_lettersAmongReadings) zs_59 rfl rfl (by decide) (Nat.le_of_ble_eq_true rfl) dX5_othersReadFor_39 ?_
      refine aw_ior X dX5_othersReadFor_42 ?_
      refine aw_istore_n X dX5_othersReadFor_43 (by decide) rfl ?_
      refine aw_iinc (v := y3 + 1) X 4 dX5_othersReadFor_44 rfl rfl (by decide) rfl ?_
      refine aw_goto X 4 dX5_othersReadFor_47 rfl ?_
      refine aw_perm (ks9 := [(0, vR 59), (1, vI y1), (2, vI (y2 ||| (v_X5_lettersAmongReadings I3))), (3, vI (y3 + 1))]) [3, 4, 1, 0] rfl ?_
      exact h
  · replace h := zifn c1 h
    refine aw_iload_n X 2 dX5_othersReadFor_50 rfl ?_
    refine aw_iconst (v := 1) X dX5_othersReadFor_51 (by decide) ?_
    refine aw_iload_n X 1 dX5_othersReadFor_52 rfl ?_
    refine aw_ishl X dX5_othersReadFor_53 ?_
    refine aw_iconst (v := (-1)) X dX5_othersReadFor_54 (by decide) ?_
    refine aw_ixor X dX5_othersReadFor_55 ?_
    refine aw_iand X dX5_othersReadFor_56 ?_
    exact aw_iret X E rfl dX5_othersReadFor_57 h
set_option maxRecDepth 100000 in
theorem m_X5_othersReadFor {l : Launch} {g : zG} {Q : Option zv → zI → zL → Prop} {I : zI} {L : zL} {a1 : Int32}  (h : ∀ k : zK, kl k = l → zX k g cX5_othersReadFor RX5 5 (some .int) 5 → zE k g Q → (AW k g 5 I L 4 [(0, vR 59), (1, vI a1), (2, vI 0), (3, vI 0)] [])) : Call l g 5 M_X5_othersReadFor [vR 59, vI a1] I L Q := by
  refine aw_entry (by decide) (Nat.le_of_ble_eq_true rfl) (fun k hk (X : zX k g cX5_othersReadFor RX5 5 (some .int) 5) E => ?_)
  show AW k g 5 I L 0 [(0, vR 59), (1, vI a1)] []
  replace h := h k hk X E
  subst hk
  refine aw_iconst (v := 0) X dX5_othersReadFor_0 (by decide) ?_
  refine aw_istore_n X dX5_othersReadFor_1 (by decide) rfl ?_
  refine aw_iconst (v := 0) X dX5_othersReadFor_2 (by decide) ?_
  refine aw_istore_n X dX5_othersReadFor_3 (by decide) rfl ?_
  refine aw_perm (ks9 := [(0, vR 59), (1, vI a1), (2, vI 0), (3, vI 0)]) [2, 3, 1, 0] rfl ?_
  exact h
set_option maxRecDepth 100000 in
theorem s_X5_panesRight_4 {k : zK} {g : zG} {Q : Option zv → zI → zL → Prop} {I : zI} {L : zL} {y1 : Int32} {y2 : Int32} {y3 : Int32}  (X : zX k g cX5_panesRight RX5 5 (some .int) 6) (E : zE k g Q) (h : if y3 < (I 2 3) then (if (v_X4_paneAt I 2 y3) = 0 then (AW k g 5 I L 4 [(0, vR 59), (1, vI y1), (2, vI y2), (3, vI (y3 + 1))] []) else (if (I (v_X4_paneAt I 2 y3) 3) = (-1) then (AW k g 5 I L 4 [(0, vR 59), (1, vI y1), (2, vI y2), (3, vI (y3 + 1))] []) else (Call (kl k) g 5 M_X5_shapeAt [vR 59, vR (v_X4_paneAt I 2 y3), vI (I (v_X4_paneAt I 2 y3) 3), vI y1] I L (zi fun r4 I4 L4 => k_X4_readingOf I4 2 r4 ∧ ((∀ u8 : Int32, u8 = (if (v_X4_readingOf I4 2 r4) = (I4 (v_X4_paneAt I 2 y3) 3) then y2 ||| (jshl 1 y3) else y2) → AW k g 5 I4 L4 4 [(0, vR 59), (1, vI y1), (2, vI u8), (3, vI (y3 + 1))] [])))))) else (Q (some (vI y2)) I L)) : AW k g 5 I L 4 [(0, vR 59), (1, vI y1), (2, vI y2), (3, vI y3)] [] := by
  refine aw_iload_n X 3 dX5_panesRight_4 rfl ?_
  refine aw_aload_n X 0 dX5_panesRight_5 rfl ?_
  refine aw_getR X zf_RX5_9 rfl zs_59 zr_59_0 dX5_panesRight_6 ?_
  refine aw_getI X zf_RX5_98 rfl zs_2 dX5_panesRight_9 ?_
  refine aw_icmp_gen X 78 dX5_panesRight_12 rfl (fun c1 => ?_) (fun c1 => ?_)
  · replace h := zifp c1 h
    refine aw_aload_n X 0 dX5_panesRight_15 rfl ?_
    refine aw_getR X zf_RX5_9 rfl zs_59 zr_59_0 dX5_panesRight_16 ?_
    refine aw_iload_n X 3 dX5_panesRight_19 rfl ?_
    refine aw_pV X (as := [vI y3]) mf_X4_paneAt zw_762 (p_X4_paneAt zs_2) zs_2 rfl rfl (by decide) (Nat.le_of_ble_eq_true rfl) dX5_panesRight_20 ?_
    refine aw_astore X dX5_panesRight_23 (by decide) rfl ?_
    refine aw_aload X 0 dX5_panesRight_25 rfl ?_
    refine aw_ifnull X 72 dX5_panesRight_27 rfl (fun c2 => ?_) (fun c2 => ?_)
    · replace h := zifp c2 h
      refine aw_iinc (v := y3 + 1) X 4 dX5_panesRight_72 rfl rfl (by decide) rfl ?_
      refine aw_goto X 4 dX5_panesRight_75 rfl ?_
      refine aw_perm (ks9 := [(0, vR 59), (1, vI y1), (2, vI y2), (3, vI (y3 + 1))]) [2, 3, 4, 0] rfl ?_
      exact h
    · replace h := zifn c2 h
      refine aw_aload X 0 dX5_panesRight_30 rfl ?_
      refine aw_getI X zf_RX5_108 rfl (nn_X4_paneAt zs_2 c2) dX5_panesRight_32 ?_
      refine aw_iconst (v := (-1)) X dX5_panesRight_35 (by decide) ?_
      refine aw_icmp_eq X 72 dX5_panesRight_36 rfl (fun c3 => ?_) (fun c3 => ?_)
      · replace h := zifp c3 h
        refine aw_iinc (v := y3 + 1) X 4 dX5_panesRight_72 rfl rfl (by decide) rfl ?_
        refine aw_goto X 4 dX5_panesRight_75 rfl ?_
        refine aw_perm (ks9 := [(0, vR 59), (1, vI y1), (2, vI y2), (3, vI (y3 + 1))]) [2, 3, 4, 0] rfl ?_
        exact h
      · replace h := zifn c3 h
        refine aw_aload_n X 1 dX5_panesRight_39 rfl ?_
        refine aw_getR X zf_RX5_9 rfl zs_59 zr_59_0 dX5_panesRight_40 ?_
        refine aw_aload_n X 1 dX5_panesRight_43 rfl ?_
        refine aw_aload X 0 dX5_panesRight_44 rfl ?_
        refine aw_aload X 0 dX5_panesRight_46 rfl ?_
        refine aw_getI X zf_RX5_108 rfl (nn_X4_paneAt zs_2 c2) dX5_panesRight_48 ?_
        refine aw_iload_n X 2 dX5_panesRight_51 rfl ?_
        refine aw_callV X (as := [vR (v_X4_paneAt I 2 y3), vI (I (v_X4_paneAt I 2 y3) 3), vI y1]) mf_X5_shapeAt zw_662 h zs_59 rfl rfl (by decide) (Nat.le_of_ble_eq_true rfl) dX5_panesRight_52 (fun v I4 L4 h => ?_)
        obtain ⟨r4, rfl, h⟩ := h
        have n5 := h.1
        replace h := h.2
        refine aw_pV X (as := [vI r4]) mf_X4_readingOf zw_751 (p_X4_readingOf zs_2 n5) zs_2 rfl rfl (by decide) (Nat.le_of_ble_eq_true rfl) dX5_panesRight_55 ?_
        refine aw_aload X 0 dX5_panesRight_58 rfl ?_
        refine aw_getI X zf_RX5_108 rfl (nn_X4_paneAt zs_2 c2) dX5_panesRight_60 ?_
        have hJ7 : ∀ (u8 : Int32), u8 = (if (v_X4_readingOf I4 2 r4) = (I4 (v_X4_paneAt I 2 y3) 3) then y2 ||| (jshl 1 y3) else y2) → AW k g 5 I4 L4 72 [(0, vR 59), (1, vI y1), (2, vI u8), (3, vI y3)] [] := by
          intro u8 q1
          replace h := h u8 q1
          refine aw_iinc (v := y3 + 1) X 3 dX5_panesRight_72 rfl rfl (by decide) rfl ?_
          refine aw_goto X 4 dX5_panesRight_75 rfl ?_
          refine aw_perm (ks9 := [(0, vR 59), (1, vI y1), (2, vI u8), (3, vI (y3 + 1))]) [1, 2, 3, 0] rfl ?_
          exact h
        refine aw_icmp_ne X 72 dX5_panesRight_63 rfl (fun c6 => ?_) (fun c6 => ?_)
        · refine aw_perm (ks9 := [(0, vR 59), (1, vI y1), (2, vI y2), (3, vI y3)]) [1, 2, 3, 4] rfl ?_
          exact hJ7 _ (if_neg c6).symm
        · refine aw_iload_n X 3 dX5_panesRight_66 rfl ?_
          refine aw_iconst (v := 1) X dX5_panesRight_67 (by decide) ?_
          refine aw_iload_n X 4 dX5_panesRight_68 rfl ?_
          refine aw_ishl X dX5_panesRight_69 ?_
          refine aw_ior X dX5_panesRight_70 ?_
          refine aw_istore_n X dX5_panesRight_71 (by decide) rfl ?_
          refine aw_perm (ks9 := [(0, vR 59), (1, vI y1), (2, vI (y2 ||| (jshl 1 y3))), (3, vI y3)]) [2, 3, 0, 4] rfl ?_
          exact hJ7 _ (if_pos c6).symm
  · replace h := zifn c1 h
    refine aw_iload_n X 2 dX5_panesRight_78 rfl ?_
    exact aw_iret X E rfl dX5_panesRight_79 h
set_option maxRecDepth 100000 in
theorem m_X5_panesRight {l : Launch} {g : zG} {Q : Option zv → zI → zL → Prop} {I : zI} {L : zL} {a1 : Int32}  (h : ∀ k : zK, kl k = l → zX k g cX5_panesRight RX5 5 (some .int) 6 → zE k g Q → (AW k g 5 I L 4 [(0, vR 59), (1, vI a1), (2, vI 0), (3, vI 0)] [])) : Call l g 6 M_X5_panesRight [vR 59, vI a1] I L Q := by
  refine aw_entry (by decide) (Nat.le_of_ble_eq_true rfl) (fun k hk (X : zX k g cX5_panesRight RX5 5 (some .int) 6) E => ?_)
  show AW k g 5 I L 0 [(0, vR 59), (1, vI a1)] []
  replace h := h k hk X E
  subst hk
  refine aw_iconst (v := 0) X dX5_panesRight_0 (by decide) ?_
  refine aw_istore_n X dX5_panesRight_1 (by decide) rfl ?_
  refine aw_iconst (v := 0) X dX5_panesRight_2 (by decide) ?_
  refine aw_istore_n X dX5_panesRight_3 (by decide) rfl ?_
  refine aw_perm (ks9 := [(0, vR 59), (1, vI a1), (2, vI 0), (3, vI 0)]) [2, 3, 1, 0] rfl ?_
  exact h
set_option maxRecDepth 100000 in
theorem s_X5_warmestRoom_12 {k : zK} {g : zG} {Q : Option zv → zI → zL → Prop} {I : zI} {L : zL} {y2 : Int32} {y3 : Int32} {y4 : Int32}  (X : zX k g cX5_warmestRoom RX5 5 (some .int) 5) (E : zE k g Q) (h : if y4 < 0 then (Q (some (vI (-1))) I L) else ((∀ I2 : zI, I2 = (zs I 60 1 y4) → Call (kl k) g 4 M_X5_shapeOnGlass [vR 59, vI y2, vI y3, vI (I2 2 4)] I2 L (zi fun r3 I3 L3 => k_X4_readingOf I3 2 r3 ∧ (if (v_X4_readingOf I3 2 r3) = y2 then (Q (some (vI y4)) I3 L3) else (AW k g 5 I3 L3 12 [(0, vR 59), (2, vI y2), (3, vI y3), (4, vI (y4 + (-1)))] [])))))) : AW k g 5 I L 12 [(0, vR 59), (2, vI y2), (3, vI y3), (4, vI y4)] [] := by
  refine aw_iload X 3 dX5_warmestRoom_12 rfl ?_
  refine aw_if_lt X 59 dX5_warmestRoom_14 rfl (fun c1 => ?_) (fun c1 => ?_)
  · replace h := zifp c1 h
    refine aw_iconst (v := (-1)) X dX5_warmestRoom_59 (by decide) ?_
    exact aw_iret X E rfl dX5_warmestRoom_60 h
  · replace h := zifn c1 h
    refine aw_aload_n X 0 dX5_warmestRoom_17 rfl ?_
    refine aw_getR X zf_RX5_18 rfl zs_59 zr_59_1 dX5_warmestRoom_18 ?_
    refine aw_iload X 3 dX5_warmestRoom_21 rfl ?_
    refine aw_putI X zf_RX5_114 rfl rfl rfl zs_60 dX5_warmestRoom_23 ?_
    refine aw_aload_n X 0 dX5_warmestRoom_26 rfl ?_
    refine aw_nameI (fun I2 e2 => ?_)
    replace h := h I2 e2
    refine aw_getR X zf_RX5_9 rfl zs_59 zr_59_0 dX5_warmestRoom_27 ?_
    refine aw_aload_n X 0 dX5_warmestRoom_30 rfl ?_
    refine aw_iload_n X 1 dX5_warmestRoom_31 rfl ?_
    refine aw_iload_n X 2 dX5_warmestRoom_32 rfl ?_
    refine aw_aload_n X 0 dX5_warmestRoom_33 rfl ?_
    refine aw_getR X zf_RX5_9 rfl zs_59 zr_59_0 dX5_warmestRoom_34 ?_
    refine aw_getI X zf_RX5_51 rfl zs_2 dX5_warmestRoom_37 ?_
    refine aw_callV X (as := [vI y2, vI y3, vI (I2 2 4)]) mf_X5_shapeOnGlass zw_667 h zs_59 rfl rfl (by decide) (Nat.le_of_ble_eq_true rfl) dX5_warmestRoom_40 (fun v I3 L3 h => ?_)
    obtain ⟨r3, rfl, h⟩ := h
    have n4 := h.1
    replace h := h.2
    refine aw_pV X (as := [vI r3]) mf_X4_readingOf zw_751 (p_X4_readingOf zs_2 n4) zs_2 rfl rfl (by decide) (Nat.le_of_ble_eq_true rfl) dX5_warmestRoom_43 ?_
    refine aw_iload_n X 1 dX5_warmestRoom_46 rfl ?_
    refine aw_icmp_ne X 53 dX5_warmestRoom_47 rfl (fun c5 => ?_) (fun c5 => ?_)
    · replace h := zifn c5 h
      refine aw_iinc (v := y4 + (-1)) X 3 dX5_warmestRoom_53 rfl rfl (by decide) rfl ?_
      refine aw_goto X 12 dX5_warmestRoom_56 rfl ?_
      refine aw_perm (ks9 := [(0, vR 59), (2, vI y2), (3, vI y3), (4, vI (y4 + (-1)))]) [1, 2, 3, 0] rfl ?_
      exact h
    · replace h := zifp c5 h
      refine aw_iload X 3 dX5_warmestRoom_50 rfl ?_
      exact aw_iret X E rfl dX5_warmestRoom_52 h
set_option maxRecDepth 100000 in
theorem m_X5_warmestRoom {l : Launch} {g : zG} {Q : Option zv → zI → zL → Prop} {I : zI} {L : zL} {a1 : Nat} {a2 : Int32} {a3 : Int32}  (h : ∀ k : zK, kl k = l → zX k g cX5_warmestRoom RX5 5 (some .int) 5 → zE k g Q → (Call (kl k) g 1 M_X1_takeGlass [vR 60, vR a1] I L (zn fun I1 L1 => AW k g 5 I1 L1 12 [(0, vR 59), (2, vI a2), (3, vI a3), (4, vI 9)] []))) : Call l g 5 M_X5_warmestRoom [vR 59, vR a1, vI a2, vI a3] I L Q := by
  refine aw_entry (by decide) (Nat.le_of_ble_eq_true rfl) (fun k hk (X : zX k g cX5_warmestRoom RX5 5 (some .int) 5) E => ?_)
  show AW k g 5 I L 0 [(0, vR 59), (1, vR a1), (2, vI a2), (3, vI a3)] []
  replace h := h k hk X E
  subst hk
  refine aw_aload_n X 0 dX5_warmestRoom_0 rfl ?_
  refine aw_getR X zf_RX5_18 rfl zs_59 zr_59_1 dX5_warmestRoom_1 ?_
  refine aw_aload_n X 1 dX5_warmestRoom_4 rfl ?_
  refine aw_callV X (as := [vR a1]) mf_X1_takeGlass zw_666 h zs_60 rfl rfl (by decide) (Nat.le_of_ble_eq_true rfl) dX5_warmestRoom_5 (fun v I1 L1 h => ?_)
  obtain ⟨rfl, h⟩ := h
  refine aw_bipush (v := 9) X dX5_warmestRoom_8 (by decide) ?_
  refine aw_istore X dX5_warmestRoom_10 (by decide) rfl ?_
  refine aw_perm (ks9 := [(0, vR 59), (2, vI a2), (3, vI a3), (4, vI 9)]) [1, 3, 4, 0] rfl ?_
  exact h
