set_option maxRecDepth 100000 in
theorem m_X6_refuse {l : Launch} {g : zG} {Q : Option zv → zI → zL → Prop} {I : zI} {L : zL} {a1 : Int32}  (h : if -a1 < 0 then (Q (some (vI a1)) I L) else (if -a1 < 8 then (Q (some (vI a1)) (zs I 86 ((-a1).toNatClampNeg) ((I 86 ((-a1).toNatClampNeg)) + 1)) L) else (Q (some (vI a1)) I L))) : Call l g 1 M_X6_refuse [vR 1, vI a1] I L Q := by
  refine aw_entry (by decide) (Nat.le_of_ble_eq_true rfl) (fun k hk (X : zX k g cX6_refuse RX6 3 (some .int) 1) E => ?_)
  show AW k g 3 I L 0 [(0, vR 1), (1, vI a1)] []
  subst hk
  refine aw_iload_n X 1 dX6_refuse_0 rfl ?_
  refine aw_ineg X dX6_refuse_1 ?_
  refine aw_istore_n X dX6_refuse_2 (by decide) rfl ?_
  refine aw_iload_n X 0 dX6_refuse_3 rfl ?_
  refine aw_if_lt X 26 dX6_refuse_4 rfl (fun c1 => ?_) (fun c1 => ?_)
  · replace h := zifp c1 h
    refine aw_iload_n X 2 dX6_refuse_26 rfl ?_
    exact aw_iret X E rfl dX6_refuse_27 h
  · replace h := zifn c1 h
    refine aw_iload_n X 0 dX6_refuse_7 rfl ?_
    refine aw_aload_n X 1 dX6_refuse_8 rfl ?_
    refine aw_getR X zf_RX6_52 rfl zs_1 zr_1_7 dX6_refuse_9 ?_
    refine aw_alen (v := 8) X zs_86 (by decide) (by decide) dX6_refuse_12 ?_
    refine aw_icmp_gen X 26 dX6_refuse_13 rfl (fun c2 => ?_) (fun c2 => ?_)
    · replace h := zifp c2 h
      refine aw_aload_n X 1 dX6_refuse_16 rfl ?_
      refine aw_getR X zf_RX6_52 rfl zs_1 zr_1_7 dX6_refuse_17 ?_
      refine aw_iload_n X 0 dX6_refuse_20 rfl ?_
      refine aw_dup2 X dX6_refuse_21 rfl rfl ?_
      refine aw_ialdj (j := (-a1).toNatClampNeg) X zs_86 (zinof c1 c2 (by decide)) rfl dX6_refuse_22 ?_
      refine aw_iconst (v := 1) X dX6_refuse_23 (by decide) ?_
      refine aw_iadd X dX6_refuse_24 ?_
      refine aw_iastj (j := (-a1).toNatClampNeg) X zs_86 (zinof c1 c2 (by decide)) rfl dX6_refuse_25 ?_
      refine aw_iload_n X 2 dX6_refuse_26 rfl ?_
      exact aw_iret X E rfl dX6_refuse_27 h
    · replace h := zifn c2 h
      refine aw_iload_n X 2 dX6_refuse_26 rfl ?_
      exact aw_iret X E rfl dX6_refuse_27 h
set_option maxRecDepth 100000 in
theorem m_X6_ask {l : Launch} {g : zG} {Q : Option zv → zI → zL → Prop} {I : zI} {L : zL} {a1 : Int32} {a2 : Int32}  (h : if (v_X4_mayBecome a1 a2) = 0 then (Call l g 1 M_X6_refuse [vR 1, vI (-6)] I L (zi fun r3 I3 L3 => Q (some (vI r3)) I3 L3)) else (Call l g 1 M_X4_changeWeather [vR 2, vI a1, vI a2] I L (zi fun r2 I2 L2 => Q (some (vI r2)) I2 L2))) : Call l g 3 M_X6_ask [vR 1, vI a1, vI a2] I L Q := by
  refine aw_entry (by decide) (Nat.le_of_ble_eq_true rfl) (fun k hk (X : zX k g cX6_ask RX6 3 (some .int) 3) E => ?_)
  show AW k g 3 I L 0 [(0, vR 1), (1, vI a1), (2, vI a2)] []
  subst hk
  refine aw_iload_n X 1 dX6_ask_0 rfl ?_
  refine aw_iload_n X 2 dX6_ask_1 rfl ?_
  refine aw_pS X (as := [vI a1, vI a2]) mf_X4_mayBecome zw_404 (p_X4_mayBecome) rfl rfl (by decide) (Nat.le_of_ble_eq_true rfl) dX6_ask_2 ?_
  refine aw_if_ne X 15 dX6_ask_5 rfl (fun c1 => ?_) (fun c1 => ?_)
  · replace h := zifn c1 h
    refine aw_aload_n X 0 dX6_ask_15 rfl ?_
    refine aw_getR X zf_RX6_10 rfl zs_1 zr_1_0 dX6_ask_16 ?_
    refine aw_iload_n X 1 dX6_ask_19 rfl ?_
    refine aw_iload_n X 2 dX6_ask_20 rfl ?_
    refine aw_callV X (as := [vI a1, vI a2]) mf_X4_changeWeather zw_410 h zs_2 rfl rfl (by decide) (Nat.le_of_ble_eq_true rfl) dX6_ask_21 (fun v I2 L2 h => ?_)
    obtain ⟨r2, rfl, h⟩ := h
    exact aw_iret X E rfl dX6_ask_24 h
  · replace h := zifp c1 h
    refine aw_aload_n X 0 dX6_ask_8 rfl ?_
    refine aw_bipush (v := (-6)) X dX6_ask_9 (by decide) ?_
    refine aw_callV X (as := [vI (-6)]) mf_X6_refuse zw_267 h zs_1 rfl rfl (by decide) (Nat.le_of_ble_eq_true rfl) dX6_ask_11 (fun v I3 L3 h => ?_)
    obtain ⟨r3, rfl, h⟩ := h
    exact aw_iret X E rfl dX6_ask_14 h
set_option maxRecDepth 100000 in
theorem m_X6_becomes {l : Launch} {g : zG} {Q : Option zv → zI → zL → Prop} {I : zI} {L : zL} {a1 : Int32}  (h : if (v_X4_isLetter I 2 a1) = 0 then (Call l g 1 M_X6_refuse [vR 1, vI (-1)] I L (zi fun r3 I3 L3 => Q (some (vI r3)) I3 L3)) else (Call l g 5 M_X5_othersReadFor [vR 59, vI a1] I L (zi fun r2 I2 L2 => Q (some (vI r2)) I2 L2))) : Call l g 6 M_X6_becomes [vR 1, vI a1] I L Q := by
  refine aw_entry (by decide) (Nat.le_of_ble_eq_true rfl) (fun k hk (X : zX k g cX6_becomes RX6 2 (some .int) 6) E => ?_)
  show AW k g 2 I L 0 [(0, vR 1), (1, vI a1)] []
  subst hk
  refine aw_aload_n X 0 dX6_becomes_0 rfl ?_
  refine aw_getR X zf_RX6_10 rfl zs_1 zr_1_0 dX6_becomes_1 ?_
  refine aw_iload_n X 1 dX6_becomes_4 rfl ?_
  refine aw_pV X (as := [vI a1]) mf_X4_isLetter zw_661 (p_X4_isLetter zs_2) zs_2 rfl rfl (by decide) (Nat.le_of_ble_eq_true rfl) dX6_becomes_5 ?_
  refine aw_if_ne X 17 dX6_becomes_8 rfl (fun c1 => ?_) (fun c1 => ?_)
  · replace h := zifn c1 h
    refine aw_aload_n X 0 dX6_becomes_17 rfl ?_
    refine aw_getR X zf_RX6_27 rfl zs_1 zr_1_3 dX6_becomes_18 ?_
    refine aw_iload_n X 1 dX6_becomes_21 rfl ?_
    refine aw_callV X (as := [vI a1]) mf_X5_othersReadFor zw_677 h zs_59 rfl rfl (by decide) (Nat.le_of_ble_eq_true rfl) dX6_becomes_22 (fun v I2 L2 h => ?_)
    obtain ⟨r2, rfl, h⟩ := h
    exact aw_iret X E rfl dX6_becomes_25 h
  · replace h := zifp c1 h
    refine aw_aload_n X 0 dX6_becomes_11 rfl ?_
    refine aw_iconst (v := (-1)) X dX6_becomes_12 (by decide) ?_
    refine aw_callV X (as := [vI (-1)]) mf_X6_refuse zw_267 h zs_1 rfl rfl (by decide) (Nat.le_of_ble_eq_true rfl) dX6_becomes_13 (fun v I3 L3 h => ?_)
    obtain ⟨r3, rfl, h⟩ := h
    exact aw_iret X E rfl dX6_becomes_16 h
def v_X6_isCell (a1 : Int32) : Int32 := if a1 < 0 then 0 else if a1 < 16 then 1 else (0 : Int32)
set_option maxRecDepth 100000 in
theorem p_X6_isCell {l : Launch} {g : zG} {I : zI} {L : zL} {a1 : Int32}  : Call l g 1 M_X6_isCell [vI a1] I L (zp (some (vI (v_X6_isCell a1))) I L) := by
  refine aw_entry (by decide) (Nat.le_of_ble_eq_true rfl) (fun k hk (X : zX k g cX6_isCell RX6 1 (some .boolean) 1) E => ?_)
  show AW k g 1 I L 0 [(0, vI a1)] []
  subst hk
  have hJ : ∀ w1 : Int32, w1 = (if a1 < 0 then 0 else if a1 < 16 then 1 else (0 : Int32)) → zp (some (vI (v_X6_isCell a1))) I L (some (vI w1)) I L := fun w1 e1 => ⟨by rw [e1]; rfl, rfl, rfl⟩
  refine aw_iload_n X 0 dX6_isCell_0 rfl ?_
  have hJ3 : ∀ (w1 : Int32), w1 = (if a1 < 0 then 0 else if a1 < 16 then 1 else (0 : Int32)) → AW k g 1 I L 15 [] [vI w1] := by
    intro w1 q1
    subst q1
    exact aw_zret X E rfl (by (repeat' split) <;> first | exact Or.inl rfl | exact Or.inr rfl) dX6_isCell_15 (hJ _ rfl)
  refine aw_if_lt X 14 dX6_isCell_1 rfl (fun c1 => ?_) (fun c1 => ?_)
  · refine aw_iconst (v := 0) X dX6_isCell_14 (by decide) ?_
    refine aw_perm (ks9 := []) [] rfl ?_
    exact hJ3 _ (if_pos c1).symm
  · refine aw_iload_n X 0 dX6_isCell_4 rfl ?_
    refine aw_bipush (v := 16) X dX6_isCell_5 (by decide) ?_
    refine aw_icmp_gen X 14 dX6_isCell_7 rfl (fun c2 => ?_) (fun c2 => ?_)
    · refine aw_iconst (v := 1) X dX6_isCell_10 (by decide) ?_
      refine aw_goto X 15 dX6_isCell_11 rfl ?_
      refine aw_perm (ks9 := []) [] rfl ?_
      exact hJ3 _ ((if_pos c2).symm.trans (if_neg c1).symm)
    · refine aw_iconst (v := 0) X dX6_isCell_14 (by decide) ?_
      refine aw_perm (ks9 := []) [] rfl ?_
      exact hJ3 _ ((if_neg c2).symm.trans (if_neg c1).symm)
theorem b_X6_isCell {a1 : Int32} : v_X6_isCell a1 = 0 ∨ v_X6_isCell a1 = 1 := by
  unfold v_X6_isCell
  repeat' split
  all_goals first | exact Or.inl rfl | exact Or.inr rfl
set_option maxRecDepth 100000 in
theorem m_X6_breath {l : Launch} {g : zG} {Q : Option zv → zI → zL → Prop} {I : zI} {L : zL} {a1 : Int32} {a2 : Int32}  (h : if (v_X4_paneAt I 2 a1) = 0 then (Call l g 1 M_X6_refuse [vR 1, vI (-1)] I L (zi fun r2 I2 L2 => Q (some (vI r2)) I2 L2)) else (if (v_X6_isCell a2) = 0 then (Call l g 1 M_X6_refuse [vR 1, vI (-5)] I L (zi fun r5 I5 L5 => Q (some (vI r5)) I5 L5)) else (Call l g 2 M_X1_breatheOn [vR (v_X4_paneAt I 2 a1), vI a2] I L (zi fun r4 I4 L4 => Q (some (vI r4)) I4 L4)))) : Call l g 3 M_X6_breath [vR 1, vI a1, vI a2] I L Q := by
  refine aw_entry (by decide) (Nat.le_of_ble_eq_true rfl) (fun k hk (X : zX k g cX6_breath RX6 4 (some .int) 3) E => ?_)
  show AW k g 4 I L 0 [(0, vR 1), (1, vI a1), (2, vI a2)] []
  subst hk
  refine aw_aload_n X 0 dX6_breath_0 rfl ?_
  refine aw_getR X zf_RX6_10 rfl zs_1 zr_1_0 dX6_breath_1 ?_
  refine aw_iload_n X 1 dX6_breath_4 rfl ?_
  refine aw_pV X (as := [vI a1]) mf_X4_paneAt zw_310 (p_X4_paneAt zs_2) zs_2 rfl rfl (by decide) (Nat.le_of_ble_eq_true rfl) dX6_breath_5 ?_
  refine aw_astore_n X dX6_breath_8 (by decide) rfl ?_
  refine aw_aload_n X 0 dX6_breath_9 rfl ?_
  refine aw_ifnonnull X 19 dX6_breath_10 rfl (fun c1 => ?_) (fun c1 => ?_)
  · replace h := zifp c1 h
    refine aw_aload_n X 1 dX6_breath_13 rfl ?_
    refine aw_iconst (v := (-1)) X dX6_breath_14 (by decide) ?_
    refine aw_callV X (as := [vI (-1)]) mf_X6_refuse zw_267 h zs_1 rfl rfl (by decide) (Nat.le_of_ble_eq_true rfl) dX6_breath_15 (fun v I2 L2 h => ?_)
    obtain ⟨r2, rfl, h⟩ := h
    exact aw_iret X E rfl dX6_breath_18 h
  · replace h := zifn c1 h
    refine aw_iload_n X 3 dX6_breath_19 rfl ?_
    refine aw_pS X (as := [vI a2]) mf_X6_isCell zw_567 (p_X6_isCell) rfl rfl (by decide) (Nat.le_of_ble_eq_true rfl) dX6_breath_20 ?_
    refine aw_if_ne X 33 dX6_breath_23 rfl (fun c3 => ?_) (fun c3 => ?_)
    · replace h := zifn c3 h
      refine aw_aload_n X 0 dX6_breath_33 rfl ?_
      refine aw_iload_n X 3 dX6_breath_34 rfl ?_
      refine aw_callV X (as := [vI a2]) mf_X1_breatheOn zw_723 h (nn_X4_paneAt zs_2 c1) rfl rfl (by decide) (Nat.le_of_ble_eq_true rfl) dX6_breath_35 (fun v I4 L4 h => ?_)
      obtain ⟨r4, rfl, h⟩ := h
      exact aw_iret X E rfl dX6_breath_38 h
    · replace h := zifp c3 h
      refine aw_aload_n X 1 dX6_breath_26 rfl ?_
      refine aw_bipush (v := (-5)) X dX6_breath_27 (by decide) ?_
      refine aw_callV X (as := [vI (-5)]) mf_X6_refuse zw_267 h zs_1 rfl rfl (by decide) (Nat.le_of_ble_eq_true rfl) dX6_breath_29 (fun v I5 L5 h => ?_)
      obtain ⟨r5, rfl, h⟩ := h
      exact aw_iret X E rfl dX6_breath_32 h
def v_X6_isHour (a1 : Int32) : Int32 := if a1 < 0 then 0 else if 24 < a1 then 0 else (1 : Int32)
set_option maxRecDepth 100000 in
theorem p_X6_isHour {l : Launch} {g : zG} {I : zI} {L : zL} {a1 : Int32}  : Call l g 1 M_X6_isHour [vI a1] I L (zp (some (vI (v_X6_isHour a1))) I L) := by
  refine aw_entry (by decide) (Nat.le_of_ble_eq_true rfl) (fun k hk (X : zX k g cX6_isHour RX6 1 (some .boolean) 1) E => ?_)
  show AW k g 1 I L 0 [(0, vI a1)] []
  subst hk
  have hJ : ∀ w1 : Int32, w1 = (if a1 < 0 then 0 else if 24 < a1 then 0 else (1 : Int32)) → zp (some (vI (v_X6_isHour a1))) I L (some (vI w1)) I L := fun w1 e1 => ⟨by rw [e1]; rfl, rfl, rfl⟩
  refine aw_iload_n X 0 dX6_isHour_0 rfl ?_
  have hJ3 : ∀ (w1 : Int32), w1 = (if a1 < 0 then 0 else if 24 < a1 then 0 else (1 : Int32)) → AW k g 1 I L 15 [] [vI w1] := by
    intro w1 q1
    subst q1
    exact aw_zret X E rfl (by (repeat' split) <;> first | exact Or.inl rfl | exact Or.inr rfl) dX6_isHour_15 (hJ _ rfl)
  refine aw_if_lt X 14 dX6_isHour_1 rfl (fun c1 => ?_) (fun c1 => ?_)
  · refine aw_iconst (v := 0) X dX6_isHour_14 (by decide) ?_
    refine aw_perm (ks9 := []) [] rfl ?_
    exact hJ3 _ (if_pos c1).symm
  · refine aw_iload_n X 0 dX6_isHour_4 rfl ?_
    refine aw_bipush (v := 24) X dX6_isHour_5 (by decide) ?_
    refine aw_icmp_gt X 14 dX6_isHour_7 rfl (fun c2 => ?_) (fun c2 => ?_)
    · refine aw_iconst (v := 0) X dX6_isHour_14 (by decide) ?_
      refine aw_perm (ks9 := []) [] rfl ?_
      exact hJ3 _ ((if_pos c2).symm.trans (if_neg c1).symm)
    · refine aw_iconst (v := 1) X dX6_isHour_10 (by decide) ?_
      refine aw_goto X 15 dX6_isHour_11 rfl ?_
      refine aw_perm (ks9 := []) [] rfl ?_
      exact hJ3 _ ((if_neg c2).symm.trans (if_neg c1).symm)
theorem b_X6_isHour {a1 : Int32} : v_X6_isHour a1 = 0 ∨ v_X6_isHour a1 = 1 := by
  unfold v_X6_isHour
  repeat' split
  all_goals first | exact Or.inl rfl | exact Or.inr rfl
def v_X6_isShape (a1 : Int32) : Int32 := if a1 < 0 then 0 else if 65535 < a1 then 0 else (1 : Int32)
set_option maxRecDepth 100000 in
theorem p_X6_isShape {l : Launch} {g : zG} {I : zI} {L : zL} {a1 : Int32}  : Call l g 1 M_X6_isShape [vI a1] I L (zp (some (vI (v_X6_isShape a1))) I L) := by
  refine aw_entry (by decide) (Nat.le_of_ble_eq_true rfl) (fun k hk (X : zX k g cX6_isShape RX6 1 (some .boolean) 1) E => ?_)
  show AW k g 1 I L 0 [(0, vI a1)] []
  subst hk
  have hJ : ∀ w1 : Int32, w1 = (if a1 < 0 then 0 else if 65535 < a1 then 0 else (1 : Int32)) → zp (some (vI (v_X6_isShape a1))) I L (some (vI w1)) I L := fun w1 e1 => ⟨by rw [e1]; rfl, rfl, rfl⟩
  refine aw_iload_n X 0 dX6_isShape_0 rfl ?_
  have hJ3 : ∀ (w1 : Int32), w1 = (if a1 < 0 then 0 else if 65535 < a1 then 0 else (1 : Int32)) → AW k g 1 I L 15 [] [vI w1] := by
    intro w1 q1
    subst q1
    exact aw_zret X E rfl (by (repeat' split) <;> first | exact Or.inl rfl | exact Or.inr rfl) dX6_isShape_15 (hJ _ rfl)
  refine aw_if_lt X 14 dX6_isShape_1 rfl (fun c1 => ?_) (fun c1 => ?_)
  · refine aw_iconst (v := 0) X dX6_isShape_14 (by decide) ?_
    refine aw_perm (ks9 := []) [] rfl ?_
    exact hJ3 _ (if_pos c1).symm
  · refine aw_iload_n X 0 dX6_isShape_4 rfl ?_
    refine aw_ldc X zw_337 dX6_isShape_5 ?_
    refine aw_icmp_gt X 14 dX6_isShape_7 rfl (fun c2 => ?_) (fun c2 => ?_)
    · refine aw_iconst (v := 0) X dX6_isShape_14 (by decide) ?_
      refine aw_perm (ks9 := []) [] rfl ?_
      exact hJ3 _ ((if_pos c2).symm.trans (if_neg c1).symm)
    · refine aw_iconst (v := 1) X dX6_isShape_10 (by decide) ?_
      refine aw_goto X 15 dX6_isShape_11 rfl ?_
      refine aw_perm (ks9 := []) [] rfl ?_
      exact hJ3 _ ((if_neg c2).symm.trans (if_neg c1).symm)
theorem b_X6_isShape {a1 : Int32} : v_X6_isShape a1 = 0 ∨ v_X6_isShape a1 = 1 := by
  unfold v_X6_isShape
  repeat' split
  all_goals first | exact Or.inl rfl | exact Or.inr rfl
set_option maxRecDepth 100000 in
theorem m_X6_could {l : Launch} {g : zG} {Q : Option zv → zI → zL → Prop} {I : zI} {L : zL} {a1 : Int32} {a2 : Int32} {a3 : Int32}  (h : if (v_X4_paneAt I 2 a1) = 0 then (Call l g 1 M_X6_refuse [vR 1, vI (-1)] I L (zi fun r2 I2 L2 => Q (some (vI r2)) I2 L2)) else (if (v_X6_isShape a2) = 0 then (Call l g 1 M_X6_refuse [vR 1, vI (-6)] I L (zi fun r4 I4 L4 => Q (some (vI r4)) I4 L4)) else (if (v_X6_isHour a3) = 0 then (Call l g 1 M_X6_refuse [vR 1, vI (-6)] I L (zi fun r7 I7 L7 => Q (some (vI r7)) I7 L7)) else (Call l g 6 M_X5_lettersThatShow [vR 59, vR (v_X4_paneAt I 2 a1), vI a2, vI a3] I L (zi fun r6 I6 L6 => Q (some (vI r6)) I6 L6))))) : Call l g 7 M_X6_could [vR 1, vI a1, vI a2, vI a3] I L Q := by
  refine aw_entry (by decide) (Nat.le_of_ble_eq_true rfl) (fun k hk (X : zX k g cX6_could RX6 5 (some .int) 7) E => ?_)
  show AW k g 5 I L 0 [(0, vR 1), (1, vI a1), (2, vI a2), (3, vI a3)] []
  subst hk
  refine aw_aload_n X 0 dX6_could_0 rfl ?_
  refine aw_getR X zf_RX6_10 rfl zs_1 zr_1_0 dX6_could_1 ?_
  refine aw_iload_n X 1 dX6_could_4 rfl ?_
  refine aw_pV X (as := [vI a1]) mf_X4_paneAt zw_310 (p_X4_paneAt zs_2) zs_2 rfl rfl (by decide) (Nat.le_of_ble_eq_true rfl) dX6_could_5 ?_
  refine aw_astore X dX6_could_8 (by decide) rfl ?_
  refine aw_aload X 0 dX6_could_10 rfl ?_
  refine aw_ifnonnull X 21 dX6_could_12 rfl (fun c1 => ?_) (fun c1 => ?_)
  · replace h := zifp c1 h
    refine aw_aload_n X 1 dX6_could_15 rfl ?_
    refine aw_iconst (v := (-1)) X dX6_could_16 (by decide) ?_
    refine aw_callV X (as := [vI (-1)]) mf_X6_refuse zw_267 h zs_1 rfl rfl (by decide) (Nat.le_of_ble_eq_true rfl) dX6_could_17 (fun v I2 L2 h => ?_)
    obtain ⟨r2, rfl, h⟩ := h
    exact aw_iret X E rfl dX6_could_20 h
  · replace h := zifn c1 h
    refine aw_iload_n X 3 dX6_could_21 rfl ?_
    refine aw_pS X (as := [vI a2]) mf_X6_isShape zw_334 (p_X6_isShape) rfl rfl (by decide) (Nat.le_of_ble_eq_true rfl) dX6_could_22 ?_
    refine aw_if_eq X 35 dX6_could_25 rfl (fun c3 => ?_) (fun c3 => ?_)
    · replace h := zifp c3 h
      refine aw_aload_n X 1 dX6_could_35 rfl ?_
      refine aw_bipush (v := (-6)) X dX6_could_36 (by decide) ?_
      refine aw_callV X (as := [vI (-6)]) mf_X6_refuse zw_267 h zs_1 rfl rfl (by decide) (Nat.le_of_ble_eq_true rfl) dX6_could_38 (fun v I4 L4 h => ?_)
      obtain ⟨r4, rfl, h⟩ := h
      exact aw_iret X E rfl dX6_could_41 h
    · replace h := zifn c3 h
      refine aw_iload_n X 4 dX6_could_28 rfl ?_
      refine aw_pS X (as := [vI a3]) mf_X6_isHour zw_570 (p_X6_isHour) rfl rfl (by decide) (Nat.le_of_ble_eq_true rfl) dX6_could_29 ?_
      refine aw_if_ne X 42 dX6_could_32 rfl (fun c5 => ?_) (fun c5 => ?_)
      · replace h := zifn c5 h
        refine aw_aload_n X 1 dX6_could_42 rfl ?_
        refine aw_getR X zf_RX6_27 rfl zs_1 zr_1_3 dX6_could_43 ?_
        refine aw_aload X 0 dX6_could_46 rfl ?_
        refine aw_iload_n X 3 dX6_could_48 rfl ?_
        refine aw_iload_n X 4 dX6_could_49 rfl ?_
        refine aw_callV X (as := [vR (v_X4_paneAt I 2 a1), vI a2, vI a3]) mf_X5_lettersThatShow zw_690 h zs_59 rfl rfl (by decide) (Nat.le_of_ble_eq_true rfl) dX6_could_50 (fun v I6 L6 h => ?_)
        obtain ⟨r6, rfl, h⟩ := h
        exact aw_iret X E rfl dX6_could_53 h
      · replace h := zifp c5 h
        refine aw_aload_n X 1 dX6_could_35 rfl ?_
        refine aw_bipush (v := (-6)) X dX6_could_36 (by decide) ?_
        refine aw_callV X (as := [vI (-6)]) mf_X6_refuse zw_267 h zs_1 rfl rfl (by decide) (Nat.le_of_ble_eq_true rfl) dX6_could_38 (fun v I7 L7 h => ?_)
        obtain ⟨r7, rfl, h⟩ := h
        exact aw_iret X E rfl dX6_could_41 h
def v_X6_shelfAt (a1 : Int32) : Nat := if a1 < 0 then 0 else if a1 < 8 then 66 + 2 * a1.toNatClampNeg else (0 : Nat)
set_option maxRecDepth 100000 in
theorem p_X6_shelfAt {l : Launch} {g : zG} {I : zI} {L : zL} {a1 : Int32}  : Call l g 1 M_X6_shelfAt [vR 1, vI a1] I L (zp (some (vR (v_X6_shelfAt a1))) I L) := by
  refine aw_entry (by decide) (Nat.le_of_ble_eq_true rfl) (fun k hk (X : zX k g cX6_shelfAt RX6 2 (some (.object "PrintedByFrost$Shelf")) 1) E => ?_)
  show AW k g 2 I L 0 [(0, vR 1), (1, vI a1)] []
  subst hk
  have hJ : ∀ w1 : Nat, w1 = (if a1 < 0 then 0 else if a1 < 8 then 66 + 2 * a1.toNatClampNeg else (0 : Nat)) → zp (some (vR (v_X6_shelfAt a1))) I L (some (vR w1)) I L := fun w1 e1 => ⟨by rw [e1]; rfl, rfl, rfl⟩
  refine aw_iload_n X 1 dX6_shelfAt_0 rfl ?_
  have hJ3 : ∀ (w1 : Nat), w1 = (if a1 < 0 then 0 else if a1 < 8 then 66 + 2 * a1.toNatClampNeg else (0 : Nat)) → AW k g 2 I L 23 [] [vR w1] := by
    intro w1 q1
    subst q1
    exact aw_aret X E rfl dX6_shelfAt_23 (hJ _ rfl)
  refine aw_if_lt X 22 dX6_shelfAt_1 rfl (fun c1 => ?_) (fun c1 => ?_)
  · refine aw_null X dX6_shelfAt_22 ?_
    refine aw_perm (ks9 := []) [] rfl ?_
    exact hJ3 _ (if_pos c1).symm
  · refine aw_iload_n X 1 dX6_shelfAt_4 rfl ?_
    refine aw_aload_n X 0 dX6_shelfAt_5 rfl ?_
    refine aw_getR X zf_RX6_33 rfl zs_1 zr_1_4 dX6_shelfAt_6 ?_
    refine aw_alen (v := 8) X zs_65 (by decide) (by decide) dX6_shelfAt_9 ?_
    refine aw_icmp_gen X 22 dX6_shelfAt_10 rfl (fun c2 => ?_) (fun c2 => ?_)
    · refine aw_aload_n X 0 dX6_shelfAt_13 rfl ?_
      refine aw_getR X zf_RX6_33 rfl zs_1 zr_1_4 dX6_shelfAt_14 ?_
      refine aw_iload_n X 1 dX6_shelfAt_17 rfl ?_
      refine aw_aald X zs_65 (by decide) (zinof c1 c2 (by decide)) (zL65 _ (zlt (zinof c1 c2 (by decide)))).1 dX6_shelfAt_18 ?_
      refine aw_goto X 23 dX6_shelfAt_19 rfl ?_
      refine aw_perm (ks9 := []) [] rfl ?_
      exact hJ3 _ ((if_pos c2).symm.trans (if_neg c1).symm)
    · refine aw_null X dX6_shelfAt_22 ?_
      refine aw_perm (ks9 := []) [] rfl ?_
      exact hJ3 _ ((if_neg c2).symm.trans (if_neg c1).symm)
theorem nn_X6_shelfAt {a1 : Int32} (h : ¬ v_X6_shelfAt a1 = 0) : zsh (v_X6_shelfAt a1) = (13, 5) := by
  unfold v_X6_shelfAt at h ⊢
  split at h
  · exact absurd rfl h
  · rename_i c1
    split at h
    · rename_i c2
      rw [if_neg c1, if_pos c2]
      exact (zL65 _ (zlt (zinof c1 c2 (by decide)))).2
    · exact absurd rfl h
def v_X6_element (I : zI) (L : zL) (a1 : Int32) (a2 : Int32) : Int64 := if (v_X6_shelfAt a1) = 0 then 0 else (v_X3_elementAt I L (v_X6_shelfAt a1) a2)
set_option maxRecDepth 100000 in
theorem p_X6_element {l : Launch} {g : zG} {I : zI} {L : zL} {a1 : Int32} {a2 : Int32}  : Call l g 2 M_X6_element [vR 1, vI a1, vI a2] I L (zp (some (vL (v_X6_element I L a1 a2))) I L) := by
  refine aw_entry (by decide) (Nat.le_of_ble_eq_true rfl) (fun k hk (X : zX k g cX6_element RX6 4 (some .long) 2) E => ?_)
  show AW k g 4 I L 0 [(0, vR 1), (1, vI a1), (2, vI a2)] []
  subst hk
  have hJ : ∀ w1 : Int64, w1 = (if (v_X6_shelfAt a1) = 0 then 0 else (v_X3_elementAt I L (v_X6_shelfAt a1) a2)) → zp (some (vL (v_X6_element I L a1 a2))) I L (some (vL w1)) I L := fun w1 e1 => ⟨by rw [e1]; rfl, rfl, rfl⟩
  refine aw_aload_n X 0 dX6_element_0 rfl ?_
  refine aw_iload_n X 1 dX6_element_1 rfl ?_
  refine aw_pV X (as := [vI a1]) mf_X6_shelfAt zw_263 (p_X6_shelfAt) zs_1 rfl rfl (by decide) (Nat.le_of_ble_eq_true rfl) dX6_element_2 ?_
  refine aw_astore_n X dX6_element_5 (by decide) rfl ?_
  refine aw_aload_n X 0 dX6_element_6 rfl ?_
  have hJ2 : ∀ (w1 : Int64), w1 = (if (v_X6_shelfAt a1) = 0 then 0 else (v_X3_elementAt I L (v_X6_shelfAt a1) a2)) → AW k g 4 I L 19 [] [vL w1] := by
    intro w1 q1
    subst q1
    exact aw_lret X E rfl dX6_element_19 (hJ _ rfl)
  refine aw_ifnonnull X 14 dX6_element_7 rfl (fun c1 => ?_) (fun c1 => ?_)
  · refine aw_lconst (v := 0) X dX6_element_10 (by decide) ?_
    refine aw_goto X 19 dX6_element_11 rfl ?_
    refine aw_perm (ks9 := []) [] rfl ?_
    exact hJ2 _ (if_pos c1).symm
  · refine aw_aload_n X 0 dX6_element_14 rfl ?_
    refine aw_iload_n X 3 dX6_element_15 rfl ?_
    refine aw_pV X (as := [vI a2]) mf_X3_elementAt zw_302 (p_X3_elementAt (nn_X6_shelfAt c1)) (nn_X6_shelfAt c1) rfl rfl (by decide) (Nat.le_of_ble_eq_true rfl) dX6_element_16 ?_
    refine aw_perm (ks9 := []) [] rfl ?_
    exact hJ2 _ (if_neg c1).symm
set_option maxRecDepth 100000 in
theorem m_X6_form {l : Launch} {g : zG} {Q : Option zv → zI → zL → Prop} {I : zI} {L : zL} {a1 : Int32}  (h : if (v_X6_isShape a1) = 0 then (Call l g 1 M_X6_refuse [vR 1, vI (-6)] I L (zi fun r5 I5 L5 => Q (some (vI r5)) I5 L5)) else (if (v_X4_hasLetterRoom I 2) = 0 then (Call l g 1 M_X6_refuse [vR 1, vI (-7)] I L (zi fun r4 I4 L4 => Q (some (vI r4)) I4 L4)) else (Call l g 2 M_X4_addLetter [vR 2, vI a1] I L (zi fun r3 I3 L3 => Q (some (vI r3)) I3 L3)))) : Call l g 3 M_X6_form [vR 1, vI a1] I L Q := by
  refine aw_entry (by decide) (Nat.le_of_ble_eq_true rfl) (fun k hk (X : zX k g cX6_form RX6 2 (some .int) 3) E => ?_)
  show AW k g 2 I L 0 [(0, vR 1), (1, vI a1)] []
  subst hk
  refine aw_iload_n X 1 dX6_form_0 rfl ?_
  refine aw_pS X (as := [vI a1]) mf_X6_isShape zw_334 (p_X6_isShape) rfl rfl (by decide) (Nat.le_of_ble_eq_true rfl) dX6_form_1 ?_
  refine aw_if_ne X 14 dX6_form_4 rfl (fun c1 => ?_) (fun c1 => ?_)
  · replace h := zifn c1 h
    refine aw_aload_n X 0 dX6_form_14 rfl ?_
    refine aw_getR X zf_RX6_10 rfl zs_1 zr_1_0 dX6_form_15 ?_
    refine aw_pV X (as := []) mf_X4_hasLetterRoom zw_338 (p_X4_hasLetterRoom zs_2) zs_2 rfl rfl (by decide) (Nat.le_of_ble_eq_true rfl) dX6_form_18 ?_
    refine aw_if_ne X 31 dX6_form_21 rfl (fun c2 => ?_) (fun c2 => ?_)
    · replace h := zifn c2 h
      refine aw_aload_n X 0 dX6_form_31 rfl ?_
      refine aw_getR X zf_RX6_10 rfl zs_1 zr_1_0 dX6_form_32 ?_
      refine aw_iload_n X 1 dX6_form_35 rfl ?_
      refine aw_callV X (as := [vI a1]) mf_X4_addLetter zw_342 h zs_2 rfl rfl (by decide) (Nat.le_of_ble_eq_true rfl) dX6_form_36 (fun v I3 L3 h => ?_)
      obtain ⟨r3, rfl, h⟩ := h
      exact aw_iret X E rfl dX6_form_39 h
    · replace h := zifp c2 h
      refine aw_aload_n X 0 dX6_form_24 rfl ?_
      refine aw_bipush (v := (-7)) X dX6_form_25 (by decide) ?_
      refine aw_callV X (as := [vI (-7)]) mf_X6_refuse zw_267 h zs_1 rfl rfl (by decide) (Nat.le_of_ble_eq_true rfl) dX6_form_27 (fun v I4 L4 h => ?_)
      obtain ⟨r4, rfl, h⟩ := h
      exact aw_iret X E rfl dX6_form_30 h
  · replace h := zifp c1 h
    refine aw_aload_n X 0 dX6_form_7 rfl ?_
    refine aw_bipush (v := (-6)) X dX6_form_8 (by decide) ?_
    refine aw_callV X (as := [vI (-6)]) mf_X6_refuse zw_267 h zs_1 rfl rfl (by decide) (Nat.le_of_ble_eq_true rfl) dX6_form_10 (fun v I5 L5 h => ?_)
    obtain ⟨r5, rfl, h⟩ := h
    exact aw_iret X E rfl dX6_form_13 h
set_option maxRecDepth 100000 in
theorem m_X6_hang {l : Launch} {g : zG} {Q : Option zv → zI → zL → Prop} {I : zI} {L : zL} {a1 : Int32} {a2 : Int32}  (h : if (v_X4_paneAt I 2 a1) = 0 then (Call l g 1 M_X6_refuse [vR 1, vI (-1)] I L (zi fun r2 I2 L2 => Q (some (vI r2)) I2 L2)) else (if (v_X4_isLetterOrNone I 2 a2) = 0 then (Call l g 1 M_X6_refuse [vR 1, vI (-1)] I L (zi fun r7 I7 L7 => Q (some (vI r7)) I7 L7)) else ((∀ I4 : zI, I4 = (zs I (v_X4_paneAt I 2 a1) 3 a2) → Q (some (vI (if a2 = (-1) then 0 else (1 : Int32)))) I4 L)))) : Call l g 3 M_X6_hang [vR 1, vI a1, vI a2] I L Q := by
  refine aw_entry (by decide) (Nat.le_of_ble_eq_true rfl) (fun k hk (X : zX k g cX6_hang RX6 4 (some .int) 3) E => ?_)
  show AW k g 4 I L 0 [(0, vR 1), (1, vI a1), (2, vI a2)] []
  subst hk
  refine aw_aload_n X 0 dX6_hang_0 rfl ?_
  refine aw_getR X zf_RX6_10 rfl zs_1 zr_1_0 dX6_hang_1 ?_
  refine aw_iload_n X 1 dX6_hang_4 rfl ?_
  refine aw_pV X (as := [vI a1]) mf_X4_paneAt zw_310 (p_X4_paneAt zs_2) zs_2 rfl rfl (by decide) (Nat.le_of_ble_eq_true rfl) dX6_hang_5 ?_
  refine aw_astore_n X dX6_hang_8 (by decide) rfl ?_
  refine aw_aload_n X 0 dX6_hang_9 rfl ?_
  refine aw_ifnull X 24 dX6_hang_10 rfl (fun c1 => ?_) (fun c1 => ?_)
  · replace h := zifp c1 h
    refine aw_aload_n X 1 dX6_hang_24 rfl ?_
    refine aw_iconst (v := (-1)) X dX6_hang_25 (by decide) ?_
    refine aw_callV X (as := [vI (-1)]) mf_X6_refuse zw_267 h zs_1 rfl rfl (by decide) (Nat.le_of_ble_eq_true rfl) dX6_hang_26 (fun v I2 L2 h => ?_)
    obtain ⟨r2, rfl, h⟩ := h
    exact aw_iret X E rfl dX6_hang_29 h
  · replace h := zifn c1 h
    refine aw_aload_n X 1 dX6_hang_13 rfl ?_
    refine aw_getR X zf_RX6_10 rfl zs_1 zr_1_0 dX6_hang_14 ?_
    refine aw_iload_n X 3 dX6_hang_17 rfl ?_
    refine aw_pV X (as := [vI a2]) mf_X4_isLetterOrNone zw_392 (p_X4_isLetterOrNone zs_2) zs_2 rfl rfl (by decide) (Nat.le_of_ble_eq_true rfl) dX6_hang_18 ?_
    refine aw_if_ne X 30 dX6_hang_21 rfl (fun c3 => ?_) (fun c3 => ?_)
    · replace h := zifn c3 h
      refine aw_aload_n X 0 dX6_hang_30 rfl ?_
      refine aw_iload_n X 3 dX6_hang_31 rfl ?_
      refine aw_putI X zf_RX6_193 rfl rfl rfl (nn_X4_paneAt zs_2 c1) dX6_hang_32 ?_
      refine aw_iload_n X 3 dX6_hang_35 rfl ?_
      refine aw_iconst (v := (-1)) X dX6_hang_36 (by decide) ?_
      refine aw_nameI (fun I4 e4 => ?_)
      replace h := h I4 e4
      have hJ6 : ∀ (w1 : Int32), w1 = (if a2 = (-1) then 0 else (1 : Int32)) → AW k g 4 I4 L 45 [] [vI w1] := by
        intro w1 q1
        subst q1
        exact aw_iret X E rfl dX6_hang_45 h
      refine aw_icmp_ne X 44 dX6_hang_37 rfl (fun c5 => ?_) (fun c5 => ?_)
      · refine aw_iconst (v := 1) X dX6_hang_44 (by decide) ?_
        refine aw_perm (ks9 := []) [] rfl ?_
        exact hJ6 _ (if_neg c5).symm
      · refine aw_iconst (v := 0) X dX6_hang_40 (by decide) ?_
        refine aw_goto X 45 dX6_hang_41 rfl ?_
        refine aw_perm (ks9 := []) [] rfl ?_
        exact hJ6 _ (if_pos c5).symm
    · replace h := zifp c3 h
      refine aw_aload_n X 1 dX6_hang_24 rfl ?_
      refine aw_iconst (v := (-1)) X dX6_hang_25 (by decide) ?_
      refine aw_callV X (as := [vI (-1)]) mf_X6_refuse zw_267 h zs_1 rfl rfl (by decide) (Nat.le_of_ble_eq_true rfl) dX6_hang_26 (fun v I7 L7 h => ?_)
      obtain ⟨r7, rfl, h⟩ := h
      exact aw_iret X E rfl dX6_hang_29 h
def v_X6_holds (I : zI) (a1 : Int32) : Int32 := if (v_X6_shelfAt a1) = 0 then (-1) else (v_X3_told I (v_X6_shelfAt a1))
set_option maxRecDepth 100000 in
theorem p_X6_holds {l : Launch} {g : zG} {I : zI} {L : zL} {a1 : Int32}  : Call l g 2 M_X6_holds [vR 1, vI a1] I L (zp (some (vI (v_X6_holds I a1))) I L) := by
  refine aw_entry (by decide) (Nat.le_of_ble_eq_true rfl) (fun k hk (X : zX k g cX6_holds RX6 3 (some .int) 2) E => ?_)
  show AW k g 3 I L 0 [(0, vR 1), (1, vI a1)] []
  subst hk
  have hJ : ∀ w1 : Int32, w1 = (if (v_X6_shelfAt a1) = 0 then (-1) else (v_X3_told I (v_X6_shelfAt a1))) → zp (some (vI (v_X6_holds I a1))) I L (some (vI w1)) I L := fun w1 e1 => ⟨by rw [e1]; rfl, rfl, rfl⟩
  refine aw_aload_n X 0 dX6_holds_0 rfl ?_
  refine aw_iload_n X 1 dX6_holds_1 rfl ?_
  refine aw_pV X (as := [vI a1]) mf_X6_shelfAt zw_263 (p_X6_shelfAt) zs_1 rfl rfl (by decide) (Nat.le_of_ble_eq_true rfl) dX6_holds_2 ?_
  refine aw_astore_n X dX6_holds_5 (by decide) rfl ?_
  refine aw_aload_n X 0 dX6_holds_6 rfl ?_
  have hJ2 : ∀ (w1 : Int32), w1 = (if (v_X6_shelfAt a1) = 0 then (-1) else (v_X3_told I (v_X6_shelfAt a1))) → AW k g 3 I L 18 [] [vI w1] := by
    intro w1 q1
    subst q1
    exact aw_iret X E rfl dX6_holds_18 (hJ _ rfl)
  refine aw_ifnonnull X 14 dX6_holds_7 rfl (fun c1 => ?_) (fun c1 => ?_)
  · refine aw_iconst (v := (-1)) X dX6_holds_10 (by decide) ?_
    refine aw_goto X 18 dX6_holds_11 rfl ?_
    refine aw_perm (ks9 := []) [] rfl ?_
    exact hJ2 _ (if_pos c1).symm
  · refine aw_aload_n X 0 dX6_holds_14 rfl ?_
    refine aw_pV X (as := []) mf_X3_told zw_326 (p_X3_told (nn_X6_shelfAt c1)) (nn_X6_shelfAt c1) rfl rfl (by decide) (Nat.le_of_ble_eq_true rfl) dX6_holds_15 ?_
    refine aw_perm (ks9 := []) [] rfl ?_
    exact hJ2 _ (if_neg c1).symm
set_option maxRecDepth 100000 in
theorem m_X6_hours {l : Launch} {g : zG} {Q : Option zv → zI → zL → Prop} {I : zI} {L : zL} {a1 : Int32}  (h : if a1 < 1 then (Call l g 1 M_X6_refuse [vR 1, vI (-6)] I L (zi fun r2 I2 L2 => Q (some (vI r2)) I2 L2)) else (if 24 < a1 then (Call l g 1 M_X6_refuse [vR 1, vI (-6)] I L (zi fun r4 I4 L4 => Q (some (vI r4)) I4 L4)) else (if (24 - a1) < (I 2 7) then (Call l g 1 M_X6_refuse [vR 1, vI (-7)] I L (zi fun r6 I6 L6 => Q (some (vI r6)) I6 L6)) else (Call l g 4 M_X4_passHours [vR 2, vI a1] I L (zi fun r7 I7 L7 => Q (some (vI r7)) I7 L7))))) : Call l g 5 M_X6_hours [vR 1, vI a1] I L Q := by
  refine aw_entry (by decide) (Nat.le_of_ble_eq_true rfl) (fun k hk (X : zX k g cX6_hours RX6 2 (some .int) 5) E => ?_)
  show AW k g 2 I L 0 [(0, vR 1), (1, vI a1)] []
  subst hk
  refine aw_iload_n X 1 dX6_hours_0 rfl ?_
  refine aw_iconst (v := 1) X dX6_hours_1 (by decide) ?_
  refine aw_icmp_lt X 11 dX6_hours_2 rfl (fun c1 => ?_) (fun c1 => ?_)
  · replace h := zifp c1 h
    refine aw_aload_n X 0 dX6_hours_11 rfl ?_
    refine aw_bipush (v := (-6)) X dX6_hours_12 (by decide) ?_
    refine aw_callV X (as := [vI (-6)]) mf_X6_refuse zw_267 h zs_1 rfl rfl (by decide) (Nat.le_of_ble_eq_true rfl) dX6_hours_14 (fun v I2 L2 h => ?_)
    obtain ⟨r2, rfl, h⟩ := h
    exact aw_iret X E rfl dX6_hours_17 h
  · replace h := zifn c1 h
    refine aw_iload_n X 1 dX6_hours_5 rfl ?_
    refine aw_bipush (v := 24) X dX6_hours_6 (by decide) ?_
    refine aw_icmp_len X 18 dX6_hours_8 rfl (fun c3 => ?_) (fun c3 => ?_)
    · replace h := zifp c3 h
      refine aw_aload_n X 0 dX6_hours_11 rfl ?_
      refine aw_bipush (v := (-6)) X dX6_hours_12 (by decide) ?_
      refine aw_callV X (as := [vI (-6)]) mf_X6_refuse zw_267 h zs_1 rfl rfl (by decide) (Nat.le_of_ble_eq_true rfl) dX6_hours_14 (fun v I4 L4 h => ?_)
      obtain ⟨r4, rfl, h⟩ := h
      exact aw_iret X E rfl dX6_hours_17 h
    · replace h := zifn c3 h
      refine aw_aload_n X 0 dX6_hours_18 rfl ?_
      refine aw_getR X zf_RX6_10 rfl zs_1 zr_1_0 dX6_hours_19 ?_
      refine aw_getI X zf_RX6_302 rfl zs_2 dX6_hours_22 ?_
      refine aw_bipush (v := 24) X dX6_hours_25 (by decide) ?_
      refine aw_iload_n X 1 dX6_hours_27 rfl ?_
      refine aw_isub X dX6_hours_28 ?_
      refine aw_icmp_len X 39 dX6_hours_29 rfl (fun c5 => ?_) (fun c5 => ?_)
      · replace h := zifp c5 h
        refine aw_aload_n X 0 dX6_hours_32 rfl ?_
        refine aw_bipush (v := (-7)) X dX6_hours_33 (by decide) ?_
        refine aw_callV X (as := [vI (-7)]) mf_X6_refuse zw_267 h zs_1 rfl rfl (by decide) (Nat.le_of_ble_eq_true rfl) dX6_hours_35 (fun v I6 L6 h => ?_)
        obtain ⟨r6, rfl, h⟩ := h
        exact aw_iret X E rfl dX6_hours_38 h
      · replace h := zifn c5 h
        refine aw_aload_n X 0 dX6_hours_39 rfl ?_
        refine aw_getR X zf_RX6_10 rfl zs_1 zr_1_0 dX6_hours_40 ?_
        refine aw_iload_n X 1 dX6_hours_43 rfl ?_
        refine aw_callV X (as := [vI a1]) mf_X4_passHours zw_714 h zs_2 rfl rfl (by decide) (Nat.le_of_ble_eq_true rfl) dX6_hours_44 (fun v I7 L7 h => ?_)
        obtain ⟨r7, rfl, h⟩ := h
        exact aw_iret X E rfl dX6_hours_47 h
set_option maxRecDepth 100000 in
theorem m_X6_ice {l : Launch} {g : zG} {Q : Option zv → zI → zL → Prop} {I : zI} {L : zL} {a1 : Int32} {a2 : Int32} {a3 : Int32} {a4 : Int32}  (h : if (v_X4_paneAt I 2 a1) = 0 then (Call l g 1 M_X6_refuse [vR 1, vI (-1)] I L (zi fun r2 I2 L2 => Q (some (vI r2)) I2 L2)) else (if (v_X4_isLetterOrNone I 2 a2) = 0 then (Call l g 1 M_X6_refuse [vR 1, vI (-1)] I L (zi fun r9 I9 L9 => Q (some (vI r9)) I9 L9)) else (if (v_X6_isCell a4) = 0 then (Call l g 1 M_X6_refuse [vR 1, vI (-5)] I L (zi fun r8 I8 L8 => Q (some (vI r8)) I8 L8)) else (if (v_X6_isHour a3) = 0 then (Call l g 1 M_X6_refuse [vR 1, vI (-6)] I L (zi fun r7 I7 L7 => Q (some (vI r7)) I7 L7)) else (Call l g 6 M_X5_iceAt [vR 59, vR (v_X4_paneAt I 2 a1), vI a2, vI a3, vI a4] I L (zi fun r6 I6 L6 => Q (some (vI r6)) I6 L6)))))) : Call l g 7 M_X6_ice [vR 1, vI a1, vI a2, vI a3, vI a4] I L Q := by
  refine aw_entry (by decide) (Nat.le_of_ble_eq_true rfl) (fun k hk (X : zX k g cX6_ice RX6 6 (some .int) 7) E => ?_)
  show AW k g 6 I L 0 [(0, vR 1), (1, vI a1), (2, vI a2), (3, vI a3), (4, vI a4)] []
  subst hk
  refine aw_aload_n X 0 dX6_ice_0 rfl ?_
  refine aw_getR X zf_RX6_10 rfl zs_1 zr_1_0 dX6_ice_1 ?_
  refine aw_iload_n X 1 dX6_ice_4 rfl ?_
  refine aw_pV X (as := [vI a1]) mf_X4_paneAt zw_310 (p_X4_paneAt zs_2) zs_2 rfl rfl (by decide) (Nat.le_of_ble_eq_true rfl) dX6_ice_5 ?_
  refine aw_astore X dX6_ice_8 (by decide) rfl ?_
  refine aw_aload X 0 dX6_ice_10 rfl ?_
  refine aw_ifnull X 26 dX6_ice_12 rfl (fun c1 => ?_) (fun c1 => ?_)
  · replace h := zifp c1 h
    refine aw_aload_n X 1 dX6_ice_26 rfl ?_
    refine aw_iconst (v := (-1)) X dX6_ice_27 (by decide) ?_
    refine aw_callV X (as := [vI (-1)]) mf_X6_refuse zw_267 h zs_1 rfl rfl (by decide) (Nat.le_of_ble_eq_true rfl) dX6_ice_28 (fun v I2 L2 h => ?_)
    obtain ⟨r2, rfl, h⟩ := h
    exact aw_iret X E rfl dX6_ice_31 h
  · replace h := zifn c1 h
    refine aw_aload_n X 1 dX6_ice_15 rfl ?_
    refine aw_getR X zf_RX6_10 rfl zs_1 zr_1_0 dX6_ice_16 ?_
    refine aw_iload_n X 3 dX6_ice_19 rfl ?_
    refine aw_pV X (as := [vI a2]) mf_X4_isLetterOrNone zw_392 (p_X4_isLetterOrNone zs_2) zs_2 rfl rfl (by decide) (Nat.le_of_ble_eq_true rfl) dX6_ice_20 ?_
    refine aw_if_ne X 32 dX6_ice_23 rfl (fun c3 => ?_) (fun c3 => ?_)
    · replace h := zifn c3 h
      refine aw_iload X 5 dX6_ice_32 rfl ?_
      refine aw_pS X (as := [vI a4]) mf_X6_isCell zw_567 (p_X6_isCell) rfl rfl (by decide) (Nat.le_of_ble_eq_true rfl) dX6_ice_34 ?_
      refine aw_if_ne X 47 dX6_ice_37 rfl (fun c4 => ?_) (fun c4 => ?_)
      · replace h := zifn c4 h
        refine aw_iload_n X 4 dX6_ice_47 rfl ?_
        refine aw_pS X (as := [vI a3]) mf_X6_isHour zw_570 (p_X6_isHour) rfl rfl (by decide) (Nat.le_of_ble_eq_true rfl) dX6_ice_48 ?_
        refine aw_if_ne X 61 dX6_ice_51 rfl (fun c5 => ?_) (fun c5 => ?_)
        · replace h := zifn c5 h
          refine aw_aload_n X 1 dX6_ice_61 rfl ?_
          refine aw_getR X zf_RX6_27 rfl zs_1 zr_1_3 dX6_ice_62 ?_
          refine aw_aload X 0 dX6_ice_65 rfl ?_
          refine aw_iload_n X 3 dX6_ice_67 rfl ?_
          refine aw_iload_n X 4 dX6_ice_68 rfl ?_
          refine aw_iload X 5 dX6_ice_69 rfl ?_
          refine aw_callV X (as := [vR (v_X4_paneAt I 2 a1), vI a2, vI a3, vI a4]) mf_X5_iceAt zw_573 h zs_59 rfl rfl (by decide) (Nat.le_of_ble_eq_true rfl) dX6_ice_71 (fun v I6 L6 h => ?_)
          obtain ⟨r6, rfl, h⟩ := h
          exact aw_iret X E rfl dX6_ice_74 h
        · replace h := zifp c5 h
          refine aw_aload_n X 1 dX6_ice_54 rfl ?_
          refine aw_bipush (v := (-6)) X dX6_ice_55 (by decide) ?_
          refine aw_callV X (as := [vI (-6)]) mf_X6_refuse zw_267 h zs_1 rfl rfl (by decide) (Nat.le_of_ble_eq_true rfl) dX6_ice_57 (fun v I7 L7 h => ?_)
          obtain ⟨r7, rfl, h⟩ := h
          exact aw_iret X E rfl dX6_ice_60 h
      · replace h := zifp c4 h
        refine aw_aload_n X 1 dX6_ice_40 rfl ?_
        refine aw_bipush (v := (-5)) X dX6_ice_41 (by decide) ?_
        refine aw_callV X (as := [vI (-5)]) mf_X6_refuse zw_267 h zs_1 rfl rfl (by decide) (Nat.le_of_ble_eq_true rfl) dX6_ice_43 (fun v I8 L8 h => ?_)
        obtain ⟨r8, rfl, h⟩ := h
        exact aw_iret X E rfl dX6_ice_46 h
    · replace h := zifp c3 h
      refine aw_aload_n X 1 dX6_ice_26 rfl ?_
      refine aw_iconst (v := (-1)) X dX6_ice_27 (by decide) ?_
      refine aw_callV X (as := [vI (-1)]) mf_X6_refuse zw_267 h zs_1 rfl rfl (by decide) (Nat.le_of_ble_eq_true rfl) dX6_ice_28 (fun v I9 L9 h => ?_)
      obtain ⟨r9, rfl, h⟩ := h
      exact aw_iret X E rfl dX6_ice_31 h
set_option maxRecDepth 100000 in
theorem m_X6_image {l : Launch} {g : zG} {Q : Option zv → zI → zL → Prop} {I : zI} {L : zL}   (h : Call l g 3 M_X4_takeAll [vR 21, vR 2] I L (zn fun I1 L1 => (∀ I2 : zI, I2 = (zs I1 1 8 1) → Q (some (vI (I2 2 3))) I2 L1))) : Call l g 4 M_X6_image [vR 1] I L Q := by
  refine aw_entry (by decide) (Nat.le_of_ble_eq_true rfl) (fun k hk (X : zX k g cX6_image RX6 1 (some .int) 4) E => ?_)
  show AW k g 1 I L 0 [(0, vR 1)] []
  subst hk
  refine aw_aload_n X 0 dX6_image_0 rfl ?_
  refine aw_getR X zf_RX6_16 rfl zs_1 zr_1_1 dX6_image_1 ?_
  refine aw_aload_n X 0 dX6_image_4 rfl ?_
  refine aw_getR X zf_RX6_10 rfl zs_1 zr_1_0 dX6_image_5 ?_
  refine aw_callV X (as := [vR 2]) mf_X4_takeAll zw_422 h zs_21 rfl rfl (by decide) (Nat.le_of_ble_eq_true rfl) dX6_image_8 (fun v I1 L1 h => ?_)
  obtain ⟨rfl, h⟩ := h
  refine aw_aload_n X 0 dX6_image_11 rfl ?_
  refine aw_iconst (v := 1) X dX6_image_12 (by decide) ?_
  refine aw_putZ X zf_RX6_56 rfl rfl rfl (Or.inr rfl) zs_1 dX6_image_13 ?_
  refine aw_aload_n X 0 dX6_image_16 rfl ?_
  refine aw_nameI (fun I2 e2 => ?_)
  replace h := h I2 e2
  refine aw_getR X zf_RX6_10 rfl zs_1 zr_1_0 dX6_image_17 ?_
  refine aw_getI X zf_RX6_246 rfl zs_2 dX6_image_20 ?_
  exact aw_iret X E rfl dX6_image_23 h
set_option maxRecDepth 100000 in
theorem m_X6_refuseNobody {l : Launch} {g : zG} {Q : Option zv → zI → zL → Prop} {I : zI} {L : zL}   (h : Call l g 1 M_X6_refuse [vR 1, vI (-1)] I L (zi fun r1 I1 L1 => Q (some (vI (-11))) I1 L1)) : Call l g 2 M_X6_refuseNobody [vR 1] I L Q := by
  refine aw_entry (by decide) (Nat.le_of_ble_eq_true rfl) (fun k hk (X : zX k g cX6_refuseNobody RX6 1 (some .int) 2) E => ?_)
  show AW k g 1 I L 0 [(0, vR 1)] []
  subst hk
  refine aw_aload_n X 0 dX6_refuseNobody_0 rfl ?_
  refine aw_iconst (v := (-1)) X dX6_refuseNobody_1 (by decide) ?_
  refine aw_callV X (as := [vI (-1)]) mf_X6_refuse zw_267 h zs_1 rfl rfl (by decide) (Nat.le_of_ble_eq_true rfl) dX6_refuseNobody_2 (fun v I1 L1 h => ?_)
  obtain ⟨r1, rfl, h⟩ := h
  refine aw_pop X dX6_refuseNobody_5 rfl ?_
  refine aw_bipush (v := (-11)) X dX6_refuseNobody_6 (by decide) ?_
  exact aw_iret X E rfl dX6_refuseNobody_8 h
set_option maxRecDepth 100000 in
theorem m_X6_lasts {l : Launch} {g : zG} {Q : Option zv → zI → zL → Prop} {I : zI} {L : zL} {a1 : Int32} {a2 : Int32}  (h : if (v_X4_paneAt I 2 a1) = 0 then (Call l g 2 M_X6_refuseNobody [vR 1] I L (zi fun r2 I2 L2 => Q (some (vI r2)) I2 L2)) else (if (v_X4_isLetter I 2 a2) = 0 then (Call l g 2 M_X6_refuseNobody [vR 1] I L (zi fun r5 I5 L5 => Q (some (vI r5)) I5 L5)) else (Call l g 5 M_X5_lastHour [vR 59, vR (v_X4_paneAt I 2 a1), vI a2] I L (zi fun r4 I4 L4 => Q (some (vI r4)) I4 L4)))) : Call l g 6 M_X6_lasts [vR 1, vI a1, vI a2] I L Q := by
  refine aw_entry (by decide) (Nat.le_of_ble_eq_true rfl) (fun k hk (X : zX k g cX6_lasts RX6 4 (some .int) 6) E => ?_)
  show AW k g 4 I L 0 [(0, vR 1), (1, vI a1), (2, vI a2)] []
  subst hk
  refine aw_aload_n X 0 dX6_lasts_0 rfl ?_
  refine aw_getR X zf_RX6_10 rfl zs_1 zr_1_0 dX6_lasts_1 ?_
  refine aw_iload_n X 1 dX6_lasts_4 rfl ?_
  refine aw_pV X (as := [vI a1]) mf_X4_paneAt zw_310 (p_X4_paneAt zs_2) zs_2 rfl rfl (by decide) (Nat.le_of_ble_eq_true rfl) dX6_lasts_5 ?_
  refine aw_astore_n X dX6_lasts_8 (by decide) rfl ?_
  refine aw_aload_n X 0 dX6_lasts_9 rfl ?_
  refine aw_ifnull X 24 dX6_lasts_10 rfl (fun c1 => ?_) (fun c1 => ?_)
  · replace h := zifp c1 h
    refine aw_aload_n X 1 dX6_lasts_24 rfl ?_
    refine aw_callV X (as := []) mf_X6_refuseNobody zw_644 h zs_1 rfl rfl (by decide) (Nat.le_of_ble_eq_true rfl) dX6_lasts_25 (fun v I2 L2 h => ?_)
    obtain ⟨r2, rfl, h⟩ := h
    exact aw_iret X E rfl dX6_lasts_28 h
  · replace h := zifn c1 h
    refine aw_aload_n X 1 dX6_lasts_13 rfl ?_
    refine aw_getR X zf_RX6_10 rfl zs_1 zr_1_0 dX6_lasts_14 ?_
    refine aw_iload_n X 3 dX6_lasts_17 rfl ?_
    refine aw_pV X (as := [vI a2]) mf_X4_isLetter zw_661 (p_X4_isLetter zs_2) zs_2 rfl rfl (by decide) (Nat.le_of_ble_eq_true rfl) dX6_lasts_18 ?_
    refine aw_if_ne X 29 dX6_lasts_21 rfl (fun c3 => ?_) (fun c3 => ?_)
    · replace h := zifn c3 h
      refine aw_aload_n X 1 dX6_lasts_29 rfl ?_
      refine aw_getR X zf_RX6_27 rfl zs_1 zr_1_3 dX6_lasts_30 ?_
      refine aw_aload_n X 0 dX6_lasts_33 rfl ?_
      refine aw_iload_n X 3 dX6_lasts_34 rfl ?_
      refine aw_callV X (as := [vR (v_X4_paneAt I 2 a1), vI a2]) mf_X5_lastHour zw_662 h zs_59 rfl rfl (by decide) (Nat.le_of_ble_eq_true rfl) dX6_lasts_35 (fun v I4 L4 h => ?_)
      obtain ⟨r4, rfl, h⟩ := h
      exact aw_iret X E rfl dX6_lasts_38 h
    · replace h := zifp c3 h
      refine aw_aload_n X 1 dX6_lasts_24 rfl ?_
      refine aw_callV X (as := []) mf_X6_refuseNobody zw_644 h zs_1 rfl rfl (by decide) (Nat.le_of_ble_eq_true rfl) dX6_lasts_25 (fun v I5 L5 h => ?_)
      obtain ⟨r5, rfl, h⟩ := h
      exact aw_iret X E rfl dX6_lasts_28 h
set_option maxRecDepth 100000 in
theorem m_X6_melt {l : Launch} {g : zG} {Q : Option zv → zI → zL → Prop} {I : zI} {L : zL} {a1 : Int32} {a2 : Int32}  (h : if (v_X4_paneAt I 2 a1) = 0 then (Call l g 1 M_X6_refuse [vR 1, vI (-1)] I L (zi fun r2 I2 L2 => Q (some (vI r2)) I2 L2)) else (if a2 < 0 then (Call l g 1 M_X6_refuse [vR 1, vI (-6)] I L (zi fun r4 I4 L4 => Q (some (vI r4)) I4 L4)) else (if a2 < 24 then (Q (some (vI (v_X1_melting I (v_X4_paneAt I 2 a1) a2 (I 2 6)))) I L) else (Call l g 1 M_X6_refuse [vR 1, vI (-6)] I L (zi fun r6 I6 L6 => Q (some (vI r6)) I6 L6))))) : Call l g 3 M_X6_melt [vR 1, vI a1, vI a2] I L Q := by
  refine aw_entry (by decide) (Nat.le_of_ble_eq_true rfl) (fun k hk (X : zX k g cX6_melt RX6 4 (some .int) 3) E => ?_)
  show AW k g 4 I L 0 [(0, vR 1), (1, vI a1), (2, vI a2)] []
  subst hk
  refine aw_aload_n X 0 dX6_melt_0 rfl ?_
  refine aw_getR X zf_RX6_10 rfl zs_1 zr_1_0 dX6_melt_1 ?_
  refine aw_iload_n X 1 dX6_melt_4 rfl ?_
  refine aw_pV X (as := [vI a1]) mf_X4_paneAt zw_310 (p_X4_paneAt zs_2) zs_2 rfl rfl (by decide) (Nat.le_of_ble_eq_true rfl) dX6_melt_5 ?_
  refine aw_astore_n X dX6_melt_8 (by decide) rfl ?_
  refine aw_aload_n X 0 dX6_melt_9 rfl ?_
  refine aw_ifnonnull X 19 dX6_melt_10 rfl (fun c1 => ?_) (fun c1 => ?_)
  · replace h := zifp c1 h
    refine aw_aload_n X 1 dX6_melt_13 rfl ?_
    refine aw_iconst (v := (-1)) X dX6_melt_14 (by decide) ?_
    refine aw_callV X (as := [vI (-1)]) mf_X6_refuse zw_267 h zs_1 rfl rfl (by decide) (Nat.le_of_ble_eq_true rfl) dX6_melt_15 (fun v I2 L2 h => ?_)
    obtain ⟨r2, rfl, h⟩ := h
    exact aw_iret X E rfl dX6_melt_18 h
  · replace h := zifn c1 h
    refine aw_iload_n X 3 dX6_melt_19 rfl ?_
    refine aw_if_lt X 29 dX6_melt_20 rfl (fun c3 => ?_) (fun c3 => ?_)
    · replace h := zifp c3 h
      refine aw_aload_n X 1 dX6_melt_29 rfl ?_
      refine aw_bipush (v := (-6)) X dX6_melt_30 (by decide) ?_
      refine aw_callV X (as := [vI (-6)]) mf_X6_refuse zw_267 h zs_1 rfl rfl (by decide) (Nat.le_of_ble_eq_true rfl) dX6_melt_32 (fun v I4 L4 h => ?_)
      obtain ⟨r4, rfl, h⟩ := h
      exact aw_iret X E rfl dX6_melt_35 h
    · replace h := zifn c3 h
      refine aw_iload_n X 3 dX6_melt_23 rfl ?_
      refine aw_bipush (v := 24) X dX6_melt_24 (by decide) ?_
      refine aw_icmp_lt X 36 dX6_melt_26 rfl (fun c5 => ?_) (fun c5 => ?_)
      · replace h := zifp c5 h
        refine aw_aload_n X 0 dX6_melt_36 rfl ?_
        refine aw_iload_n X 3 dX6_melt_37 rfl ?_
        refine aw_aload_n X 1 dX6_melt_38 rfl ?_
        refine aw_getR X zf_RX6_10 rfl zs_1 zr_1_0 dX6_melt_39 ?_
        refine aw_getI X zf_RX6_145 rfl zs_2 dX6_melt_42 ?_
        refine aw_pV X (as := [vI a2, vI (I 2 6)]) mf_X1_melting zw_559 (p_X1_melting (nn_X4_paneAt zs_2 c1)) (nn_X4_paneAt zs_2 c1) rfl rfl (by decide) (Nat.le_of_ble_eq_true rfl) dX6_melt_45 ?_
        exact aw_iret X E rfl dX6_melt_48 h
      · replace h := zifn c5 h
        refine aw_aload_n X 1 dX6_melt_29 rfl ?_
        refine aw_bipush (v := (-6)) X dX6_melt_30 (by decide) ?_
        refine aw_callV X (as := [vI (-6)]) mf_X6_refuse zw_267 h zs_1 rfl rfl (by decide) (Nat.le_of_ble_eq_true rfl) dX6_melt_32 (fun v I6 L6 h => ?_)
        obtain ⟨r6, rfl, h⟩ := h
        exact aw_iret X E rfl dX6_melt_35 h
set_option maxRecDepth 100000 in
theorem m_X6_night {l : Launch} {g : zG} {Q : Option zv → zI → zL → Prop} {I : zI} {L : zL}   (h : Call l g 5 M_X4_passNight [vR 2] I L (zi fun r1 I1 L1 => Q (some (vI r1)) I1 L1)) : Call l g 6 M_X6_night [vR 1] I L Q := by
  refine aw_entry (by decide) (Nat.le_of_ble_eq_true rfl) (fun k hk (X : zX k g cX6_night RX6 1 (some .int) 6) E => ?_)
  show AW k g 1 I L 0 [(0, vR 1)] []
  subst hk
  refine aw_aload_n X 0 dX6_night_0 rfl ?_
  refine aw_getR X zf_RX6_10 rfl zs_1 zr_1_0 dX6_night_1 ?_
  refine aw_callV X (as := []) mf_X4_passNight zw_698 h zs_2 rfl rfl (by decide) (Nat.le_of_ble_eq_true rfl) dX6_night_4 (fun v I1 L1 h => ?_)
  obtain ⟨r1, rfl, h⟩ := h
  exact aw_iret X E rfl dX6_night_7 h
set_option maxRecDepth 100000 in
theorem m_X6_pane {l : Launch} {g : zG} {Q : Option zv → zI → zL → Prop} {I : zI} {L : zL} {a1 : Int32} {a2 : Int32} {a3 : Int32}  (h : if (v_X1_isKind a1) = 0 then (Call l g 1 M_X6_refuse [vR 1, vI (-1)] I L (zi fun r13 I13 L13 => Q (some (vI r13)) I13 L13)) else (if a2 < 0 then (Call l g 1 M_X6_refuse [vR 1, vI (-6)] I L (zi fun r3 I3 L3 => Q (some (vI r3)) I3 L3)) else (if 9 < a2 then (Call l g 1 M_X6_refuse [vR 1, vI (-6)] I L (zi fun r5 I5 L5 => Q (some (vI r5)) I5 L5)) else (if a3 < 0 then (Call l g 1 M_X6_refuse [vR 1, vI (-6)] I L (zi fun r7 I7 L7 => Q (some (vI r7)) I7 L7)) else (if 9 < a3 then (Call l g 1 M_X6_refuse [vR 1, vI (-6)] I L (zi fun r9 I9 L9 => Q (some (vI r9)) I9 L9)) else (if (v_X4_hasPaneRoom I 2) = 0 then (Call l g 1 M_X6_refuse [vR 1, vI (-7)] I L (zi fun r12 I12 L12 => Q (some (vI r12)) I12 L12)) else (Call l g 2 M_X4_addPane [vR 2, vI a1, vI a2, vI a3] I L (zi fun r11 I11 L11 => Q (some (vI r11)) I11 L11)))))))) : Call l g 3 M_X6_pane [vR 1, vI a1, vI a2, vI a3] I L Q := by
  refine aw_entry (by decide) (Nat.le_of_ble_eq_true rfl) (fun k hk (X : zX k g cX6_pane RX6 4 (some .int) 3) E => ?_)
  show AW k g 4 I L 0 [(0, vR 1), (1, vI a1), (2, vI a2), (3, vI a3)] []
  subst hk
  refine aw_iload_n X 1 dX6_pane_0 rfl ?_
  refine aw_pS X (as := [vI a1]) mf_X1_isKind zw_351 (p_X1_isKind) rfl rfl (by decide) (Nat.le_of_ble_eq_true rfl) dX6_pane_1 ?_
  refine aw_if_ne X 13 dX6_pane_4 rfl (fun c1 => ?_) (fun c1 => ?_)
  · replace h := zifn c1 h
    refine aw_iload_n X 2 dX6_pane_13 rfl ?_
    refine aw_if_lt X 33 dX6_pane_14 rfl (fun c2 => ?_) (fun c2 => ?_)
    · replace h := zifp c2 h
      refine aw_aload_n X 0 dX6_pane_33 rfl ?_
      refine aw_bipush (v := (-6)) X dX6_pane_34 (by decide) ?_
      refine aw_callV X (as := [vI (-6)]) mf_X6_refuse zw_267 h zs_1 rfl rfl (by decide) (Nat.le_of_ble_eq_true rfl) dX6_pane_36 (fun v I3 L3 h => ?_)
      obtain ⟨r3, rfl, h⟩ := h
      exact aw_iret X E rfl dX6_pane_39 h
    · replace h := zifn c2 h
      refine aw_iload_n X 2 dX6_pane_17 rfl ?_
      refine aw_bipush (v := 9) X dX6_pane_18 (by decide) ?_
      refine aw_icmp_gt X 33 dX6_pane_20 rfl (fun c4 => ?_) (fun c4 => ?_)
      · replace h := zifp c4 h
        refine aw_aload_n X 0 dX6_pane_33 rfl ?_
        refine aw_bipush (v := (-6)) X dX6_pane_34 (by decide) ?_
        refine aw_callV X (as := [vI (-6)]) mf_X6_refuse zw_267 h zs_1 rfl rfl (by decide) (Nat.le_of_ble_eq_true rfl) dX6_pane_36 (fun v I5 L5 h => ?_)
        obtain ⟨r5, rfl, h⟩ := h
        exact aw_iret X E rfl dX6_pane_39 h
      · replace h := zifn c4 h
        refine aw_iload_n X 3 dX6_pane_23 rfl ?_
        refine aw_if_lt X 33 dX6_pane_24 rfl (fun c6 => ?_) (fun c6 => ?_)
        · replace h := zifp c6 h
          refine aw_aload_n X 0 dX6_pane_33 rfl ?_
          refine aw_bipush (v := (-6)) X dX6_pane_34 (by decide) ?_
          refine aw_callV X (as := [vI (-6)]) mf_X6_refuse zw_267 h zs_1 rfl rfl (by decide) (Nat.le_of_ble_eq_true rfl) dX6_pane_36 (fun v I7 L7 h => ?_)
          obtain ⟨r7, rfl, h⟩ := h
          exact aw_iret X E rfl dX6_pane_39 h
        · replace h := zifn c6 h
          refine aw_iload_n X 3 dX6_pane_27 rfl ?_
          refine aw_bipush (v := 9) X dX6_pane_28 (by decide) ?_
          refine aw_icmp_len X 40 dX6_pane_30 rfl (fun c8 => ?_) (fun c8 => ?_)
          · replace h := zifp c8 h
            refine aw_aload_n X 0 dX6_pane_33 rfl ?_
            refine aw_bipush (v := (-6)) X dX6_pane_34 (by decide) ?_
            refine aw_callV X (as := [vI (-6)]) mf_X6_refuse zw_267 h zs_1 rfl rfl (by decide) (Nat.le_of_ble_eq_true rfl) dX6_pane_36 (fun v I9 L9 h => ?_)
            obtain ⟨r9, rfl, h⟩ := h
            exact aw_iret X E rfl dX6_pane_39 h
          · replace h := zifn c8 h
            refine aw_aload_n X 0 dX6_pane_40 rfl ?_
            refine aw_getR X zf_RX6_10 rfl zs_1 zr_1_0 dX6_pane_41 ?_
            refine aw_pV X (as := []) mf_X4_hasPaneRoom zw_356 (p_X4_hasPaneRoom zs_2) zs_2 rfl rfl (by decide) (Nat.le_of_ble_eq_true rfl) dX6_pane_44 ?_
            refine aw_if_ne X 57 dX6_pane_47 rfl (fun c10 => ?_) (fun c10 => ?_)
            · replace h := zifn c10 h
              refine aw_aload_n X 0 dX6_pane_57 rfl ?_
              refine aw_getR X zf_RX6_10 rfl zs_1 zr_1_0 dX6_pane_58 ?_
              refine aw_iload_n X 1 dX6_pane_61 rfl ?_
              refine aw_iload_n X 2 dX6_pane_62 rfl ?_
              refine aw_iload_n X 3 dX6_pane_63 rfl ?_
              refine aw_callV X (as := [vI a1, vI a2, vI a3]) mf_X4_addPane zw_360 h zs_2 rfl rfl (by decide) (Nat.le_of_ble_eq_true rfl) dX6_pane_64 (fun v I11 L11 h => ?_)
              obtain ⟨r11, rfl, h⟩ := h
              exact aw_iret X E rfl dX6_pane_67 h
            · replace h := zifp c10 h
              refine aw_aload_n X 0 dX6_pane_50 rfl ?_
              refine aw_bipush (v := (-7)) X dX6_pane_51 (by decide) ?_
              refine aw_callV X (as := [vI (-7)]) mf_X6_refuse zw_267 h zs_1 rfl rfl (by decide) (Nat.le_of_ble_eq_true rfl) dX6_pane_53 (fun v I12 L12 h => ?_)
              obtain ⟨r12, rfl, h⟩ := h
              exact aw_iret X E rfl dX6_pane_56 h
  · replace h := zifp c1 h
    refine aw_aload_n X 0 dX6_pane_7 rfl ?_
    refine aw_iconst (v := (-1)) X dX6_pane_8 (by decide) ?_
    refine aw_callV X (as := [vI (-1)]) mf_X6_refuse zw_267 h zs_1 rfl rfl (by decide) (Nat.le_of_ble_eq_true rfl) dX6_pane_9 (fun v I13 L13 h => ?_)
    obtain ⟨r13, rfl, h⟩ := h
    exact aw_iret X E rfl dX6_pane_12 h
set_option maxRecDepth 100000 in
theorem m_X6_paneOf {l : Launch} {g : zG} {Q : Option zv → zI → zL → Prop} {I : zI} {L : zL} {a1 : Int32} {a2 : Int32}  (h : if (v_X4_paneAt I 2 a1) = 0 then (Call l g 1 M_X6_refuse [vR 1, vI (-5)] I L (zi fun r2 I2 L2 => Q (some (vI r2)) I2 L2)) else (if a2 = 0 then (Q (some (vI (I (v_X4_paneAt I 2 a1) 0))) I L) else if a2 = 1 then (Q (some (vI (I (v_X4_paneAt I 2 a1) 1))) I L) else if a2 = 2 then (Q (some (vI (I (v_X4_paneAt I 2 a1) 2))) I L) else if a2 = 3 then (Q (some (vI (v_X1_sharpness I (v_X4_paneAt I 2 a1) (I 2 4) (I 2 5)))) I L) else if a2 = 4 then (Q (some (vI (I (v_X4_paneAt I 2 a1) 4))) I L) else (Call l g 1 M_X6_refuse [vR 1, vI (-5)] I L (zi fun r13 I13 L13 => Q (some (vI r13)) I13 L13)))) : Call l g 4 M_X6_paneOf [vR 1, vI a1, vI a2] I L Q := by
  refine aw_entry (by decide) (Nat.le_of_ble_eq_true rfl) (fun k hk (X : zX k g cX6_paneOf RX6 4 (some .int) 4) E => ?_)
  show AW k g 4 I L 0 [(0, vR 1), (1, vI a1), (2, vI a2)] []
  subst hk
  refine aw_aload_n X 0 dX6_paneOf_0 rfl ?_
  refine aw_getR X zf_RX6_10 rfl zs_1 zr_1_0 dX6_paneOf_1 ?_
  refine aw_iload_n X 1 dX6_paneOf_4 rfl ?_
  refine aw_pV X (as := [vI a1]) mf_X4_paneAt zw_310 (p_X4_paneAt zs_2) zs_2 rfl rfl (by decide) (Nat.le_of_ble_eq_true rfl) dX6_paneOf_5 ?_
  refine aw_astore_n X dX6_paneOf_8 (by decide) rfl ?_
  refine aw_aload_n X 0 dX6_paneOf_9 rfl ?_
  refine aw_ifnonnull X 20 dX6_paneOf_10 rfl (fun c1 => ?_) (fun c1 => ?_)
  · replace h := zifp c1 h
    refine aw_aload_n X 1 dX6_paneOf_13 rfl ?_
    refine aw_bipush (v := (-5)) X dX6_paneOf_14 (by decide) ?_
    refine aw_callV X (as := [vI (-5)]) mf_X6_refuse zw_267 h zs_1 rfl rfl (by decide) (Nat.le_of_ble_eq_true rfl) dX6_paneOf_16 (fun v I2 L2 h => ?_)
    obtain ⟨r2, rfl, h⟩ := h
    exact aw_iret X E rfl dX6_paneOf_19 h
  · replace h := zifn c1 h
    refine aw_iload_n X 3 dX6_paneOf_20 rfl ?_
    by_cases c8 : a2 = 0
    · replace h := zifp c8 h
      refine aw_tableIn X 0 56 dX6_paneOf_21 (by rw [c8]; rfl) (by decide) rfl rfl ?_
      refine aw_aload_n X 0 dX6_paneOf_56 rfl ?_
      refine aw_getI X zf_RX6_184 rfl (nn_X4_paneAt zs_2 c1) dX6_paneOf_57 ?_
      exact aw_iret X E rfl dX6_paneOf_60 h
    replace h := zifn c8 h
    by_cases c9 : a2 = 1
    · replace h := zifp c9 h
      refine aw_tableIn X 1 61 dX6_paneOf_21 (by rw [c9]; rfl) (by decide) rfl rfl ?_
      refine aw_aload_n X 0 dX6_paneOf_61 rfl ?_
      refine aw_getI X zf_RX6_142 rfl (nn_X4_paneAt zs_2 c1) dX6_paneOf_62 ?_
      exact aw_iret X E rfl dX6_paneOf_65 h
    replace h := zifn c9 h
    by_cases c10 : a2 = 2
    · replace h := zifp c10 h
      refine aw_tableIn X 2 66 dX6_paneOf_21 (by rw [c10]; rfl) (by decide) rfl rfl ?_
      refine aw_aload_n X 0 dX6_paneOf_66 rfl ?_
      refine aw_getI X zf_RX6_133 rfl (nn_X4_paneAt zs_2 c1) dX6_paneOf_67 ?_
      exact aw_iret X E rfl dX6_paneOf_70 h
    replace h := zifn c10 h
    by_cases c11 : a2 = 3
    · replace h := zifp c11 h
      refine aw_tableIn X 3 71 dX6_paneOf_21 (by rw [c11]; rfl) (by decide) rfl rfl ?_
      refine aw_aload_n X 0 dX6_paneOf_71 rfl ?_
      refine aw_aload_n X 1 dX6_paneOf_72 rfl ?_
      refine aw_getR X zf_RX6_10 rfl zs_1 zr_1_0 dX6_paneOf_73 ?_
      refine aw_getI X zf_RX6_136 rfl zs_2 dX6_paneOf_76 ?_
      refine aw_aload_n X 1 dX6_paneOf_79 rfl ?_
      refine aw_getR X zf_RX6_10 rfl zs_1 zr_1_0 dX6_paneOf_80 ?_
      refine aw_getI X zf_RX6_155 rfl zs_2 dX6_paneOf_83 ?_
      refine aw_pV X (as := [vI (I 2 4), vI (I 2 5)]) mf_X1_sharpness zw_373 (p_X1_sharpness (nn_X4_paneAt zs_2 c1)) (nn_X4_paneAt zs_2 c1) rfl rfl (by decide) (Nat.le_of_ble_eq_true rfl) dX6_paneOf_86 ?_
      exact aw_iret X E rfl dX6_paneOf_89 h
    replace h := zifn c11 h
    by_cases c12 : a2 = 4
    · replace h := zifp c12 h
      refine aw_tableIn X 4 90 dX6_paneOf_21 (by rw [c12]; rfl) (by decide) rfl rfl ?_
      refine aw_aload_n X 0 dX6_paneOf_90 rfl ?_
      refine aw_getI X zf_RX6_187 rfl (nn_X4_paneAt zs_2 c1) dX6_paneOf_91 ?_
      exact aw_iret X E rfl dX6_paneOf_94 h
    replace h := zifn c12 h
    have e0 := ztn (n := 0) rfl c8
    have e1 := ztn (n := 1) rfl c9
    have e2 := ztn (n := 2) rfl c10
    have e3 := ztn (n := 3) rfl c11
    have e4 := ztn (n := 4) rfl c12
    refine aw_tableOut X 95 dX6_paneOf_21 (by omega) rfl ?_
    refine aw_aload_n X 1 dX6_paneOf_95 rfl ?_
    refine aw_bipush (v := (-5)) X dX6_paneOf_96 (by decide) ?_
    refine aw_callV X (as := [vI (-5)]) mf_X6_refuse zw_267 h zs_1 rfl rfl (by decide) (Nat.le_of_ble_eq_true rfl) dX6_paneOf_98 (fun v I13 L13 h => ?_)
    obtain ⟨r13, rfl, h⟩ := h
    exact aw_iret X E rfl dX6_paneOf_101 h
def v_X6_lackOfRow (I : zI) (a1 : Nat) : Int32 := if a1 = 0 then (-1) else if (v_X3_hasPane I a1) = 0 then (-3) else ((-2) : Int32)
def k_X6_lackOfRow (I : zI) (a1 : Nat) : Prop := (¬ (a1 = 0) → zsh a1 = (13, 5))
set_option maxRecDepth 100000 in
theorem p_X6_lackOfRow {l : Launch} {g : zG} {I : zI} {L : zL} {a1 : Nat}  (hk0 : k_X6_lackOfRow I a1) : Call l g 2 M_X6_lackOfRow [vR a1] I L (zp (some (vI (v_X6_lackOfRow I a1))) I L) := by
  refine aw_entry (by decide) (Nat.le_of_ble_eq_true rfl) (fun k hk (X : zX k g cX6_lackOfRow RX6 1 (some .int) 2) E => ?_)
  show AW k g 1 I L 0 [(0, vR a1)] []
  subst hk
  have n5 : (¬ (a1 = 0) → zsh a1 = (13, 5)) := hk0
  have hJ : ∀ w1 : Int32, w1 = (if a1 = 0 then (-1) else if (v_X3_hasPane I a1) = 0 then (-3) else ((-2) : Int32)) → zp (some (vI (v_X6_lackOfRow I a1))) I L (some (vI w1)) I L := fun w1 e1 => ⟨by rw [e1]; rfl, rfl, rfl⟩
  refine aw_aload_n X 0 dX6_lackOfRow_0 rfl ?_
  refine aw_ifnonnull X 6 dX6_lackOfRow_1 rfl (fun c1 => ?_) (fun c1 => ?_)
  · refine aw_iconst (v := (-1)) X dX6_lackOfRow_4 (by decide) ?_
    exact aw_iret X E rfl dX6_lackOfRow_5 (hJ _ (if_pos c1).symm)
  · have n2 := (n5 c1)
    refine aw_aload_n X 0 dX6_lackOfRow_6 rfl ?_
    refine aw_pV X (as := []) mf_X3_hasPane zw_286 (p_X3_hasPane n2) n2 rfl rfl (by decide) (Nat.le_of_ble_eq_true rfl) dX6_lackOfRow_7 ?_
    have hJ4 : ∀ (w1 : Int32), w1 = (if (v_X3_hasPane I a1) = 0 then (-3) else ((-2) : Int32)) → AW k g 1 I L 20 [] [vI w1] := by
      intro w1 q1
      subst q1
      exact aw_iret X E rfl dX6_lackOfRow_20 (hJ _ (if_neg c1).symm)
    refine aw_if_eq X 18 dX6_lackOfRow_10 rfl (fun c3 => ?_) (fun c3 => ?_)
    · refine aw_bipush (v := (-3)) X dX6_lackOfRow_18 (by decide) ?_
      refine aw_perm (ks9 := []) [] rfl ?_
      exact hJ4 _ (if_pos c3).symm
    · refine aw_bipush (v := (-2)) X dX6_lackOfRow_13 (by decide) ?_
      refine aw_goto X 20 dX6_lackOfRow_15 rfl ?_
      refine aw_perm (ks9 := []) [] rfl ?_
      exact hJ4 _ (if_neg c3).symm
set_option maxRecDepth 100000 in
theorem m_X6_press {l : Launch} {g : zG} {Q : Option zv → zI → zL → Prop} {I : zI} {L : zL} {a1 : Int32}  (h : if (v_X6_shelfAt a1) = 0 then (k_X6_lackOfRow I (v_X6_shelfAt a1) ∧ (Call l g 1 M_X6_refuse [vR 1, vI (v_X6_lackOfRow I (v_X6_shelfAt a1))] I L (zi fun r3 I3 L3 => Q (some (vI r3)) I3 L3))) else (k_X3_hasRow I (v_X6_shelfAt a1) ∧ (if (v_X3_hasRow I (v_X6_shelfAt a1)) = 0 then (k_X6_lackOfRow I (v_X6_shelfAt a1) ∧ (Call l g 1 M_X6_refuse [vR 1, vI (v_X6_lackOfRow I (v_X6_shelfAt a1))] I L (zi fun r7 I7 L7 => Q (some (vI r7)) I7 L7))) else (False)))) : Call l g 4 M_X6_press [vR 1, vI a1] I L Q := by
  refine aw_entry (by decide) (Nat.le_of_ble_eq_true rfl) (fun k hk (X : zX k g cX6_press RX6 4 (some .int) 4) E => ?_)
  show AW k g 4 I L 0 [(0, vR 1), (1, vI a1)] []
  subst hk
  refine aw_aload_n X 0 dX6_press_0 rfl ?_
  refine aw_iload_n X 1 dX6_press_1 rfl ?_
  refine aw_pV X (as := [vI a1]) mf_X6_shelfAt zw_263 (p_X6_shelfAt) zs_1 rfl rfl (by decide) (Nat.le_of_ble_eq_true rfl) dX6_press_2 ?_
  refine aw_astore_n X dX6_press_5 (by decide) rfl ?_
  refine aw_aload_n X 0 dX6_press_6 rfl ?_
  refine aw_ifnull X 17 dX6_press_7 rfl (fun c1 => ?_) (fun c1 => ?_)
  · replace h := zifp c1 h
    refine aw_aload_n X 1 dX6_press_17 rfl ?_
    refine aw_aload_n X 0 dX6_press_18 rfl ?_
    have n2 := h.1
    replace h := h.2
    refine aw_pS X (as := [vR (v_X6_shelfAt a1)]) mf_X6_lackOfRow zw_283 (p_X6_lackOfRow n2) rfl rfl (by decide) (Nat.le_of_ble_eq_true rfl) dX6_press_19 ?_
    refine aw_callV X (as := [vI (v_X6_lackOfRow I (v_X6_shelfAt a1))]) mf_X6_refuse zw_267 h zs_1 rfl rfl (by decide) (Nat.le_of_ble_eq_true rfl) dX6_press_22 (fun v I3 L3 h => ?_)
    obtain ⟨r3, rfl, h⟩ := h
    exact aw_iret X E rfl dX6_press_25 h
  · replace h := zifn c1 h
    refine aw_aload_n X 0 dX6_press_10 rfl ?_
    have n4 := h.1
    replace h := h.2
    refine aw_pV X (as := []) mf_X3_hasRow zw_279 (p_X3_hasRow (nn_X6_shelfAt c1) n4) (nn_X6_shelfAt c1) rfl rfl (by decide) (Nat.le_of_ble_eq_true rfl) dX6_press_11 ?_
    refine aw_if_ne X 26 dX6_press_14 rfl (fun c5 => ?_) (fun c5 => ?_)
    · replace h := zifn c5 h
      exact h.elim
    · replace h := zifp c5 h
      refine aw_aload_n X 1 dX6_press_17 rfl ?_
      refine aw_aload_n X 0 dX6_press_18 rfl ?_
      have n6 := h.1
      replace h := h.2
      refine aw_pS X (as := [vR (v_X6_shelfAt a1)]) mf_X6_lackOfRow zw_283 (p_X6_lackOfRow n6) rfl rfl (by decide) (Nat.le_of_ble_eq_true rfl) dX6_press_19 ?_
      refine aw_callV X (as := [vI (v_X6_lackOfRow I (v_X6_shelfAt a1))]) mf_X6_refuse zw_267 h zs_1 rfl rfl (by decide) (Nat.le_of_ble_eq_true rfl) dX6_press_22 (fun v I7 L7 h => ?_)
      obtain ⟨r7, rfl, h⟩ := h
      exact aw_iret X E rfl dX6_press_25 h
set_option maxRecDepth 100000 in
theorem m_X6_refuseWrong {l : Launch} {g : zG} {Q : Option zv → zI → zL → Prop} {I : zI} {L : zL}   (h : Call l g 1 M_X6_refuse [vR 1, vI (-6)] I L (zi fun r1 I1 L1 => Q (some (vI (-16))) I1 L1)) : Call l g 2 M_X6_refuseWrong [vR 1] I L Q := by
  refine aw_entry (by decide) (Nat.le_of_ble_eq_true rfl) (fun k hk (X : zX k g cX6_refuseWrong RX6 1 (some .int) 2) E => ?_)
  show AW k g 1 I L 0 [(0, vR 1)] []
  subst hk
  refine aw_aload_n X 0 dX6_refuseWrong_0 rfl ?_
  refine aw_bipush (v := (-6)) X dX6_refuseWrong_1 (by decide) ?_
  refine aw_callV X (as := [vI (-6)]) mf_X6_refuse zw_267 h zs_1 rfl rfl (by decide) (Nat.le_of_ble_eq_true rfl) dX6_refuseWrong_3 (fun v I1 L1 h => ?_)
  obtain ⟨r1, rfl, h⟩ := h
  refine aw_pop X dX6_refuseWrong_6 rfl ?_
  refine aw_bipush (v := (-16)) X dX6_refuseWrong_7 (by decide) ?_
  exact aw_iret X E rfl dX6_refuseWrong_9 h
set_option maxRecDepth 100000 in
theorem m_X6_readsAs {l : Launch} {g : zG} {Q : Option zv → zI → zL → Prop} {I : zI} {L : zL} {a1 : Int32} {a2 : Int32} {a3 : Int32}  (h : if (v_X4_paneAt I 2 a1) = 0 then (Call l g 2 M_X6_refuseNobody [vR 1] I L (zi fun r2 I2 L2 => Q (some (vI r2)) I2 L2)) else (if (v_X4_isLetterOrNone I 2 a2) = 0 then (Call l g 2 M_X6_refuseNobody [vR 1] I L (zi fun r8 I8 L8 => Q (some (vI r8)) I8 L8)) else (if (v_X6_isHour a3) = 0 then (Call l g 2 M_X6_refuseWrong [vR 1] I L (zi fun r7 I7 L7 => Q (some (vI r7)) I7 L7)) else (Call l g 5 M_X5_shapeAt [vR 59, vR (v_X4_paneAt I 2 a1), vI a2, vI a3] I L (zi fun r5 I5 L5 => k_X4_readingOf I5 2 r5 ∧ (Q (some (vI (v_X4_readingOf I5 2 r5))) I5 L5)))))) : Call l g 6 M_X6_readsAs [vR 1, vI a1, vI a2, vI a3] I L Q := by
  refine aw_entry (by decide) (Nat.le_of_ble_eq_true rfl) (fun k hk (X : zX k g cX6_readsAs RX6 5 (some .int) 6) E => ?_)
  show AW k g 5 I L 0 [(0, vR 1), (1, vI a1), (2, vI a2), (3, vI a3)] []
  subst hk
  refine aw_aload_n X 0 dX6_readsAs_0 rfl ?_
  refine aw_getR X zf_RX6_10 rfl zs_1 zr_1_0 dX6_readsAs_1 ?_
  refine aw_iload_n X 1 dX6_readsAs_4 rfl ?_
  refine aw_pV X (as := [vI a1]) mf_X4_paneAt zw_310 (p_X4_paneAt zs_2) zs_2 rfl rfl (by decide) (Nat.le_of_ble_eq_true rfl) dX6_readsAs_5 ?_
  refine aw_astore X dX6_readsAs_8 (by decide) rfl ?_
  refine aw_aload X 0 dX6_readsAs_10 rfl ?_
  refine aw_ifnull X 26 dX6_readsAs_12 rfl (fun c1 => ?_) (fun c1 => ?_)
  · replace h := zifp c1 h
    refine aw_aload_n X 1 dX6_readsAs_26 rfl ?_
    refine aw_callV X (as := []) mf_X6_refuseNobody zw_644 h zs_1 rfl rfl (by decide) (Nat.le_of_ble_eq_true rfl) dX6_readsAs_27 (fun v I2 L2 h => ?_)
    obtain ⟨r2, rfl, h⟩ := h
    exact aw_iret X E rfl dX6_readsAs_30 h
  · replace h := zifn c1 h
    refine aw_aload_n X 1 dX6_readsAs_15 rfl ?_
    refine aw_getR X zf_RX6_10 rfl zs_1 zr_1_0 dX6_readsAs_16 ?_
    refine aw_iload_n X 3 dX6_readsAs_19 rfl ?_
    refine aw_pV X (as := [vI a2]) mf_X4_isLetterOrNone zw_392 (p_X4_isLetterOrNone zs_2) zs_2 rfl rfl (by decide) (Nat.le_of_ble_eq_true rfl) dX6_readsAs_20 ?_
    refine aw_if_ne X 31 dX6_readsAs_23 rfl (fun c3 => ?_) (fun c3 => ?_)
    · replace h := zifn c3 h
      refine aw_iload_n X 4 dX6_readsAs_31 rfl ?_
      refine aw_pS X (as := [vI a3]) mf_X6_isHour zw_570 (p_X6_isHour) rfl rfl (by decide) (Nat.le_of_ble_eq_true rfl) dX6_readsAs_32 ?_
      refine aw_if_ne X 43 dX6_readsAs_35 rfl (fun c4 => ?_) (fun c4 => ?_)
      · replace h := zifn c4 h
        refine aw_aload_n X 1 dX6_readsAs_43 rfl ?_
        refine aw_getR X zf_RX6_10 rfl zs_1 zr_1_0 dX6_readsAs_44 ?_
        refine aw_aload_n X 1 dX6_readsAs_47 rfl ?_
        refine aw_getR X zf_RX6_27 rfl zs_1 zr_1_3 dX6_readsAs_48 ?_
        refine aw_aload X 0 dX6_readsAs_51 rfl ?_
        refine aw_iload_n X 3 dX6_readsAs_53 rfl ?_
        refine aw_iload_n X 4 dX6_readsAs_54 rfl ?_
        refine aw_callV X (as := [vR (v_X4_paneAt I 2 a1), vI a2, vI a3]) mf_X5_shapeAt zw_639 h zs_59 rfl rfl (by decide) (Nat.le_of_ble_eq_true rfl) dX6_readsAs_55 (fun v I5 L5 h => ?_)
        obtain ⟨r5, rfl, h⟩ := h
        have n6 := h.1
        replace h := h.2
        refine aw_pV X (as := [vI r5]) mf_X4_readingOf zw_652 (p_X4_readingOf zs_2 n6) zs_2 rfl rfl (by decide) (Nat.le_of_ble_eq_true rfl) dX6_readsAs_58 ?_
        exact aw_iret X E rfl dX6_readsAs_61 h
      · replace h := zifp c4 h
        refine aw_aload_n X 1 dX6_readsAs_38 rfl ?_
        refine aw_callV X (as := []) mf_X6_refuseWrong zw_648 h zs_1 rfl rfl (by decide) (Nat.le_of_ble_eq_true rfl) dX6_readsAs_39 (fun v I7 L7 h => ?_)
        obtain ⟨r7, rfl, h⟩ := h
        exact aw_iret X E rfl dX6_readsAs_42 h
    · replace h := zifp c3 h
      refine aw_aload_n X 1 dX6_readsAs_26 rfl ?_
      refine aw_callV X (as := []) mf_X6_refuseNobody zw_644 h zs_1 rfl rfl (by decide) (Nat.le_of_ble_eq_true rfl) dX6_readsAs_27 (fun v I8 L8 h => ?_)
      obtain ⟨r8, rfl, h⟩ := h
      exact aw_iret X E rfl dX6_readsAs_30 h
set_option maxRecDepth 100000 in
theorem s_X6_restore_27 {k : zK} {g : zG} {Q : Option zv → zI → zL → Prop} {I : zI} {L : zL} {y1 : Int32}  (X : zX k g cX6_restore RX6 3 (some .int) 4) (E : zE k g Q) (h : if y1 < 8 then (vp_in y1 8 ∧ (if (v_X3_hasPane I (66 + 2 * y1.toNatClampNeg)) = 0 then (AW k g 3 I L 27 [(0, vR 1), (1, vI (y1 + 1))] []) else (if (v_X4_paneAt I 2 (I (66 + 2 * y1.toNatClampNeg) 3)) = 0 then (Call (kl k) g 1 M_X3_takeNothing [vR (66 + 2 * y1.toNatClampNeg)] I L (zn fun I5 L5 => AW k g 3 I5 L5 27 [(0, vR 1), (1, vI (y1 + 1))] [])) else (AW k g 3 I L 27 [(0, vR 1), (1, vI (y1 + 1))] [])))) else (Q (some (vI (I 2 3))) I L)) : AW k g 3 I L 27 [(0, vR 1), (1, vI y1)] [] := by
  refine aw_iload_n X 1 dX6_restore_27 rfl ?_
  refine aw_aload_n X 0 dX6_restore_28 rfl ?_
  refine aw_getR X zf_RX6_33 rfl zs_1 zr_1_4 dX6_restore_29 ?_
  refine aw_alen (v := 8) X zs_65 (by decide) (by decide) dX6_restore_32 ?_
  refine aw_icmp_gen X 78 dX6_restore_33 rfl (fun c1 => ?_) (fun c1 => ?_)
  · replace h := zifp c1 h
    refine aw_aload_n X 0 dX6_restore_36 rfl ?_
    refine aw_getR X zf_RX6_33 rfl zs_1 zr_1_4 dX6_restore_37 ?_
    refine aw_iload_n X 1 dX6_restore_40 rfl ?_
    have n2 := h.1
    replace h := h.2
    refine aw_aald X zs_65 (by decide) n2 (zL65 _ (zlt n2)).1 dX6_restore_41 ?_
    refine aw_astore_n X dX6_restore_42 (by decide) rfl ?_
    refine aw_aload_n X 0 dX6_restore_43 rfl ?_
    refine aw_ifnull X 72 dX6_restore_44 rfl (fun e => absurd e (by omega)) (fun _ => ?_)
    refine aw_aload_n X 0 dX6_restore_47 rfl ?_
    refine aw_pV X (as := []) mf_X3_hasPane zw_286 (p_X3_hasPane (zL65 _ (zlt n2)).2) (zL65 _ (zlt n2)).2 rfl rfl (by decide) (Nat.le_of_ble_eq_true rfl) dX6_restore_48 ?_
    refine aw_if_eq X 72 dX6_restore_51 rfl (fun c3 => ?_) (fun c3 => ?_)
    · replace h := zifp c3 h
      refine aw_iinc (v := y1 + 1) X 2 dX6_restore_72 rfl rfl (by decide) rfl ?_
      refine aw_goto X 27 dX6_restore_75 rfl ?_
      refine aw_perm (ks9 := [(0, vR 1), (1, vI (y1 + 1))]) [2, 0] rfl ?_
      exact h
    · replace h := zifn c3 h
      refine aw_aload_n X 1 dX6_restore_54 rfl ?_
      refine aw_getR X zf_RX6_10 rfl zs_1 zr_1_0 dX6_restore_55 ?_
      refine aw_aload_n X 0 dX6_restore_58 rfl ?_
      refine aw_getI X zf_RX6_123 rfl (zL65 _ (zlt n2)).2 dX6_restore_59 ?_
      refine aw_pV X (as := [vI (I (66 + 2 * y1.toNatClampNeg) 3)]) mf_X4_paneAt zw_310 (p_X4_paneAt zs_2) zs_2 rfl rfl (by decide) (Nat.le_of_ble_eq_true rfl) dX6_restore_62 ?_
      refine aw_ifnonnull X 72 dX6_restore_65 rfl (fun c4 => ?_) (fun c4 => ?_)
      · replace h := zifp c4 h
        refine aw_aload_n X 0 dX6_restore_68 rfl ?_
        refine aw_callV X (as := []) mf_X3_takeNothing zw_314 h (zL65 _ (zlt n2)).2 rfl rfl (by decide) (Nat.le_of_ble_eq_true rfl) dX6_restore_69 (fun v I5 L5 h => ?_)
        obtain ⟨rfl, h⟩ := h
        refine aw_iinc (v := y1 + 1) X 2 dX6_restore_72 rfl rfl (by decide) rfl ?_
        refine aw_goto X 27 dX6_restore_75 rfl ?_
        refine aw_perm (ks9 := [(0, vR 1), (1, vI (y1 + 1))]) [2, 0] rfl ?_
        exact h
      · replace h := zifn c4 h
        refine aw_iinc (v := y1 + 1) X 2 dX6_restore_72 rfl rfl (by decide) rfl ?_
        refine aw_goto X 27 dX6_restore_75 rfl ?_
        refine aw_perm (ks9 := [(0, vR 1), (1, vI (y1 + 1))]) [2, 0] rfl ?_
        exact h
  · replace h := zifn c1 h
    refine aw_aload_n X 0 dX6_restore_78 rfl ?_
    refine aw_getR X zf_RX6_10 rfl zs_1 zr_1_0 dX6_restore_79 ?_
    refine aw_getI X zf_RX6_246 rfl zs_2 dX6_restore_82 ?_
    exact aw_iret X E rfl dX6_restore_85 h
set_option maxRecDepth 100000 in
theorem m_X6_restore {l : Launch} {g : zG} {Q : Option zv → zI → zL → Prop} {I : zI} {L : zL}   (h : ∀ k : zK, kl k = l → zX k g cX6_restore RX6 3 (some .int) 4 → zE k g Q → (if (I 1 8) = 0 then (Call (kl k) g 1 M_X6_refuse [vR 1, vI (-6)] I L (zi fun r3 I3 L3 => Q (some (vI r3)) I3 L3)) else (Call (kl k) g 3 M_X4_takeAll [vR 2, vR 21] I L (zn fun I2 L2 => AW k g 3 I2 L2 27 [(0, vR 1), (1, vI 0)] [])))) : Call l g 4 M_X6_restore [vR 1] I L Q := by
  refine aw_entry (by decide) (Nat.le_of_ble_eq_true rfl) (fun k hk (X : zX k g cX6_restore RX6 3 (some .int) 4) E => ?_)
  show AW k g 3 I L 0 [(0, vR 1)] []
  replace h := h k hk X E
  subst hk
  refine aw_aload_n X 0 dX6_restore_0 rfl ?_
  refine aw_getI X zf_RX6_56 rfl zs_1 dX6_restore_1 ?_
  refine aw_if_ne X 14 dX6_restore_4 rfl (fun c1 => ?_) (fun c1 => ?_)
  · replace h := zifn c1 h
    refine aw_aload_n X 0 dX6_restore_14 rfl ?_
    refine aw_getR X zf_RX6_10 rfl zs_1 zr_1_0 dX6_restore_15 ?_
    refine aw_aload_n X 0 dX6_restore_18 rfl ?_
    refine aw_getR X zf_RX6_16 rfl zs_1 zr_1_1 dX6_restore_19 ?_
    refine aw_callV X (as := [vR 21]) mf_X4_takeAll zw_422 h zs_2 rfl rfl (by decide) (Nat.le_of_ble_eq_true rfl) dX6_restore_22 (fun v I2 L2 h => ?_)
    obtain ⟨rfl, h⟩ := h
    refine aw_iconst (v := 0) X dX6_restore_25 (by decide) ?_
    refine aw_istore_n X dX6_restore_26 (by decide) rfl ?_
    refine aw_perm (ks9 := [(0, vR 1), (1, vI 0)]) [1, 0] rfl ?_
    exact h
  · replace h := zifp c1 h
    refine aw_aload_n X 0 dX6_restore_7 rfl ?_
    refine aw_bipush (v := (-6)) X dX6_restore_8 (by decide) ?_
    refine aw_callV X (as := [vI (-6)]) mf_X6_refuse zw_267 h zs_1 rfl rfl (by decide) (Nat.le_of_ble_eq_true rfl) dX6_restore_10 (fun v I3 L3 h => ?_)
    obtain ⟨r3, rfl, h⟩ := h
    exact aw_iret X E rfl dX6_restore_13 h
set_option maxRecDepth 100000 in
theorem m_X6_room {l : Launch} {g : zG} {Q : Option zv → zI → zL → Prop} {I : zI} {L : zL} {a1 : Int32} {a2 : Int32}  (h : if (v_X4_paneAt I 2 a1) = 0 then (Call l g 1 M_X6_refuse [vR 1, vI (-1)] I L (zi fun r2 I2 L2 => Q (some (vI r2)) I2 L2)) else (if a2 < 0 then (Call l g 1 M_X6_refuse [vR 1, vI (-6)] I L (zi fun r4 I4 L4 => Q (some (vI r4)) I4 L4)) else (if 9 < a2 then (Call l g 1 M_X6_refuse [vR 1, vI (-6)] I L (zi fun r6 I6 L6 => Q (some (vI r6)) I6 L6)) else (Q (some (vI (I (v_X4_paneAt I 2 a1) 1))) (zs I (v_X4_paneAt I 2 a1) 1 a2) L)))) : Call l g 2 M_X6_room [vR 1, vI a1, vI a2] I L Q := by
  refine aw_entry (by decide) (Nat.le_of_ble_eq_true rfl) (fun k hk (X : zX k g cX6_room RX6 5 (some .int) 2) E => ?_)
  show AW k g 5 I L 0 [(0, vR 1), (1, vI a1), (2, vI a2)] []
  subst hk
  refine aw_aload_n X 0 dX6_room_0 rfl ?_
  refine aw_getR X zf_RX6_10 rfl zs_1 zr_1_0 dX6_room_1 ?_
  refine aw_iload_n X 1 dX6_room_4 rfl ?_
  refine aw_pV X (as := [vI a1]) mf_X4_paneAt zw_310 (p_X4_paneAt zs_2) zs_2 rfl rfl (by decide) (Nat.le_of_ble_eq_true rfl) dX6_room_5 ?_
  refine aw_astore_n X dX6_room_8 (by decide) rfl ?_
  refine aw_aload_n X 0 dX6_room_9 rfl ?_
  refine aw_ifnonnull X 19 dX6_room_10 rfl (fun c1 => ?_) (fun c1 => ?_)
  · replace h := zifp c1 h
    refine aw_aload_n X 1 dX6_room_13 rfl ?_
    refine aw_iconst (v := (-1)) X dX6_room_14 (by decide) ?_
    refine aw_callV X (as := [vI (-1)]) mf_X6_refuse zw_267 h zs_1 rfl rfl (by decide) (Nat.le_of_ble_eq_true rfl) dX6_room_15 (fun v I2 L2 h => ?_)
    obtain ⟨r2, rfl, h⟩ := h
    exact aw_iret X E rfl dX6_room_18 h
  · replace h := zifn c1 h
    refine aw_iload_n X 3 dX6_room_19 rfl ?_
    refine aw_if_lt X 29 dX6_room_20 rfl (fun c3 => ?_) (fun c3 => ?_)
    · replace h := zifp c3 h
      refine aw_aload_n X 1 dX6_room_29 rfl ?_
      refine aw_bipush (v := (-6)) X dX6_room_30 (by decide) ?_
      refine aw_callV X (as := [vI (-6)]) mf_X6_refuse zw_267 h zs_1 rfl rfl (by decide) (Nat.le_of_ble_eq_true rfl) dX6_room_32 (fun v I4 L4 h => ?_)
      obtain ⟨r4, rfl, h⟩ := h
      exact aw_iret X E rfl dX6_room_35 h
    · replace h := zifn c3 h
      refine aw_iload_n X 3 dX6_room_23 rfl ?_
      refine aw_bipush (v := 9) X dX6_room_24 (by decide) ?_
      refine aw_icmp_len X 36 dX6_room_26 rfl (fun c5 => ?_) (fun c5 => ?_)
      · replace h := zifp c5 h
        refine aw_aload_n X 1 dX6_room_29 rfl ?_
        refine aw_bipush (v := (-6)) X dX6_room_30 (by decide) ?_
        refine aw_callV X (as := [vI (-6)]) mf_X6_refuse zw_267 h zs_1 rfl rfl (by decide) (Nat.le_of_ble_eq_true rfl) dX6_room_32 (fun v I6 L6 h => ?_)
        obtain ⟨r6, rfl, h⟩ := h
        exact aw_iret X E rfl dX6_room_35 h
      · replace h := zifn c5 h
        refine aw_aload_n X 0 dX6_room_36 rfl ?_
        refine aw_getI X zf_RX6_142 rfl (nn_X4_paneAt zs_2 c1) dX6_room_37 ?_
        refine aw_istore X dX6_room_40 (by decide) rfl ?_
        refine aw_aload_n X 1 dX6_room_42 rfl ?_
        refine aw_iload_n X 4 dX6_room_43 rfl ?_
        refine aw_putI X zf_RX6_142 rfl rfl rfl (nn_X4_paneAt zs_2 c1) dX6_room_44 ?_
        refine aw_iload X 0 dX6_room_47 rfl ?_
        exact aw_iret X E rfl dX6_room_49 h
set_option maxRecDepth 100000 in
theorem m_X6_row {l : Launch} {g : zG} {Q : Option zv → zI → zL → Prop} {I : zI} {L : zL} {a1 : Int32} {a2 : Int32} {a3 : Int32}  (h : if (v_X6_shelfAt a1) = 0 then (Call l g 1 M_X6_refuse [vR 1, vI (-1)] I L (zi fun r2 I2 L2 => Q (some (vI r2)) I2 L2)) else (if a3 < 0 then (Call l g 1 M_X6_refuse [vR 1, vI (-4)] I L (zi fun r4 I4 L4 => Q (some (vI r4)) I4 L4)) else (if a2 < 0 then (Call l g 1 M_X6_refuse [vR 1, vI (-6)] I L (zi fun r6 I6 L6 => Q (some (vI r6)) I6 L6)) else (if 3 < a2 then (Call l g 1 M_X6_refuse [vR 1, vI (-6)] I L (zi fun r8 I8 L8 => Q (some (vI r8)) I8 L8)) else (if 160 < a3 then (Call l g 1 M_X6_refuse [vR 1, vI (-7)] I L (zi fun r10 I10 L10 => Q (some (vI r10)) I10 L10)) else (Call l g 1 M_X3_takeRow [vR (v_X6_shelfAt a1), vI a2, vI a3] I L (zn fun I11 L11 => Q (some (vI 1)) I11 L11))))))) : Call l g 2 M_X6_row [vR 1, vI a1, vI a2, vI a3] I L Q := by
  refine aw_entry (by decide) (Nat.le_of_ble_eq_true rfl) (fun k hk (X : zX k g cX6_row RX6 5 (some .int) 2) E => ?_)
  show AW k g 5 I L 0 [(0, vR 1), (1, vI a1), (2, vI a2), (3, vI a3)] []
  subst hk
  refine aw_aload_n X 0 dX6_row_0 rfl ?_
  refine aw_iload_n X 1 dX6_row_1 rfl ?_
  refine aw_pV X (as := [vI a1]) mf_X6_shelfAt zw_263 (p_X6_shelfAt) zs_1 rfl rfl (by decide) (Nat.le_of_ble_eq_true rfl) dX6_row_2 ?_
  refine aw_astore X dX6_row_5 (by decide) rfl ?_
  refine aw_aload X 0 dX6_row_7 rfl ?_
  refine aw_ifnonnull X 18 dX6_row_9 rfl (fun c1 => ?_) (fun c1 => ?_)
  · replace h := zifp c1 h
    refine aw_aload_n X 1 dX6_row_12 rfl ?_
    refine aw_iconst (v := (-1)) X dX6_row_13 (by decide) ?_
    refine aw_callV X (as := [vI (-1)]) mf_X6_refuse zw_267 h zs_1 rfl rfl (by decide) (Nat.le_of_ble_eq_true rfl) dX6_row_14 (fun v I2 L2 h => ?_)
    obtain ⟨r2, rfl, h⟩ := h
    exact aw_iret X E rfl dX6_row_17 h
  · replace h := zifn c1 h
    refine aw_iload_n X 4 dX6_row_18 rfl ?_
    refine aw_if_gen X 29 dX6_row_19 rfl (fun c3 => ?_) (fun c3 => ?_)
    · replace h := zifp c3 h
      refine aw_aload_n X 1 dX6_row_22 rfl ?_
      refine aw_bipush (v := (-4)) X dX6_row_23 (by decide) ?_
      refine aw_callV X (as := [vI (-4)]) mf_X6_refuse zw_267 h zs_1 rfl rfl (by decide) (Nat.le_of_ble_eq_true rfl) dX6_row_25 (fun v I4 L4 h => ?_)
      obtain ⟨r4, rfl, h⟩ := h
      exact aw_iret X E rfl dX6_row_28 h
    · replace h := zifn c3 h
      refine aw_iload_n X 3 dX6_row_29 rfl ?_
      refine aw_if_lt X 38 dX6_row_30 rfl (fun c5 => ?_) (fun c5 => ?_)
      · replace h := zifp c5 h
        refine aw_aload_n X 1 dX6_row_38 rfl ?_
        refine aw_bipush (v := (-6)) X dX6_row_39 (by decide) ?_
        refine aw_callV X (as := [vI (-6)]) mf_X6_refuse zw_267 h zs_1 rfl rfl (by decide) (Nat.le_of_ble_eq_true rfl) dX6_row_41 (fun v I6 L6 h => ?_)
        obtain ⟨r6, rfl, h⟩ := h
        exact aw_iret X E rfl dX6_row_44 h
      · replace h := zifn c5 h
        refine aw_iload_n X 3 dX6_row_33 rfl ?_
        refine aw_iconst (v := 3) X dX6_row_34 (by decide) ?_
        refine aw_icmp_len X 45 dX6_row_35 rfl (fun c7 => ?_) (fun c7 => ?_)
        · replace h := zifp c7 h
          refine aw_aload_n X 1 dX6_row_38 rfl ?_
          refine aw_bipush (v := (-6)) X dX6_row_39 (by decide) ?_
          refine aw_callV X (as := [vI (-6)]) mf_X6_refuse zw_267 h zs_1 rfl rfl (by decide) (Nat.le_of_ble_eq_true rfl) dX6_row_41 (fun v I8 L8 h => ?_)
          obtain ⟨r8, rfl, h⟩ := h
          exact aw_iret X E rfl dX6_row_44 h
        · replace h := zifn c7 h
          refine aw_iload_n X 4 dX6_row_45 rfl ?_
          refine aw_sipush (v := 160) X dX6_row_46 (by decide) ?_
          refine aw_icmp_len X 59 dX6_row_49 rfl (fun c9 => ?_) (fun c9 => ?_)
          · replace h := zifp c9 h
            refine aw_aload_n X 1 dX6_row_52 rfl ?_
            refine aw_bipush (v := (-7)) X dX6_row_53 (by decide) ?_
            refine aw_callV X (as := [vI (-7)]) mf_X6_refuse zw_267 h zs_1 rfl rfl (by decide) (Nat.le_of_ble_eq_true rfl) dX6_row_55 (fun v I10 L10 h => ?_)
            obtain ⟨r10, rfl, h⟩ := h
            exact aw_iret X E rfl dX6_row_58 h
          · replace h := zifn c9 h
            refine aw_aload X 0 dX6_row_59 rfl ?_
            refine aw_iload_n X 3 dX6_row_61 rfl ?_
            refine aw_iload_n X 4 dX6_row_62 rfl ?_
            refine aw_callV X (as := [vI a2, vI a3]) mf_X3_takeRow zw_271 h (nn_X6_shelfAt c1) rfl rfl (by decide) (Nat.le_of_ble_eq_true rfl) dX6_row_63 (fun v I11 L11 h => ?_)
            obtain ⟨rfl, h⟩ := h
            refine aw_iconst (v := 1) X dX6_row_66 (by decide) ?_
            exact aw_iret X E rfl dX6_row_67 h
set_option maxRecDepth 100000 in
theorem m_X6_scratch {l : Launch} {g : zG} {Q : Option zv → zI → zL → Prop} {I : zI} {L : zL} {a1 : Int32} {a2 : Int32}  (h : if (v_X4_paneAt I 2 a1) = 0 then (Call l g 1 M_X6_refuse [vR 1, vI (-1)] I L (zi fun r2 I2 L2 => Q (some (vI r2)) I2 L2)) else (if (v_X6_isCell a2) = 0 then (Call l g 1 M_X6_refuse [vR 1, vI (-5)] I L (zi fun r7 I7 L7 => Q (some (vI r7)) I7 L7)) else (if (v_X1_isScratched I (v_X4_paneAt I 2 a1) a2) = 0 then (Call l g 2 M_X1_scratchOff [vR (v_X4_paneAt I 2 a1), vI a2] I L (zi fun r5 I5 L5 => Q (some (vI r5)) I5 L5)) else (Call l g 1 M_X6_refuse [vR 1, vI (-6)] I L (zi fun r6 I6 L6 => Q (some (vI r6)) I6 L6))))) : Call l g 3 M_X6_scratch [vR 1, vI a1, vI a2] I L Q := by
  refine aw_entry (by decide) (Nat.le_of_ble_eq_true rfl) (fun k hk (X : zX k g cX6_scratch RX6 4 (some .int) 3) E => ?_)
  show AW k g 4 I L 0 [(0, vR 1), (1, vI a1), (2, vI a2)] []
  subst hk
  refine aw_aload_n X 0 dX6_scratch_0 rfl ?_
  refine aw_getR X zf_RX6_10 rfl zs_1 zr_1_0 dX6_scratch_1 ?_
  refine aw_iload_n X 1 dX6_scratch_4 rfl ?_
  refine aw_pV X (as := [vI a1]) mf_X4_paneAt zw_310 (p_X4_paneAt zs_2) zs_2 rfl rfl (by decide) (Nat.le_of_ble_eq_true rfl) dX6_scratch_5 ?_
  refine aw_astore_n X dX6_scratch_8 (by decide) rfl ?_
  refine aw_aload_n X 0 dX6_scratch_9 rfl ?_
  refine aw_ifnonnull X 19 dX6_scratch_10 rfl (fun c1 => ?_) (fun c1 => ?_)
  · replace h := zifp c1 h
    refine aw_aload_n X 1 dX6_scratch_13 rfl ?_
    refine aw_iconst (v := (-1)) X dX6_scratch_14 (by decide) ?_
    refine aw_callV X (as := [vI (-1)]) mf_X6_refuse zw_267 h zs_1 rfl rfl (by decide) (Nat.le_of_ble_eq_true rfl) dX6_scratch_15 (fun v I2 L2 h => ?_)
    obtain ⟨r2, rfl, h⟩ := h
    exact aw_iret X E rfl dX6_scratch_18 h
  · replace h := zifn c1 h
    refine aw_iload_n X 3 dX6_scratch_19 rfl ?_
    refine aw_pS X (as := [vI a2]) mf_X6_isCell zw_567 (p_X6_isCell) rfl rfl (by decide) (Nat.le_of_ble_eq_true rfl) dX6_scratch_20 ?_
    refine aw_if_ne X 33 dX6_scratch_23 rfl (fun c3 => ?_) (fun c3 => ?_)
    · replace h := zifn c3 h
      refine aw_aload_n X 0 dX6_scratch_33 rfl ?_
      refine aw_iload_n X 3 dX6_scratch_34 rfl ?_
      refine aw_pV X (as := [vI a2]) mf_X1_isScratched zw_731 (p_X1_isScratched (nn_X4_paneAt zs_2 c1)) (nn_X4_paneAt zs_2 c1) rfl rfl (by decide) (Nat.le_of_ble_eq_true rfl) dX6_scratch_35 ?_
      refine aw_if_eq X 48 dX6_scratch_38 rfl (fun c4 => ?_) (fun c4 => ?_)
      · replace h := zifp c4 h
        refine aw_aload_n X 0 dX6_scratch_48 rfl ?_
        refine aw_iload_n X 3 dX6_scratch_49 rfl ?_
        refine aw_callV X (as := [vI a2]) mf_X1_scratchOff zw_735 h (nn_X4_paneAt zs_2 c1) rfl rfl (by decide) (Nat.le_of_ble_eq_true rfl) dX6_scratch_50 (fun v I5 L5 h => ?_)
        obtain ⟨r5, rfl, h⟩ := h
        exact aw_iret X E rfl dX6_scratch_53 h
      · replace h := zifn c4 h
        refine aw_aload_n X 1 dX6_scratch_41 rfl ?_
        refine aw_bipush (v := (-6)) X dX6_scratch_42 (by decide) ?_
        refine aw_callV X (as := [vI (-6)]) mf_X6_refuse zw_267 h zs_1 rfl rfl (by decide) (Nat.le_of_ble_eq_true rfl) dX6_scratch_44 (fun v I6 L6 h => ?_)
        obtain ⟨r6, rfl, h⟩ := h
        exact aw_iret X E rfl dX6_scratch_47 h
    · replace h := zifp c3 h
      refine aw_aload_n X 1 dX6_scratch_26 rfl ?_
      refine aw_bipush (v := (-5)) X dX6_scratch_27 (by decide) ?_
      refine aw_callV X (as := [vI (-5)]) mf_X6_refuse zw_267 h zs_1 rfl rfl (by decide) (Nat.le_of_ble_eq_true rfl) dX6_scratch_29 (fun v I7 L7 h => ?_)
      obtain ⟨r7, rfl, h⟩ := h
      exact aw_iret X E rfl dX6_scratch_32 h
set_option maxRecDepth 100000 in
theorem m_X6_seed {l : Launch} {g : zG} {Q : Option zv → zI → zL → Prop} {I : zI} {L : zL} {a1 : Int32}  (h : Q (some (vI (I 2 9))) (zs I 2 9 a1) L) : Call l g 1 M_X6_seed [vR 1, vI a1] I L Q := by
  refine aw_entry (by decide) (Nat.le_of_ble_eq_true rfl) (fun k hk (X : zX k g cX6_seed RX6 3 (some .int) 1) E => ?_)
  show AW k g 3 I L 0 [(0, vR 1), (1, vI a1)] []
  subst hk
  refine aw_aload_n X 0 dX6_seed_0 rfl ?_
  refine aw_getR X zf_RX6_10 rfl zs_1 zr_1_0 dX6_seed_1 ?_
  refine aw_getI X zf_RX6_326 rfl zs_2 dX6_seed_4 ?_
  refine aw_istore_n X dX6_seed_7 (by decide) rfl ?_
  refine aw_aload_n X 1 dX6_seed_8 rfl ?_
  refine aw_getR X zf_RX6_10 rfl zs_1 zr_1_0 dX6_seed_9 ?_
  refine aw_iload_n X 2 dX6_seed_12 rfl ?_
  refine aw_putI X zf_RX6_326 rfl rfl rfl zs_2 dX6_seed_13 ?_
  refine aw_iload_n X 0 dX6_seed_16 rfl ?_
  exact aw_iret X E rfl dX6_seed_17 h
set_option maxRecDepth 100000 in
theorem m_X6_set {l : Launch} {g : zG} {Q : Option zv → zI → zL → Prop} {I : zI} {L : zL} {a1 : Int32} {a2 : Int32} {a3 : Int64}  (h : if (v_X6_shelfAt a1) = 0 then (k_X6_lackOfRow I (v_X6_shelfAt a1) ∧ (Call l g 1 M_X6_refuse [vR 1, vI (v_X6_lackOfRow I (v_X6_shelfAt a1))] I L (zi fun r3 I3 L3 => Q (some (vI r3)) I3 L3))) else (k_X3_hasRow I (v_X6_shelfAt a1) ∧ (if (v_X3_hasRow I (v_X6_shelfAt a1)) = 0 then (k_X6_lackOfRow I (v_X6_shelfAt a1) ∧ (Call l g 1 M_X6_refuse [vR 1, vI (v_X6_lackOfRow I (v_X6_shelfAt a1))] I L (zi fun r12 I12 L12 => Q (some (vI r12)) I12 L12))) else (if a2 < 0 then (Call l g 1 M_X6_refuse [vR 1, vI (-5)] I L (zi fun r7 I7 L7 => Q (some (vI r7)) I7 L7)) else (if a2 < (I (v_X6_shelfAt a1) 2) then (Call l g 2 M_X3_put [vR (v_X6_shelfAt a1), vI a2, vL a3] I L (zn fun I9 L9 => Q (some (vI 1)) I9 L9)) else (Call l g 1 M_X6_refuse [vR 1, vI (-5)] I L (zi fun r10 I10 L10 => Q (some (vI r10)) I10 L10))))))) : Call l g 3 M_X6_set [vR 1, vI a1, vI a2, vL a3] I L Q := by
  refine aw_entry (by decide) (Nat.le_of_ble_eq_true rfl) (fun k hk (X : zX k g cX6_set RX6 6 (some .int) 3) E => ?_)
  show AW k g 6 I L 0 [(0, vR 1), (1, vI a1), (2, vI a2), (3, vL a3)] []
  subst hk
  refine aw_aload_n X 0 dX6_set_0 rfl ?_
  refine aw_iload_n X 1 dX6_set_1 rfl ?_
  refine aw_pV X (as := [vI a1]) mf_X6_shelfAt zw_263 (p_X6_shelfAt) zs_1 rfl rfl (by decide) (Nat.le_of_ble_eq_true rfl) dX6_set_2 ?_
  refine aw_astore X dX6_set_5 (by decide) rfl ?_
  refine aw_aload X 0 dX6_set_7 rfl ?_
  refine aw_ifnull X 20 dX6_set_9 rfl (fun c1 => ?_) (fun c1 => ?_)
  · replace h := zifp c1 h
    refine aw_aload_n X 1 dX6_set_20 rfl ?_
    refine aw_aload X 0 dX6_set_21 rfl ?_
    have n2 := h.1
    replace h := h.2
    refine aw_pS X (as := [vR (v_X6_shelfAt a1)]) mf_X6_lackOfRow zw_283 (p_X6_lackOfRow n2) rfl rfl (by decide) (Nat.le_of_ble_eq_true rfl) dX6_set_23 ?_
    refine aw_callV X (as := [vI (v_X6_lackOfRow I (v_X6_shelfAt a1))]) mf_X6_refuse zw_267 h zs_1 rfl rfl (by decide) (Nat.le_of_ble_eq_true rfl) dX6_set_26 (fun v I3 L3 h => ?_)
    obtain ⟨r3, rfl, h⟩ := h
    exact aw_iret X E rfl dX6_set_29 h
  · replace h := zifn c1 h
    refine aw_aload X 0 dX6_set_12 rfl ?_
    have n4 := h.1
    replace h := h.2
    refine aw_pV X (as := []) mf_X3_hasRow zw_279 (p_X3_hasRow (nn_X6_shelfAt c1) n4) (nn_X6_shelfAt c1) rfl rfl (by decide) (Nat.le_of_ble_eq_true rfl) dX6_set_14 ?_
    refine aw_if_ne X 30 dX6_set_17 rfl (fun c5 => ?_) (fun c5 => ?_)
    · replace h := zifn c5 h
      refine aw_iload_n X 3 dX6_set_30 rfl ?_
      refine aw_if_lt X 43 dX6_set_31 rfl (fun c6 => ?_) (fun c6 => ?_)
      · replace h := zifp c6 h
        refine aw_aload_n X 1 dX6_set_43 rfl ?_
        refine aw_bipush (v := (-5)) X dX6_set_44 (by decide) ?_
        refine aw_callV X (as := [vI (-5)]) mf_X6_refuse zw_267 h zs_1 rfl rfl (by decide) (Nat.le_of_ble_eq_true rfl) dX6_set_46 (fun v I7 L7 h => ?_)
        obtain ⟨r7, rfl, h⟩ := h
        exact aw_iret X E rfl dX6_set_49 h
      · replace h := zifn c6 h
        refine aw_iload_n X 3 dX6_set_34 rfl ?_
        refine aw_aload X 0 dX6_set_35 rfl ?_
        refine aw_getI X zf_RX6_80 rfl (nn_X6_shelfAt c1) dX6_set_37 ?_
        refine aw_icmp_lt X 50 dX6_set_40 rfl (fun c8 => ?_) (fun c8 => ?_)
        · replace h := zifp c8 h
          refine aw_aload X 0 dX6_set_50 rfl ?_
          refine aw_iload_n X 3 dX6_set_52 rfl ?_
          refine aw_lload_n X 4 dX6_set_53 rfl ?_
          refine aw_callV X (as := [vI a2, vL a3]) mf_X3_put zw_290 h (nn_X6_shelfAt c1) rfl rfl (by decide) (Nat.le_of_ble_eq_true rfl) dX6_set_54 (fun v I9 L9 h => ?_)
          obtain ⟨rfl, h⟩ := h
          refine aw_iconst (v := 1) X dX6_set_57 (by decide) ?_
          exact aw_iret X E rfl dX6_set_58 h
        · replace h := zifn c8 h
          refine aw_aload_n X 1 dX6_set_43 rfl ?_
          refine aw_bipush (v := (-5)) X dX6_set_44 (by decide) ?_
          refine aw_callV X (as := [vI (-5)]) mf_X6_refuse zw_267 h zs_1 rfl rfl (by decide) (Nat.le_of_ble_eq_true rfl) dX6_set_46 (fun v I10 L10 h => ?_)
          obtain ⟨r10, rfl, h⟩ := h
          exact aw_iret X E rfl dX6_set_49 h
    · replace h := zifp c5 h
      refine aw_aload_n X 1 dX6_set_20 rfl ?_
      refine aw_aload X 0 dX6_set_21 rfl ?_
      have n11 := h.1
      replace h := h.2
      refine aw_pS X (as := [vR (v_X6_shelfAt a1)]) mf_X6_lackOfRow zw_283 (p_X6_lackOfRow n11) rfl rfl (by decide) (Nat.le_of_ble_eq_true rfl) dX6_set_23 ?_
      refine aw_callV X (as := [vI (v_X6_lackOfRow I (v_X6_shelfAt a1))]) mf_X6_refuse zw_267 h zs_1 rfl rfl (by decide) (Nat.le_of_ble_eq_true rfl) dX6_set_26 (fun v I12 L12 h => ?_)
      obtain ⟨r12, rfl, h⟩ := h
      exact aw_iret X E rfl dX6_set_29 h
set_option maxRecDepth 100000 in
theorem m_X6_shape {l : Launch} {g : zG} {Q : Option zv → zI → zL → Prop} {I : zI} {L : zL} {a1 : Int32} {a2 : Int32} {a3 : Int32}  (h : if (v_X4_paneAt I 2 a1) = 0 then (Call l g 1 M_X6_refuse [vR 1, vI (-1)] I L (zi fun r2 I2 L2 => Q (some (vI r2)) I2 L2)) else (if (v_X4_isLetterOrNone I 2 a2) = 0 then (Call l g 1 M_X6_refuse [vR 1, vI (-1)] I L (zi fun r7 I7 L7 => Q (some (vI r7)) I7 L7)) else (if (v_X6_isHour a3) = 0 then (Call l g 1 M_X6_refuse [vR 1, vI (-6)] I L (zi fun r6 I6 L6 => Q (some (vI r6)) I6 L6)) else (Call l g 5 M_X5_shapeAt [vR 59, vR (v_X4_paneAt I 2 a1), vI a2, vI a3] I L (zi fun r5 I5 L5 => Q (some (vI r5)) I5 L5))))) : Call l g 6 M_X6_shape [vR 1, vI a1, vI a2, vI a3] I L Q := by
  refine aw_entry (by decide) (Nat.le_of_ble_eq_true rfl) (fun k hk (X : zX k g cX6_shape RX6 5 (some .int) 6) E => ?_)
  show AW k g 5 I L 0 [(0, vR 1), (1, vI a1), (2, vI a2), (3, vI a3)] []
  subst hk
  refine aw_aload_n X 0 dX6_shape_0 rfl ?_
  refine aw_getR X zf_RX6_10 rfl zs_1 zr_1_0 dX6_shape_1 ?_
  refine aw_iload_n X 1 dX6_shape_4 rfl ?_
  refine aw_pV X (as := [vI a1]) mf_X4_paneAt zw_310 (p_X4_paneAt zs_2) zs_2 rfl rfl (by decide) (Nat.le_of_ble_eq_true rfl) dX6_shape_5 ?_
  refine aw_astore X dX6_shape_8 (by decide) rfl ?_
  refine aw_aload X 0 dX6_shape_10 rfl ?_
  refine aw_ifnull X 26 dX6_shape_12 rfl (fun c1 => ?_) (fun c1 => ?_)
  · replace h := zifp c1 h
    refine aw_aload_n X 1 dX6_shape_26 rfl ?_
    refine aw_iconst (v := (-1)) X dX6_shape_27 (by decide) ?_
    refine aw_callV X (as := [vI (-1)]) mf_X6_refuse zw_267 h zs_1 rfl rfl (by decide) (Nat.le_of_ble_eq_true rfl) dX6_shape_28 (fun v I2 L2 h => ?_)
    obtain ⟨r2, rfl, h⟩ := h
    exact aw_iret X E rfl dX6_shape_31 h
  · replace h := zifn c1 h
    refine aw_aload_n X 1 dX6_shape_15 rfl ?_
    refine aw_getR X zf_RX6_10 rfl zs_1 zr_1_0 dX6_shape_16 ?_
    refine aw_iload_n X 3 dX6_shape_19 rfl ?_
    refine aw_pV X (as := [vI a2]) mf_X4_isLetterOrNone zw_392 (p_X4_isLetterOrNone zs_2) zs_2 rfl rfl (by decide) (Nat.le_of_ble_eq_true rfl) dX6_shape_20 ?_
    refine aw_if_ne X 32 dX6_shape_23 rfl (fun c3 => ?_) (fun c3 => ?_)
    · replace h := zifn c3 h
      refine aw_iload_n X 4 dX6_shape_32 rfl ?_
      refine aw_pS X (as := [vI a3]) mf_X6_isHour zw_570 (p_X6_isHour) rfl rfl (by decide) (Nat.le_of_ble_eq_true rfl) dX6_shape_33 ?_
      refine aw_if_ne X 46 dX6_shape_36 rfl (fun c4 => ?_) (fun c4 => ?_)
      · replace h := zifn c4 h
        refine aw_aload_n X 1 dX6_shape_46 rfl ?_
        refine aw_getR X zf_RX6_27 rfl zs_1 zr_1_3 dX6_shape_47 ?_
        refine aw_aload X 0 dX6_shape_50 rfl ?_
        refine aw_iload_n X 3 dX6_shape_52 rfl ?_
        refine aw_iload_n X 4 dX6_shape_53 rfl ?_
        refine aw_callV X (as := [vR (v_X4_paneAt I 2 a1), vI a2, vI a3]) mf_X5_shapeAt zw_639 h zs_59 rfl rfl (by decide) (Nat.le_of_ble_eq_true rfl) dX6_shape_54 (fun v I5 L5 h => ?_)
        obtain ⟨r5, rfl, h⟩ := h
        exact aw_iret X E rfl dX6_shape_57 h
      · replace h := zifp c4 h
        refine aw_aload_n X 1 dX6_shape_39 rfl ?_
        refine aw_bipush (v := (-6)) X dX6_shape_40 (by decide) ?_
        refine aw_callV X (as := [vI (-6)]) mf_X6_refuse zw_267 h zs_1 rfl rfl (by decide) (Nat.le_of_ble_eq_true rfl) dX6_shape_42 (fun v I6 L6 h => ?_)
        obtain ⟨r6, rfl, h⟩ := h
        exact aw_iret X E rfl dX6_shape_45 h
    · replace h := zifp c3 h
      refine aw_aload_n X 1 dX6_shape_26 rfl ?_
      refine aw_iconst (v := (-1)) X dX6_shape_27 (by decide) ?_
      refine aw_callV X (as := [vI (-1)]) mf_X6_refuse zw_267 h zs_1 rfl rfl (by decide) (Nat.le_of_ble_eq_true rfl) dX6_shape_28 (fun v I7 L7 h => ?_)
      obtain ⟨r7, rfl, h⟩ := h
      exact aw_iret X E rfl dX6_shape_31 h
set_option maxRecDepth 100000 in
theorem m_X6_show {l : Launch} {g : zG} {Q : Option zv → zI → zL → Prop} {I : zI} {L : zL} {a1 : Int32} {a2 : Int32}  (h : if (v_X6_shelfAt a1) = 0 then (Call l g 1 M_X6_refuse [vR 1, vI (-1)] I L (zi fun r2 I2 L2 => Q (some (vI r2)) I2 L2)) else (if a2 = (-1) then (if a2 = (-1) then (Call l g 1 M_X3_takeNothing [vR (v_X6_shelfAt a1)] I L (zn fun I6 L6 => Q (some (vI 0)) I6 L6)) else (Call l g 1 M_X3_takePane [vR (v_X6_shelfAt a1), vI a2] I L (zn fun I5 L5 => Q (some (vI 1)) I5 L5))) else (if (v_X4_paneAt I 2 a2) = 0 then (Call l g 1 M_X6_refuse [vR 1, vI (-1)] I L (zi fun r8 I8 L8 => Q (some (vI r8)) I8 L8)) else (if a2 = (-1) then (Call l g 1 M_X3_takeNothing [vR (v_X6_shelfAt a1)] I L (zn fun I11 L11 => Q (some (vI 0)) I11 L11)) else (Call l g 1 M_X3_takePane [vR (v_X6_shelfAt a1), vI a2] I L (zn fun I10 L10 => Q (some (vI 1)) I10 L10)))))) : Call l g 2 M_X6_show [vR 1, vI a1, vI a2] I L Q := by
  refine aw_entry (by decide) (Nat.le_of_ble_eq_true rfl) (fun k hk (X : zX k g cX6_show RX6 4 (some .int) 2) E => ?_)
  show AW k g 4 I L 0 [(0, vR 1), (1, vI a1), (2, vI a2)] []
  subst hk
  refine aw_aload_n X 0 dX6_show_0 rfl ?_
  refine aw_iload_n X 1 dX6_show_1 rfl ?_
  refine aw_pV X (as := [vI a1]) mf_X6_shelfAt zw_263 (p_X6_shelfAt) zs_1 rfl rfl (by decide) (Nat.le_of_ble_eq_true rfl) dX6_show_2 ?_
  refine aw_astore_n X dX6_show_5 (by decide) rfl ?_
  refine aw_aload_n X 0 dX6_show_6 rfl ?_
  refine aw_ifnull X 26 dX6_show_7 rfl (fun c1 => ?_) (fun c1 => ?_)
  · replace h := zifp c1 h
    refine aw_aload_n X 1 dX6_show_26 rfl ?_
    refine aw_iconst (v := (-1)) X dX6_show_27 (by decide) ?_
    refine aw_callV X (as := [vI (-1)]) mf_X6_refuse zw_267 h zs_1 rfl rfl (by decide) (Nat.le_of_ble_eq_true rfl) dX6_show_28 (fun v I2 L2 h => ?_)
    obtain ⟨r2, rfl, h⟩ := h
    exact aw_iret X E rfl dX6_show_31 h
  · replace h := zifn c1 h
    refine aw_iload_n X 3 dX6_show_10 rfl ?_
    refine aw_iconst (v := (-1)) X dX6_show_11 (by decide) ?_
    refine aw_icmp_eq X 32 dX6_show_12 rfl (fun c3 => ?_) (fun c3 => ?_)
    · replace h := zifp c3 h
      refine aw_iload_n X 3 dX6_show_32 rfl ?_
      refine aw_iconst (v := (-1)) X dX6_show_33 (by decide) ?_
      refine aw_icmp_ne X 43 dX6_show_34 rfl (fun c4 => ?_) (fun c4 => ?_)
      · replace h := zifn c4 h
        refine aw_aload_n X 0 dX6_show_43 rfl ?_
        refine aw_iload_n X 3 dX6_show_44 rfl ?_
        refine aw_callV X (as := [vI a2]) mf_X3_takePane zw_318 h (nn_X6_shelfAt c1) rfl rfl (by decide) (Nat.le_of_ble_eq_true rfl) dX6_show_45 (fun v I5 L5 h => ?_)
        obtain ⟨rfl, h⟩ := h
        refine aw_iconst (v := 1) X dX6_show_48 (by decide) ?_
        exact aw_iret X E rfl dX6_show_49 h
      · replace h := zifp c4 h
        refine aw_aload_n X 0 dX6_show_37 rfl ?_
        refine aw_callV X (as := []) mf_X3_takeNothing zw_314 h (nn_X6_shelfAt c1) rfl rfl (by decide) (Nat.le_of_ble_eq_true rfl) dX6_show_38 (fun v I6 L6 h => ?_)
        obtain ⟨rfl, h⟩ := h
        refine aw_iconst (v := 0) X dX6_show_41 (by decide) ?_
        exact aw_iret X E rfl dX6_show_42 h
    · replace h := zifn c3 h
      refine aw_aload_n X 1 dX6_show_15 rfl ?_
      refine aw_getR X zf_RX6_10 rfl zs_1 zr_1_0 dX6_show_16 ?_
      refine aw_iload_n X 3 dX6_show_19 rfl ?_
      refine aw_pV X (as := [vI a2]) mf_X4_paneAt zw_310 (p_X4_paneAt zs_2) zs_2 rfl rfl (by decide) (Nat.le_of_ble_eq_true rfl) dX6_show_20 ?_
      refine aw_ifnonnull X 32 dX6_show_23 rfl (fun c7 => ?_) (fun c7 => ?_)
      · replace h := zifp c7 h
        refine aw_aload_n X 1 dX6_show_26 rfl ?_
        refine aw_iconst (v := (-1)) X dX6_show_27 (by decide) ?_
        refine aw_callV X (as := [vI (-1)]) mf_X6_refuse zw_267 h zs_1 rfl rfl (by decide) (Nat.le_of_ble_eq_true rfl) dX6_show_28 (fun v I8 L8 h => ?_)
        obtain ⟨r8, rfl, h⟩ := h
        exact aw_iret X E rfl dX6_show_31 h
      · replace h := zifn c7 h
        refine aw_iload_n X 3 dX6_show_32 rfl ?_
        refine aw_iconst (v := (-1)) X dX6_show_33 (by decide) ?_
        refine aw_icmp_ne X 43 dX6_show_34 rfl (fun c9 => ?_) (fun c9 => ?_)
        · replace h := zifn c9 h
          refine aw_aload_n X 0 dX6_show_43 rfl ?_
          refine aw_iload_n X 3 dX6_show_44 rfl ?_
          refine aw_callV X (as := [vI a2]) mf_X3_takePane zw_318 h (nn_X6_shelfAt c1) rfl rfl (by decide) (Nat.le_of_ble_eq_true rfl) dX6_show_45 (fun v I10 L10 h => ?_)
          obtain ⟨rfl, h⟩ := h
          refine aw_iconst (v := 1) X dX6_show_48 (by decide) ?_
          exact aw_iret X E rfl dX6_show_49 h
        · replace h := zifp c9 h
          refine aw_aload_n X 0 dX6_show_37 rfl ?_
          refine aw_callV X (as := []) mf_X3_takeNothing zw_314 h (nn_X6_shelfAt c1) rfl rfl (by decide) (Nat.le_of_ble_eq_true rfl) dX6_show_38 (fun v I11 L11 h => ?_)
          obtain ⟨rfl, h⟩ := h
          refine aw_iconst (v := 0) X dX6_show_41 (by decide) ?_
          exact aw_iret X E rfl dX6_show_42 h
set_option maxRecDepth 100000 in
theorem m_X6_winter {l : Launch} {g : zG} {Q : Option zv → zI → zL → Prop} {I : zI} {L : zL} {a1 : Int32}  (h : if a1 < 1 then (Call l g 1 M_X6_refuse [vR 1, vI (-6)] I L (zi fun r2 I2 L2 => Q (some (vI r2)) I2 L2)) else (if 40 < a1 then (Call l g 1 M_X6_refuse [vR 1, vI (-6)] I L (zi fun r4 I4 L4 => Q (some (vI r4)) I4 L4)) else (Call l g 6 M_X4_passWinter [vR 2, vI a1] I L (zi fun r5 I5 L5 => Q (some (vI r5)) I5 L5)))) : Call l g 7 M_X6_winter [vR 1, vI a1] I L Q := by
  refine aw_entry (by decide) (Nat.le_of_ble_eq_true rfl) (fun k hk (X : zX k g cX6_winter RX6 2 (some .int) 7) E => ?_)
  show AW k g 2 I L 0 [(0, vR 1), (1, vI a1)] []
  subst hk
  refine aw_iload_n X 1 dX6_winter_0 rfl ?_
  refine aw_iconst (v := 1) X dX6_winter_1 (by decide) ?_
  refine aw_icmp_lt X 11 dX6_winter_2 rfl (fun c1 => ?_) (fun c1 => ?_)
  · replace h := zifp c1 h
    refine aw_aload_n X 0 dX6_winter_11 rfl ?_
    refine aw_bipush (v := (-6)) X dX6_winter_12 (by decide) ?_
    refine aw_callV X (as := [vI (-6)]) mf_X6_refuse zw_267 h zs_1 rfl rfl (by decide) (Nat.le_of_ble_eq_true rfl) dX6_winter_14 (fun v I2 L2 h => ?_)
    obtain ⟨r2, rfl, h⟩ := h
    exact aw_iret X E rfl dX6_winter_17 h
  · replace h := zifn c1 h
    refine aw_iload_n X 1 dX6_winter_5 rfl ?_
    refine aw_bipush (v := 40) X dX6_winter_6 (by decide) ?_
    refine aw_icmp_len X 18 dX6_winter_8 rfl (fun c3 => ?_) (fun c3 => ?_)
    · replace h := zifp c3 h
      refine aw_aload_n X 0 dX6_winter_11 rfl ?_
      refine aw_bipush (v := (-6)) X dX6_winter_12 (by decide) ?_
      refine aw_callV X (as := [vI (-6)]) mf_X6_refuse zw_267 h zs_1 rfl rfl (by decide) (Nat.le_of_ble_eq_true rfl) dX6_winter_14 (fun v I4 L4 h => ?_)
      obtain ⟨r4, rfl, h⟩ := h
      exact aw_iret X E rfl dX6_winter_17 h
    · replace h := zifn c3 h
      refine aw_aload_n X 0 dX6_winter_18 rfl ?_
      refine aw_getR X zf_RX6_10 rfl zs_1 zr_1_0 dX6_winter_19 ?_
      refine aw_iload_n X 1 dX6_winter_22 rfl ?_
      refine aw_callV X (as := [vI a1]) mf_X4_passWinter zw_743 h zs_2 rfl rfl (by decide) (Nat.le_of_ble_eq_true rfl) dX6_winter_23 (fun v I5 L5 h => ?_)
      obtain ⟨r5, rfl, h⟩ := h
      exact aw_iret X E rfl dX6_winter_26 h
set_option maxRecDepth 100000 in
theorem m_X6_chill {l : Launch} {g : zG} {Q : Option zv → zI → zL → Prop} {I : zI} {L : zL} {a1 : Int32} {a2 : Int32} {a3 : Int32}  (h : if (v_X4_paneAt I 2 a1) = 0 then (Call l g 2 M_X6_refuseNobody [vR 1] I L (zi fun r2 I2 L2 => Q (some (vI r2)) I2 L2)) else (if (v_X4_isLetter I 2 a2) = 0 then (Call l g 2 M_X6_refuseNobody [vR 1] I L (zi fun r7 I7 L7 => Q (some (vI r7)) I7 L7)) else (if (v_X6_isHour a3) = 0 then (Call l g 2 M_X6_refuseWrong [vR 1] I L (zi fun r6 I6 L6 => Q (some (vI r6)) I6 L6)) else (Call l g 5 M_X5_leastCold [vR 59, vR (v_X4_paneAt I 2 a1), vI a2, vI a3] I L (zi fun r5 I5 L5 => Q (some (vI r5)) I5 L5))))) : Call l g 6 M_X6_chill [vR 1, vI a1, vI a2, vI a3] I L Q := by
  refine aw_entry (by decide) (Nat.le_of_ble_eq_true rfl) (fun k hk (X : zX k g cX6_chill RX6 5 (some .int) 6) E => ?_)
  show AW k g 5 I L 0 [(0, vR 1), (1, vI a1), (2, vI a2), (3, vI a3)] []
  subst hk
  refine aw_aload_n X 0 dX6_chill_0 rfl ?_
  refine aw_getR X zf_RX6_10 rfl zs_1 zr_1_0 dX6_chill_1 ?_
  refine aw_iload_n X 1 dX6_chill_4 rfl ?_
  refine aw_pV X (as := [vI a1]) mf_X4_paneAt zw_310 (p_X4_paneAt zs_2) zs_2 rfl rfl (by decide) (Nat.le_of_ble_eq_true rfl) dX6_chill_5 ?_
  refine aw_astore X dX6_chill_8 (by decide) rfl ?_
  refine aw_aload X 0 dX6_chill_10 rfl ?_
  refine aw_ifnull X 26 dX6_chill_12 rfl (fun c1 => ?_) (fun c1 => ?_)
  · replace h := zifp c1 h
    refine aw_aload_n X 1 dX6_chill_26 rfl ?_
    refine aw_callV X (as := []) mf_X6_refuseNobody zw_644 h zs_1 rfl rfl (by decide) (Nat.le_of_ble_eq_true rfl) dX6_chill_27 (fun v I2 L2 h => ?_)
    obtain ⟨r2, rfl, h⟩ := h
    exact aw_iret X E rfl dX6_chill_30 h
  · replace h := zifn c1 h
    refine aw_aload_n X 1 dX6_chill_15 rfl ?_
    refine aw_getR X zf_RX6_10 rfl zs_1 zr_1_0 dX6_chill_16 ?_
    refine aw_iload_n X 3 dX6_chill_19 rfl ?_
    refine aw_pV X (as := [vI a2]) mf_X4_isLetter zw_661 (p_X4_isLetter zs_2) zs_2 rfl rfl (by decide) (Nat.le_of_ble_eq_true rfl) dX6_chill_20 ?_
    refine aw_if_ne X 31 dX6_chill_23 rfl (fun c3 => ?_) (fun c3 => ?_)
    · replace h := zifn c3 h
      refine aw_iload_n X 4 dX6_chill_31 rfl ?_
      refine aw_pS X (as := [vI a3]) mf_X6_isHour zw_570 (p_X6_isHour) rfl rfl (by decide) (Nat.le_of_ble_eq_true rfl) dX6_chill_32 ?_
      refine aw_if_ne X 43 dX6_chill_35 rfl (fun c4 => ?_) (fun c4 => ?_)
      · replace h := zifn c4 h
        refine aw_aload_n X 1 dX6_chill_43 rfl ?_
        refine aw_getR X zf_RX6_27 rfl zs_1 zr_1_3 dX6_chill_44 ?_
        refine aw_aload X 0 dX6_chill_47 rfl ?_
        refine aw_iload_n X 3 dX6_chill_49 rfl ?_
        refine aw_iload_n X 4 dX6_chill_50 rfl ?_
        refine aw_callV X (as := [vR (v_X4_paneAt I 2 a1), vI a2, vI a3]) mf_X5_leastCold zw_853 h zs_59 rfl rfl (by decide) (Nat.le_of_ble_eq_true rfl) dX6_chill_51 (fun v I5 L5 h => ?_)
        obtain ⟨r5, rfl, h⟩ := h
        exact aw_iret X E rfl dX6_chill_54 h
      · replace h := zifp c4 h
        refine aw_aload_n X 1 dX6_chill_38 rfl ?_
        refine aw_callV X (as := []) mf_X6_refuseWrong zw_648 h zs_1 rfl rfl (by decide) (Nat.le_of_ble_eq_true rfl) dX6_chill_39 (fun v I6 L6 h => ?_)
        obtain ⟨r6, rfl, h⟩ := h
        exact aw_iret X E rfl dX6_chill_42 h
    · replace h := zifp c3 h
      refine aw_aload_n X 1 dX6_chill_26 rfl ?_
      refine aw_callV X (as := []) mf_X6_refuseNobody zw_644 h zs_1 rfl rfl (by decide) (Nat.le_of_ble_eq_true rfl) dX6_chill_27 (fun v I7 L7 h => ?_)
      obtain ⟨r7, rfl, h⟩ := h
      exact aw_iret X E rfl dX6_chill_30 h
set_option maxRecDepth 100000 in
theorem m_X6_closest {l : Launch} {g : zG} {Q : Option zv → zI → zL → Prop} {I : zI} {L : zL}   (h : if (I 2 2) < 2 then (Call l g 1 M_X6_refuse [vR 1, vI (-5)] I L (zi fun r2 I2 L2 => Q (some (vI r2)) I2 L2)) else (k_X4_nearestPair I 2 ∧ (Q (some (vI (v_X4_nearestPair I 2))) I L))) : Call l g 5 M_X6_closest [vR 1] I L Q := by
  refine aw_entry (by decide) (Nat.le_of_ble_eq_true rfl) (fun k hk (X : zX k g cX6_closest RX6 1 (some .int) 5) E => ?_)
  show AW k g 1 I L 0 [(0, vR 1)] []
  subst hk
  refine aw_aload_n X 0 dX6_closest_0 rfl ?_
  refine aw_getR X zf_RX6_10 rfl zs_1 zr_1_0 dX6_closest_1 ?_
  refine aw_getI X zf_RX6_278 rfl zs_2 dX6_closest_4 ?_
  refine aw_iconst (v := 2) X dX6_closest_7 (by decide) ?_
  refine aw_icmp_gen X 18 dX6_closest_8 rfl (fun c1 => ?_) (fun c1 => ?_)
  · replace h := zifp c1 h
    refine aw_aload_n X 0 dX6_closest_11 rfl ?_
    refine aw_bipush (v := (-5)) X dX6_closest_12 (by decide) ?_
    refine aw_callV X (as := [vI (-5)]) mf_X6_refuse zw_267 h zs_1 rfl rfl (by decide) (Nat.le_of_ble_eq_true rfl) dX6_closest_14 (fun v I2 L2 h => ?_)
    obtain ⟨r2, rfl, h⟩ := h
    exact aw_iret X E rfl dX6_closest_17 h
  · replace h := zifn c1 h
    refine aw_aload_n X 0 dX6_closest_18 rfl ?_
    refine aw_getR X zf_RX6_10 rfl zs_1 zr_1_0 dX6_closest_19 ?_
    have n3 := h.1
    replace h := h.2
    refine aw_pV X (as := []) mf_X4_nearestPair zw_809 (p_X4_nearestPair zs_2 n3) zs_2 rfl rfl (by decide) (Nat.le_of_ble_eq_true rfl) dX6_closest_22 ?_
    exact aw_iret X E rfl dX6_closest_25 h
set_option maxRecDepth 100000 in
theorem m_X6_formOf {l : Launch} {g : zG} {Q : Option zv → zI → zL → Prop} {I : zI} {L : zL} {a1 : Int32}  (h : if (v_X4_isLetter I 2 a1) = 0 then (Call l g 1 M_X6_refuse [vR 1, vI (-1)] I L (zi fun r2 I2 L2 => Q (some (vI r2)) I2 L2)) else (Q (some (vI (v_X4_cellsOf I 2 a1))) I L)) : Call l g 3 M_X6_formOf [vR 1, vI a1] I L Q := by
  refine aw_entry (by decide) (Nat.le_of_ble_eq_true rfl) (fun k hk (X : zX k g cX6_formOf RX6 2 (some .int) 3) E => ?_)
  show AW k g 2 I L 0 [(0, vR 1), (1, vI a1)] []
  subst hk
  refine aw_aload_n X 0 dX6_formOf_0 rfl ?_
  refine aw_getR X zf_RX6_10 rfl zs_1 zr_1_0 dX6_formOf_1 ?_
  refine aw_iload_n X 1 dX6_formOf_4 rfl ?_
  refine aw_pV X (as := [vI a1]) mf_X4_isLetter zw_661 (p_X4_isLetter zs_2) zs_2 rfl rfl (by decide) (Nat.le_of_ble_eq_true rfl) dX6_formOf_5 ?_
  refine aw_if_ne X 17 dX6_formOf_8 rfl (fun c1 => ?_) (fun c1 => ?_)
  · replace h := zifn c1 h
    refine aw_aload_n X 0 dX6_formOf_17 rfl ?_
    refine aw_getR X zf_RX6_10 rfl zs_1 zr_1_0 dX6_formOf_18 ?_
    refine aw_iload_n X 1 dX6_formOf_21 rfl ?_
    refine aw_pV X (as := [vI a1]) mf_X4_cellsOf zw_792 (p_X4_cellsOf zs_2) zs_2 rfl rfl (by decide) (Nat.le_of_ble_eq_true rfl) dX6_formOf_22 ?_
    exact aw_iret X E rfl dX6_formOf_25 h
  · replace h := zifp c1 h
    refine aw_aload_n X 0 dX6_formOf_11 rfl ?_
    refine aw_iconst (v := (-1)) X dX6_formOf_12 (by decide) ?_
    refine aw_callV X (as := [vI (-1)]) mf_X6_refuse zw_267 h zs_1 rfl rfl (by decide) (Nat.le_of_ble_eq_true rfl) dX6_formOf_13 (fun v I2 L2 h => ?_)
    obtain ⟨r2, rfl, h⟩ := h
    exact aw_iret X E rfl dX6_formOf_16 h
set_option maxRecDepth 100000 in
theorem m_X6_hangs {l : Launch} {g : zG} {Q : Option zv → zI → zL → Prop} {I : zI} {L : zL} {a1 : Int32}  (h : if (v_X4_paneAt I 2 a1) = 0 then (Call l g 2 M_X6_refuseNobody [vR 1] I L (zi fun r2 I2 L2 => Q (some (vI r2)) I2 L2)) else (Q (some (vI (I (v_X4_paneAt I 2 a1) 3))) I L)) : Call l g 3 M_X6_hangs [vR 1, vI a1] I L Q := by
  refine aw_entry (by decide) (Nat.le_of_ble_eq_true rfl) (fun k hk (X : zX k g cX6_hangs RX6 3 (some .int) 3) E => ?_)
  show AW k g 3 I L 0 [(0, vR 1), (1, vI a1)] []
  subst hk
  refine aw_aload_n X 0 dX6_hangs_0 rfl ?_
  refine aw_getR X zf_RX6_10 rfl zs_1 zr_1_0 dX6_hangs_1 ?_
  refine aw_iload_n X 1 dX6_hangs_4 rfl ?_
  refine aw_pV X (as := [vI a1]) mf_X4_paneAt zw_310 (p_X4_paneAt zs_2) zs_2 rfl rfl (by decide) (Nat.le_of_ble_eq_true rfl) dX6_hangs_5 ?_
  refine aw_astore_n X dX6_hangs_8 (by decide) rfl ?_
  refine aw_aload_n X 0 dX6_hangs_9 rfl ?_
  refine aw_ifnonnull X 20 dX6_hangs_10 rfl (fun c1 => ?_) (fun c1 => ?_)
  · replace h := zifp c1 h
    refine aw_aload_n X 1 dX6_hangs_13 rfl ?_
    refine aw_callV X (as := []) mf_X6_refuseNobody zw_644 h zs_1 rfl rfl (by decide) (Nat.le_of_ble_eq_true rfl) dX6_hangs_14 (fun v I2 L2 h => ?_)
    obtain ⟨r2, rfl, h⟩ := h
    refine aw_goto X 24 dX6_hangs_17 rfl ?_
    exact aw_iret X E rfl dX6_hangs_24 h
  · replace h := zifn c1 h
    refine aw_aload_n X 0 dX6_hangs_20 rfl ?_
    refine aw_getI X zf_RX6_193 rfl (nn_X4_paneAt zs_2 c1) dX6_hangs_21 ?_
    exact aw_iret X E rfl dX6_hangs_24 h
set_option maxRecDepth 100000 in
theorem m_X6_let {l : Launch} {g : zG} {Q : Option zv → zI → zL → Prop} {I : zI} {L : zL}   (h : Call l g 6 M_X5_firstPaperLead [vR 59] I L (zi fun r1 I1 L1 => Q (some (vI r1)) I1 L1)) : Call l g 7 M_X6_let [vR 1] I L Q := by
  refine aw_entry (by decide) (Nat.le_of_ble_eq_true rfl) (fun k hk (X : zX k g cX6_let RX6 1 (some .int) 7) E => ?_)
  show AW k g 1 I L 0 [(0, vR 1)] []
  subst hk
  refine aw_aload_n X 0 dX6_let_0 rfl ?_
  refine aw_getR X zf_RX6_27 rfl zs_1 zr_1_3 dX6_let_1 ?_
  refine aw_callV X (as := []) mf_X5_firstPaperLead zw_885 h zs_59 rfl rfl (by decide) (Nat.le_of_ble_eq_true rfl) dX6_let_4 (fun v I1 L1 h => ?_)
  obtain ⟨r1, rfl, h⟩ := h
  exact aw_iret X E rfl dX6_let_7 h
set_option maxRecDepth 100000 in
theorem m_X6_mend {l : Launch} {g : zG} {Q : Option zv → zI → zL → Prop} {I : zI} {L : zL} {a1 : Int32}  (h : if (v_X4_isLetter I 2 a1) = 0 then (Call l g 1 M_X6_refuse [vR 1, vI (-1)] I L (zi fun r5 I5 L5 => Q (some (vI r5)) I5 L5)) else (if (I 2 2) < 2 then (Call l g 1 M_X6_refuse [vR 1, vI (-5)] I L (zi fun r3 I3 L3 => Q (some (vI r3)) I3 L3)) else (k_X4_bestChange I 2 a1 ∧ (Q (some (vI (v_X4_bestChange I 2 a1))) I L)))) : Call l g 5 M_X6_mend [vR 1, vI a1] I L Q := by
  refine aw_entry (by decide) (Nat.le_of_ble_eq_true rfl) (fun k hk (X : zX k g cX6_mend RX6 2 (some .int) 5) E => ?_)
  show AW k g 2 I L 0 [(0, vR 1), (1, vI a1)] []
  subst hk
  refine aw_aload_n X 0 dX6_mend_0 rfl ?_
  refine aw_getR X zf_RX6_10 rfl zs_1 zr_1_0 dX6_mend_1 ?_
  refine aw_iload_n X 1 dX6_mend_4 rfl ?_
  refine aw_pV X (as := [vI a1]) mf_X4_isLetter zw_661 (p_X4_isLetter zs_2) zs_2 rfl rfl (by decide) (Nat.le_of_ble_eq_true rfl) dX6_mend_5 ?_
  refine aw_if_ne X 17 dX6_mend_8 rfl (fun c1 => ?_) (fun c1 => ?_)
  · replace h := zifn c1 h
    refine aw_aload_n X 0 dX6_mend_17 rfl ?_
    refine aw_getR X zf_RX6_10 rfl zs_1 zr_1_0 dX6_mend_18 ?_
    refine aw_getI X zf_RX6_278 rfl zs_2 dX6_mend_21 ?_
    refine aw_iconst (v := 2) X dX6_mend_24 (by decide) ?_
    refine aw_icmp_gen X 35 dX6_mend_25 rfl (fun c2 => ?_) (fun c2 => ?_)
    · replace h := zifp c2 h
      refine aw_aload_n X 0 dX6_mend_28 rfl ?_
      refine aw_bipush (v := (-5)) X dX6_mend_29 (by decide) ?_
      refine aw_callV X (as := [vI (-5)]) mf_X6_refuse zw_267 h zs_1 rfl rfl (by decide) (Nat.le_of_ble_eq_true rfl) dX6_mend_31 (fun v I3 L3 h => ?_)
      obtain ⟨r3, rfl, h⟩ := h
      exact aw_iret X E rfl dX6_mend_34 h
    · replace h := zifn c2 h
      refine aw_aload_n X 0 dX6_mend_35 rfl ?_
      refine aw_getR X zf_RX6_10 rfl zs_1 zr_1_0 dX6_mend_36 ?_
      refine aw_iload_n X 1 dX6_mend_39 rfl ?_
      have n4 := h.1
      replace h := h.2
      refine aw_pV X (as := [vI a1]) mf_X4_bestChange zw_818 (p_X4_bestChange zs_2 n4) zs_2 rfl rfl (by decide) (Nat.le_of_ble_eq_true rfl) dX6_mend_40 ?_
      exact aw_iret X E rfl dX6_mend_43 h
  · replace h := zifp c1 h
    refine aw_aload_n X 0 dX6_mend_11 rfl ?_
    refine aw_iconst (v := (-1)) X dX6_mend_12 (by decide) ?_
    refine aw_callV X (as := [vI (-1)]) mf_X6_refuse zw_267 h zs_1 rfl rfl (by decide) (Nat.le_of_ble_eq_true rfl) dX6_mend_13 (fun v I5 L5 h => ?_)
    obtain ⟨r5, rfl, h⟩ := h
    exact aw_iret X E rfl dX6_mend_16 h
set_option maxRecDepth 100000 in
theorem m_X6_mistaken {l : Launch} {g : zG} {Q : Option zv → zI → zL → Prop} {I : zI} {L : zL}   (h : Call l g 6 M_X5_curtainsRead [vR 59] I L (zi fun r1 I1 L1 => Q (some (vI r1)) I1 L1)) : Call l g 7 M_X6_mistaken [vR 1] I L Q := by
  refine aw_entry (by decide) (Nat.le_of_ble_eq_true rfl) (fun k hk (X : zX k g cX6_mistaken RX6 1 (some .int) 7) E => ?_)
  show AW k g 1 I L 0 [(0, vR 1)] []
  subst hk
  refine aw_aload_n X 0 dX6_mistaken_0 rfl ?_
  refine aw_getR X zf_RX6_27 rfl zs_1 zr_1_3 dX6_mistaken_1 ?_
  refine aw_callV X (as := []) mf_X5_curtainsRead zw_877 h zs_59 rfl rfl (by decide) (Nat.le_of_ble_eq_true rfl) dX6_mistaken_4 (fun v I1 L1 h => ?_)
  obtain ⟨r1, rfl, h⟩ := h
  exact aw_iret X E rfl dX6_mistaken_7 h
set_option maxRecDepth 100000 in
theorem m_X6_page {l : Launch} {g : zG} {Q : Option zv → zI → zL → Prop} {I : zI} {L : zL} {a1 : Int32}  (h : if (v_X6_isHour a1) = 0 then (Call l g 1 M_X6_refuse [vR 1, vI (-6)] I L (zi fun r3 I3 L3 => Q (some (vI r3)) I3 L3)) else (Call l g 6 M_X5_panesRight [vR 59, vI a1] I L (zi fun r2 I2 L2 => Q (some (vI r2)) I2 L2))) : Call l g 7 M_X6_page [vR 1, vI a1] I L Q := by
  refine aw_entry (by decide) (Nat.le_of_ble_eq_true rfl) (fun k hk (X : zX k g cX6_page RX6 2 (some .int) 7) E => ?_)
  show AW k g 2 I L 0 [(0, vR 1), (1, vI a1)] []
  subst hk
  refine aw_iload_n X 1 dX6_page_0 rfl ?_
  refine aw_pS X (as := [vI a1]) mf_X6_isHour zw_570 (p_X6_isHour) rfl rfl (by decide) (Nat.le_of_ble_eq_true rfl) dX6_page_1 ?_
  refine aw_if_ne X 14 dX6_page_4 rfl (fun c1 => ?_) (fun c1 => ?_)
  · replace h := zifn c1 h
    refine aw_aload_n X 0 dX6_page_14 rfl ?_
    refine aw_getR X zf_RX6_27 rfl zs_1 zr_1_3 dX6_page_15 ?_
    refine aw_iload_n X 1 dX6_page_18 rfl ?_
    refine aw_callV X (as := [vI a1]) mf_X5_panesRight zw_869 h zs_59 rfl rfl (by decide) (Nat.le_of_ble_eq_true rfl) dX6_page_19 (fun v I2 L2 h => ?_)
    obtain ⟨r2, rfl, h⟩ := h
    exact aw_iret X E rfl dX6_page_22 h
  · replace h := zifp c1 h
    refine aw_aload_n X 0 dX6_page_7 rfl ?_
    refine aw_bipush (v := (-6)) X dX6_page_8 (by decide) ?_
    refine aw_callV X (as := [vI (-6)]) mf_X6_refuse zw_267 h zs_1 rfl rfl (by decide) (Nat.le_of_ble_eq_true rfl) dX6_page_10 (fun v I3 L3 h => ?_)
    obtain ⟨r3, rfl, h⟩ := h
    exact aw_iret X E rfl dX6_page_13 h
set_option maxRecDepth 100000 in
theorem m_X6_readOf {l : Launch} {g : zG} {Q : Option zv → zI → zL → Prop} {I : zI} {L : zL} {a1 : Int32}  (h : if (v_X4_paneAt I 2 a1) = 0 then (Call l g 2 M_X6_refuseNobody [vR 1] I L (zi fun r2 I2 L2 => Q (some (vI r2)) I2 L2)) else (k_X4_readingOf I 2 (v_X1_frosted I (v_X4_paneAt I 2 a1)) ∧ (Q (some (vI (v_X4_readingOf I 2 (v_X1_frosted I (v_X4_paneAt I 2 a1))))) I L))) : Call l g 4 M_X6_readOf [vR 1, vI a1] I L Q := by
  refine aw_entry (by decide) (Nat.le_of_ble_eq_true rfl) (fun k hk (X : zX k g cX6_readOf RX6 3 (some .int) 4) E => ?_)
  show AW k g 3 I L 0 [(0, vR 1), (1, vI a1)] []
  subst hk
  refine aw_aload_n X 0 dX6_readOf_0 rfl ?_
  refine aw_getR X zf_RX6_10 rfl zs_1 zr_1_0 dX6_readOf_1 ?_
  refine aw_iload_n X 1 dX6_readOf_4 rfl ?_
  refine aw_pV X (as := [vI a1]) mf_X4_paneAt zw_310 (p_X4_paneAt zs_2) zs_2 rfl rfl (by decide) (Nat.le_of_ble_eq_true rfl) dX6_readOf_5 ?_
  refine aw_astore_n X dX6_readOf_8 (by decide) rfl ?_
  refine aw_aload_n X 0 dX6_readOf_9 rfl ?_
  refine aw_ifnonnull X 20 dX6_readOf_10 rfl (fun c1 => ?_) (fun c1 => ?_)
  · replace h := zifp c1 h
    refine aw_aload_n X 1 dX6_readOf_13 rfl ?_
    refine aw_callV X (as := []) mf_X6_refuseNobody zw_644 h zs_1 rfl rfl (by decide) (Nat.le_of_ble_eq_true rfl) dX6_readOf_14 (fun v I2 L2 h => ?_)
    obtain ⟨r2, rfl, h⟩ := h
    refine aw_goto X 31 dX6_readOf_17 rfl ?_
    exact aw_iret X E rfl dX6_readOf_31 h
  · replace h := zifn c1 h
    refine aw_aload_n X 1 dX6_readOf_20 rfl ?_
    refine aw_getR X zf_RX6_10 rfl zs_1 zr_1_0 dX6_readOf_21 ?_
    refine aw_aload_n X 0 dX6_readOf_24 rfl ?_
    refine aw_pV X (as := []) mf_X1_frosted zw_831 (p_X1_frosted (nn_X4_paneAt zs_2 c1)) (nn_X4_paneAt zs_2 c1) rfl rfl (by decide) (Nat.le_of_ble_eq_true rfl) dX6_readOf_25 ?_
    have n3 := h.1
    replace h := h.2
    refine aw_pV X (as := [vI (v_X1_frosted I (v_X4_paneAt I 2 a1))]) mf_X4_readingOf zw_652 (p_X4_readingOf zs_2 n3) zs_2 rfl rfl (by decide) (Nat.le_of_ble_eq_true rfl) dX6_readOf_28 ?_
    exact aw_iret X E rfl dX6_readOf_31 h
set_option maxRecDepth 100000 in
theorem m_X6_reads {l : Launch} {g : zG} {Q : Option zv → zI → zL → Prop} {I : zI} {L : zL} {a1 : Int32}  (h : if (v_X6_isShape a1) = 0 then (Call l g 2 M_X6_refuseWrong [vR 1] I L (zi fun r3 I3 L3 => Q (some (vI r3)) I3 L3)) else (k_X4_readingOf I 2 a1 ∧ (Q (some (vI (v_X4_readingOf I 2 a1))) I L))) : Call l g 4 M_X6_reads [vR 1, vI a1] I L Q := by
  refine aw_entry (by decide) (Nat.le_of_ble_eq_true rfl) (fun k hk (X : zX k g cX6_reads RX6 2 (some .int) 4) E => ?_)
  show AW k g 2 I L 0 [(0, vR 1), (1, vI a1)] []
  subst hk
  refine aw_iload_n X 1 dX6_reads_0 rfl ?_
  refine aw_pS X (as := [vI a1]) mf_X6_isShape zw_334 (p_X6_isShape) rfl rfl (by decide) (Nat.le_of_ble_eq_true rfl) dX6_reads_1 ?_
  refine aw_if_ne X 12 dX6_reads_4 rfl (fun c1 => ?_) (fun c1 => ?_)
  · replace h := zifn c1 h
    refine aw_aload_n X 0 dX6_reads_12 rfl ?_
    refine aw_getR X zf_RX6_10 rfl zs_1 zr_1_0 dX6_reads_13 ?_
    refine aw_iload_n X 1 dX6_reads_16 rfl ?_
    have n2 := h.1
    replace h := h.2
    refine aw_pV X (as := [vI a1]) mf_X4_readingOf zw_652 (p_X4_readingOf zs_2 n2) zs_2 rfl rfl (by decide) (Nat.le_of_ble_eq_true rfl) dX6_reads_17 ?_
    exact aw_iret X E rfl dX6_reads_20 h
  · replace h := zifp c1 h
    refine aw_aload_n X 0 dX6_reads_7 rfl ?_
    refine aw_callV X (as := []) mf_X6_refuseWrong zw_648 h zs_1 rfl rfl (by decide) (Nat.le_of_ble_eq_true rfl) dX6_reads_8 (fun v I3 L3 h => ?_)
    obtain ⟨r3, rfl, h⟩ := h
    exact aw_iret X E rfl dX6_reads_11 h
def v_X6_refusalsOf (I : zI) (a1 : Int32) : Int32 := if a1 < 1 then (-1) else if a1 < 8 then I 86 a1.toNatClampNeg else ((-1) : Int32)
def k_X6_refusalsOf (I : zI) (a1 : Int32) : Prop := (¬ (a1 < 1) → (a1 < 8 → vp_in a1 8))
set_option maxRecDepth 100000 in
theorem p_X6_refusalsOf {l : Launch} {g : zG} {I : zI} {L : zL} {a1 : Int32}  (hk0 : k_X6_refusalsOf I a1) : Call l g 1 M_X6_refusalsOf [vR 1, vI a1] I L (zp (some (vI (v_X6_refusalsOf I a1))) I L) := by
  refine aw_entry (by decide) (Nat.le_of_ble_eq_true rfl) (fun k hk (X : zX k g cX6_refusalsOf RX6 2 (some .int) 1) E => ?_)
  show AW k g 2 I L 0 [(0, vR 1), (1, vI a1)] []
  subst hk
  have n5 : (¬ (a1 < 1) → (a1 < 8 → vp_in a1 8)) := hk0
  have hJ : ∀ w1 : Int32, w1 = (if a1 < 1 then (-1) else if a1 < 8 then I 86 a1.toNatClampNeg else ((-1) : Int32)) → zp (some (vI (v_X6_refusalsOf I a1))) I L (some (vI w1)) I L := fun w1 e1 => ⟨by rw [e1]; rfl, rfl, rfl⟩
  refine aw_iload_n X 1 dX6_refusalsOf_0 rfl ?_
  refine aw_iconst (v := 1) X dX6_refusalsOf_1 (by decide) ?_
  have hJ6 : ∀ (w1 : Int32), w1 = (if a1 < 1 then (-1) else if a1 < 8 then I 86 a1.toNatClampNeg else ((-1) : Int32)) → AW k g 2 I L 24 [] [vI w1] := by
    intro w1 q1
    subst q1
    exact aw_iret X E rfl dX6_refusalsOf_24 (hJ _ rfl)
  refine aw_icmp_lt X 23 dX6_refusalsOf_2 rfl (fun c1 => ?_) (fun c1 => ?_)
  · refine aw_iconst (v := (-1)) X dX6_refusalsOf_23 (by decide) ?_
    refine aw_perm (ks9 := []) [] rfl ?_
    exact hJ6 _ (if_pos c1).symm
  · have n4 := (n5 c1)
    refine aw_iload_n X 1 dX6_refusalsOf_5 rfl ?_
    refine aw_aload_n X 0 dX6_refusalsOf_6 rfl ?_
    refine aw_getR X zf_RX6_52 rfl zs_1 zr_1_7 dX6_refusalsOf_7 ?_
    refine aw_alen (v := 8) X zs_86 (by decide) (by decide) dX6_refusalsOf_10 ?_
    refine aw_icmp_gen X 23 dX6_refusalsOf_11 rfl (fun c2 => ?_) (fun c2 => ?_)
    · have n3 := (n4 c2)
      refine aw_aload_n X 0 dX6_refusalsOf_14 rfl ?_
      refine aw_getR X zf_RX6_52 rfl zs_1 zr_1_7 dX6_refusalsOf_15 ?_
      refine aw_iload_n X 1 dX6_refusalsOf_18 rfl ?_
      refine aw_ialdj (j := a1.toNatClampNeg) X zs_86 n3 rfl dX6_refusalsOf_19 ?_
      refine aw_goto X 24 dX6_refusalsOf_20 rfl ?_
      refine aw_perm (ks9 := []) [] rfl ?_
      exact hJ6 _ ((if_pos c2).symm.trans (if_neg c1).symm)
    · refine aw_iconst (v := (-1)) X dX6_refusalsOf_23 (by decide) ?_
      refine aw_perm (ks9 := []) [] rfl ?_
      exact hJ6 _ ((if_neg c2).symm.trans (if_neg c1).symm)
set_option maxRecDepth 100000 in
theorem m_X6_status {l : Launch} {g : zG} {Q : Option zv → zI → zL → Prop} {I : zI} {L : zL} {a1 : Int32}  (h : if a1 = 0 then (Q (some (vI (I 2 2))) I L) else if a1 = 1 then (Q (some (vI (I 2 3))) I L) else if a1 = 2 then (Q (some (vI (I 2 4))) I L) else if a1 = 3 then (Q (some (vI (I 2 5))) I L) else if a1 = 4 then (Q (some (vI (I 2 6))) I L) else if a1 = 5 then (Q (some (vI (I 2 7))) I L) else if a1 = 6 then (Q (some (vI (I 2 8))) I L) else if a1 = 7 then (Q (some (vI (I 2 9))) I L) else if a1 = 8 then (Q (some (vI (I 84 1))) I L) else (k_X6_refusalsOf I (a1 - 10) ∧ (Q (some (vI (v_X6_refusalsOf I (a1 - 10)))) I L))) : Call l g 2 M_X6_status [vR 1, vI a1] I L Q := by
  refine aw_entry (by decide) (Nat.le_of_ble_eq_true rfl) (fun k hk (X : zX k g cX6_status RX6 2 (some .int) 2) E => ?_)
  show AW k g 2 I L 0 [(0, vR 1), (1, vI a1)] []
  subst hk
  refine aw_iload_n X 1 dX6_status_0 rfl ?_
  by_cases c11 : a1 = 0
  · replace h := zifp c11 h
    refine aw_tableIn X 0 52 dX6_status_1 (by rw [c11]; rfl) (by decide) rfl rfl ?_
    refine aw_aload_n X 0 dX6_status_52 rfl ?_
    refine aw_getR X zf_RX6_10 rfl zs_1 zr_1_0 dX6_status_53 ?_
    refine aw_getI X zf_RX6_278 rfl zs_2 dX6_status_56 ?_
    exact aw_iret X E rfl dX6_status_59 h
  replace h := zifn c11 h
  by_cases c12 : a1 = 1
  · replace h := zifp c12 h
    refine aw_tableIn X 1 60 dX6_status_1 (by rw [c12]; rfl) (by decide) rfl rfl ?_
    refine aw_aload_n X 0 dX6_status_60 rfl ?_
    refine aw_getR X zf_RX6_10 rfl zs_1 zr_1_0 dX6_status_61 ?_
    refine aw_getI X zf_RX6_246 rfl zs_2 dX6_status_64 ?_
    exact aw_iret X E rfl dX6_status_67 h
  replace h := zifn c12 h
  by_cases c13 : a1 = 2
  · replace h := zifp c13 h
    refine aw_tableIn X 2 68 dX6_status_1 (by rw [c13]; rfl) (by decide) rfl rfl ?_
    refine aw_aload_n X 0 dX6_status_68 rfl ?_
    refine aw_getR X zf_RX6_10 rfl zs_1 zr_1_0 dX6_status_69 ?_
    refine aw_getI X zf_RX6_136 rfl zs_2 dX6_status_72 ?_
    exact aw_iret X E rfl dX6_status_75 h
  replace h := zifn c13 h
  by_cases c14 : a1 = 3
  · replace h := zifp c14 h
    refine aw_tableIn X 3 76 dX6_status_1 (by rw [c14]; rfl) (by decide) rfl rfl ?_
    refine aw_aload_n X 0 dX6_status_76 rfl ?_
    refine aw_getR X zf_RX6_10 rfl zs_1 zr_1_0 dX6_status_77 ?_
    refine aw_getI X zf_RX6_155 rfl zs_2 dX6_status_80 ?_
    exact aw_iret X E rfl dX6_status_83 h
  replace h := zifn c14 h
  by_cases c15 : a1 = 4
  · replace h := zifp c15 h
    refine aw_tableIn X 4 84 dX6_status_1 (by rw [c15]; rfl) (by decide) rfl rfl ?_
    refine aw_aload_n X 0 dX6_status_84 rfl ?_
    refine aw_getR X zf_RX6_10 rfl zs_1 zr_1_0 dX6_status_85 ?_
    refine aw_getI X zf_RX6_145 rfl zs_2 dX6_status_88 ?_
    exact aw_iret X E rfl dX6_status_91 h
  replace h := zifn c15 h
  by_cases c16 : a1 = 5
  · replace h := zifp c16 h
    refine aw_tableIn X 5 92 dX6_status_1 (by rw [c16]; rfl) (by decide) rfl rfl ?_
    refine aw_aload_n X 0 dX6_status_92 rfl ?_
    refine aw_getR X zf_RX6_10 rfl zs_1 zr_1_0 dX6_status_93 ?_
    refine aw_getI X zf_RX6_302 rfl zs_2 dX6_status_96 ?_
    exact aw_iret X E rfl dX6_status_99 h
  replace h := zifn c16 h
  by_cases c17 : a1 = 6
  · replace h := zifp c17 h
    refine aw_tableIn X 6 100 dX6_status_1 (by rw [c17]; rfl) (by decide) rfl rfl ?_
    refine aw_aload_n X 0 dX6_status_100 rfl ?_
    refine aw_getR X zf_RX6_10 rfl zs_1 zr_1_0 dX6_status_101 ?_
    refine aw_getI X zf_RX6_341 rfl zs_2 dX6_status_104 ?_
    exact aw_iret X E rfl dX6_status_107 h
  replace h := zifn c17 h
  by_cases c18 : a1 = 7
  · replace h := zifp c18 h
    refine aw_tableIn X 7 108 dX6_status_1 (by rw [c18]; rfl) (by decide) rfl rfl ?_
    refine aw_aload_n X 0 dX6_status_108 rfl ?_
    refine aw_getR X zf_RX6_10 rfl zs_1 zr_1_0 dX6_status_109 ?_
    refine aw_getI X zf_RX6_326 rfl zs_2 dX6_status_112 ?_
    exact aw_iret X E rfl dX6_status_115 h
  replace h := zifn c18 h
  by_cases c19 : a1 = 8
  · replace h := zifp c19 h
    refine aw_tableIn X 8 116 dX6_status_1 (by rw [c19]; rfl) (by decide) rfl rfl ?_
    refine aw_aload_n X 0 dX6_status_116 rfl ?_
    refine aw_getR X zf_RX6_48 rfl zs_1 zr_1_6 dX6_status_117 ?_
    refine aw_getI X zf_RX6_344 rfl zs_84 dX6_status_120 ?_
    exact aw_iret X E rfl dX6_status_123 h
  replace h := zifn c19 h
  have e0 := ztn (n := 0) rfl c11
  have e1 := ztn (n := 1) rfl c12
  have e2 := ztn (n := 2) rfl c13
  have e3 := ztn (n := 3) rfl c14
  have e4 := ztn (n := 4) rfl c15
  have e5 := ztn (n := 5) rfl c16
  have e6 := ztn (n := 6) rfl c17
  have e7 := ztn (n := 7) rfl c18
  have e8 := ztn (n := 8) rfl c19
  refine aw_tableOut X 124 dX6_status_1 (by omega) rfl ?_
  refine aw_aload_n X 0 dX6_status_124 rfl ?_
  refine aw_iload_n X 1 dX6_status_125 rfl ?_
  refine aw_bipush (v := 10) X dX6_status_126 (by decide) ?_
  refine aw_isub X dX6_status_128 ?_
  have n20 := h.1
  replace h := h.2
  refine aw_pV X (as := [vI (a1 - 10)]) mf_X6_refusalsOf zw_783 (p_X6_refusalsOf n20) zs_1 rfl rfl (by decide) (Nat.le_of_ble_eq_true rfl) dX6_status_129 ?_
  exact aw_iret X E rfl dX6_status_132 h
set_option maxRecDepth 100000 in
theorem m_X6_stove {l : Launch} {g : zG} {Q : Option zv → zI → zL → Prop} {I : zI} {L : zL} {a1 : Int32} {a2 : Int32} {a3 : Int32}  (h : if (v_X4_paneAt I 2 a1) = 0 then (Call l g 2 M_X6_refuseNobody [vR 1] I L (zi fun r2 I2 L2 => Q (some (vI r2)) I2 L2)) else (if (v_X4_isLetter I 2 a2) = 0 then (Call l g 2 M_X6_refuseNobody [vR 1] I L (zi fun r7 I7 L7 => Q (some (vI r7)) I7 L7)) else (if (v_X6_isHour a3) = 0 then (Call l g 2 M_X6_refuseWrong [vR 1] I L (zi fun r6 I6 L6 => Q (some (vI r6)) I6 L6)) else (Call l g 5 M_X5_warmestRoom [vR 59, vR (v_X4_paneAt I 2 a1), vI a2, vI a3] I L (zi fun r5 I5 L5 => Q (some (vI r5)) I5 L5))))) : Call l g 6 M_X6_stove [vR 1, vI a1, vI a2, vI a3] I L Q := by
  refine aw_entry (by decide) (Nat.le_of_ble_eq_true rfl) (fun k hk (X : zX k g cX6_stove RX6 5 (some .int) 6) E => ?_)
  show AW k g 5 I L 0 [(0, vR 1), (1, vI a1), (2, vI a2), (3, vI a3)] []
  subst hk
  refine aw_aload_n X 0 dX6_stove_0 rfl ?_
  refine aw_getR X zf_RX6_10 rfl zs_1 zr_1_0 dX6_stove_1 ?_
  refine aw_iload_n X 1 dX6_stove_4 rfl ?_
  refine aw_pV X (as := [vI a1]) mf_X4_paneAt zw_310 (p_X4_paneAt zs_2) zs_2 rfl rfl (by decide) (Nat.le_of_ble_eq_true rfl) dX6_stove_5 ?_
  refine aw_astore X dX6_stove_8 (by decide) rfl ?_
  refine aw_aload X 0 dX6_stove_10 rfl ?_
  refine aw_ifnull X 26 dX6_stove_12 rfl (fun c1 => ?_) (fun c1 => ?_)
  · replace h := zifp c1 h
    refine aw_aload_n X 1 dX6_stove_26 rfl ?_
    refine aw_callV X (as := []) mf_X6_refuseNobody zw_644 h zs_1 rfl rfl (by decide) (Nat.le_of_ble_eq_true rfl) dX6_stove_27 (fun v I2 L2 h => ?_)
    obtain ⟨r2, rfl, h⟩ := h
    exact aw_iret X E rfl dX6_stove_30 h
  · replace h := zifn c1 h
    refine aw_aload_n X 1 dX6_stove_15 rfl ?_
    refine aw_getR X zf_RX6_10 rfl zs_1 zr_1_0 dX6_stove_16 ?_
    refine aw_iload_n X 3 dX6_stove_19 rfl ?_
    refine aw_pV X (as := [vI a2]) mf_X4_isLetter zw_661 (p_X4_isLetter zs_2) zs_2 rfl rfl (by decide) (Nat.le_of_ble_eq_true rfl) dX6_stove_20 ?_
    refine aw_if_ne X 31 dX6_stove_23 rfl (fun c3 => ?_) (fun c3 => ?_)
    · replace h := zifn c3 h
      refine aw_iload_n X 4 dX6_stove_31 rfl ?_
      refine aw_pS X (as := [vI a3]) mf_X6_isHour zw_570 (p_X6_isHour) rfl rfl (by decide) (Nat.le_of_ble_eq_true rfl) dX6_stove_32 ?_
      refine aw_if_ne X 43 dX6_stove_35 rfl (fun c4 => ?_) (fun c4 => ?_)
      · replace h := zifn c4 h
        refine aw_aload_n X 1 dX6_stove_43 rfl ?_
        refine aw_getR X zf_RX6_27 rfl zs_1 zr_1_3 dX6_stove_44 ?_
        refine aw_aload X 0 dX6_stove_47 rfl ?_
        refine aw_iload_n X 3 dX6_stove_49 rfl ?_
        refine aw_iload_n X 4 dX6_stove_50 rfl ?_
        refine aw_callV X (as := [vR (v_X4_paneAt I 2 a1), vI a2, vI a3]) mf_X5_warmestRoom zw_845 h zs_59 rfl rfl (by decide) (Nat.le_of_ble_eq_true rfl) dX6_stove_51 (fun v I5 L5 h => ?_)
        obtain ⟨r5, rfl, h⟩ := h
        exact aw_iret X E rfl dX6_stove_54 h
      · replace h := zifp c4 h
        refine aw_aload_n X 1 dX6_stove_38 rfl ?_
        refine aw_callV X (as := []) mf_X6_refuseWrong zw_648 h zs_1 rfl rfl (by decide) (Nat.le_of_ble_eq_true rfl) dX6_stove_39 (fun v I6 L6 h => ?_)
        obtain ⟨r6, rfl, h⟩ := h
        exact aw_iret X E rfl dX6_stove_42 h
    · replace h := zifp c3 h
      refine aw_aload_n X 1 dX6_stove_26 rfl ?_
      refine aw_callV X (as := []) mf_X6_refuseNobody zw_644 h zs_1 rfl rfl (by decide) (Nat.le_of_ble_eq_true rfl) dX6_stove_27 (fun v I7 L7 h => ?_)
      obtain ⟨r7, rfl, h⟩ := h
      exact aw_iret X E rfl dX6_stove_30 h
set_option maxRecDepth 100000 in
theorem m_X6_truth {l : Launch} {g : zG} {Q : Option zv → zI → zL → Prop} {I : zI} {L : zL} {a1 : Int32} {a2 : Int32}  (h : if (v_X4_paneAt I 2 a1) = 0 then (Call l g 1 M_X6_refuse [vR 1, vI (-1)] I L (zi fun r2 I2 L2 => Q (some (vI r2)) I2 L2)) else (if a2 = 16 then (Q (some (vI (v_X1_frosted I (v_X4_paneAt I 2 a1)))) I L) else (if (v_X6_isCell a2) = 0 then (Call l g 1 M_X6_refuse [vR 1, vI (-5)] I L (zi fun r5 I5 L5 => Q (some (vI r5)) I5 L5)) else (Q (some (vI (v_X1_iceOn I (v_X4_paneAt I 2 a1) a2))) I L)))) : Call l g 2 M_X6_truth [vR 1, vI a1, vI a2] I L Q := by
  refine aw_entry (by decide) (Nat.le_of_ble_eq_true rfl) (fun k hk (X : zX k g cX6_truth RX6 4 (some .int) 2) E => ?_)
  show AW k g 4 I L 0 [(0, vR 1), (1, vI a1), (2, vI a2)] []
  subst hk
  refine aw_aload_n X 0 dX6_truth_0 rfl ?_
  refine aw_getR X zf_RX6_10 rfl zs_1 zr_1_0 dX6_truth_1 ?_
  refine aw_iload_n X 1 dX6_truth_4 rfl ?_
  refine aw_pV X (as := [vI a1]) mf_X4_paneAt zw_310 (p_X4_paneAt zs_2) zs_2 rfl rfl (by decide) (Nat.le_of_ble_eq_true rfl) dX6_truth_5 ?_
  refine aw_astore_n X dX6_truth_8 (by decide) rfl ?_
  refine aw_aload_n X 0 dX6_truth_9 rfl ?_
  refine aw_ifnonnull X 19 dX6_truth_10 rfl (fun c1 => ?_) (fun c1 => ?_)
  · replace h := zifp c1 h
    refine aw_aload_n X 1 dX6_truth_13 rfl ?_
    refine aw_iconst (v := (-1)) X dX6_truth_14 (by decide) ?_
    refine aw_callV X (as := [vI (-1)]) mf_X6_refuse zw_267 h zs_1 rfl rfl (by decide) (Nat.le_of_ble_eq_true rfl) dX6_truth_15 (fun v I2 L2 h => ?_)
    obtain ⟨r2, rfl, h⟩ := h
    exact aw_iret X E rfl dX6_truth_18 h
  · replace h := zifn c1 h
    refine aw_iload_n X 3 dX6_truth_19 rfl ?_
    refine aw_bipush (v := 16) X dX6_truth_20 (by decide) ?_
    refine aw_icmp_ne X 30 dX6_truth_22 rfl (fun c3 => ?_) (fun c3 => ?_)
    · replace h := zifn c3 h
      refine aw_iload_n X 3 dX6_truth_30 rfl ?_
      refine aw_pS X (as := [vI a2]) mf_X6_isCell zw_567 (p_X6_isCell) rfl rfl (by decide) (Nat.le_of_ble_eq_true rfl) dX6_truth_31 ?_
      refine aw_if_ne X 44 dX6_truth_34 rfl (fun c4 => ?_) (fun c4 => ?_)
      · replace h := zifn c4 h
        refine aw_aload_n X 0 dX6_truth_44 rfl ?_
        refine aw_iload_n X 3 dX6_truth_45 rfl ?_
        refine aw_pV X (as := [vI a2]) mf_X1_iceOn zw_832 (p_X1_iceOn (nn_X4_paneAt zs_2 c1)) (nn_X4_paneAt zs_2 c1) rfl rfl (by decide) (Nat.le_of_ble_eq_true rfl) dX6_truth_46 ?_
        exact aw_iret X E rfl dX6_truth_49 h
      · replace h := zifp c4 h
        refine aw_aload_n X 1 dX6_truth_37 rfl ?_
        refine aw_bipush (v := (-5)) X dX6_truth_38 (by decide) ?_
        refine aw_callV X (as := [vI (-5)]) mf_X6_refuse zw_267 h zs_1 rfl rfl (by decide) (Nat.le_of_ble_eq_true rfl) dX6_truth_40 (fun v I5 L5 h => ?_)
        obtain ⟨r5, rfl, h⟩ := h
        exact aw_iret X E rfl dX6_truth_43 h
    · replace h := zifp c3 h
      refine aw_aload_n X 0 dX6_truth_25 rfl ?_
      refine aw_pV X (as := []) mf_X1_frosted zw_831 (p_X1_frosted (nn_X4_paneAt zs_2 c1)) (nn_X4_paneAt zs_2 c1) rfl rfl (by decide) (Nat.le_of_ble_eq_true rfl) dX6_truth_26 ?_
      exact aw_iret X E rfl dX6_truth_29 h
set_option maxRecDepth 100000 in
theorem m_X6_turns {l : Launch} {g : zG} {Q : Option zv → zI → zL → Prop} {I : zI} {L : zL} {a1 : Int32} {a2 : Int32} {a3 : Int32}  (h : if (v_X4_paneAt I 2 a1) = 0 then (Call l g 2 M_X6_refuseNobody [vR 1] I L (zi fun r2 I2 L2 => Q (some (vI r2)) I2 L2)) else (if (v_X4_isLetter I 2 a2) = 0 then (Call l g 2 M_X6_refuseNobody [vR 1] I L (zi fun r4 I4 L4 => Q (some (vI r4)) I4 L4)) else (if (v_X4_isLetter I 2 a3) = 0 then (Call l g 2 M_X6_refuseNobody [vR 1] I L (zi fun r7 I7 L7 => Q (some (vI r7)) I7 L7)) else (Call l g 5 M_X5_firstHourAs [vR 59, vR (v_X4_paneAt I 2 a1), vI a2, vI a3] I L (zi fun r6 I6 L6 => Q (some (vI r6)) I6 L6))))) : Call l g 6 M_X6_turns [vR 1, vI a1, vI a2, vI a3] I L Q := by
  refine aw_entry (by decide) (Nat.le_of_ble_eq_true rfl) (fun k hk (X : zX k g cX6_turns RX6 5 (some .int) 6) E => ?_)
  show AW k g 5 I L 0 [(0, vR 1), (1, vI a1), (2, vI a2), (3, vI a3)] []
  subst hk
  refine aw_aload_n X 0 dX6_turns_0 rfl ?_
  refine aw_getR X zf_RX6_10 rfl zs_1 zr_1_0 dX6_turns_1 ?_
  refine aw_iload_n X 1 dX6_turns_4 rfl ?_
  refine aw_pV X (as := [vI a1]) mf_X4_paneAt zw_310 (p_X4_paneAt zs_2) zs_2 rfl rfl (by decide) (Nat.le_of_ble_eq_true rfl) dX6_turns_5 ?_
  refine aw_astore X dX6_turns_8 (by decide) rfl ?_
  refine aw_aload X 0 dX6_turns_10 rfl ?_
  refine aw_ifnull X 37 dX6_turns_12 rfl (fun c1 => ?_) (fun c1 => ?_)
  · replace h := zifp c1 h
    refine aw_aload_n X 1 dX6_turns_37 rfl ?_
    refine aw_callV X (as := []) mf_X6_refuseNobody zw_644 h zs_1 rfl rfl (by decide) (Nat.le_of_ble_eq_true rfl) dX6_turns_38 (fun v I2 L2 h => ?_)
    obtain ⟨r2, rfl, h⟩ := h
    exact aw_iret X E rfl dX6_turns_41 h
  · replace h := zifn c1 h
    refine aw_aload_n X 1 dX6_turns_15 rfl ?_
    refine aw_getR X zf_RX6_10 rfl zs_1 zr_1_0 dX6_turns_16 ?_
    refine aw_iload_n X 3 dX6_turns_19 rfl ?_
    refine aw_pV X (as := [vI a2]) mf_X4_isLetter zw_661 (p_X4_isLetter zs_2) zs_2 rfl rfl (by decide) (Nat.le_of_ble_eq_true rfl) dX6_turns_20 ?_
    refine aw_if_eq X 37 dX6_turns_23 rfl (fun c3 => ?_) (fun c3 => ?_)
    · replace h := zifp c3 h
      refine aw_aload_n X 1 dX6_turns_37 rfl ?_
      refine aw_callV X (as := []) mf_X6_refuseNobody zw_644 h zs_1 rfl rfl (by decide) (Nat.le_of_ble_eq_true rfl) dX6_turns_38 (fun v I4 L4 h => ?_)
      obtain ⟨r4, rfl, h⟩ := h
      exact aw_iret X E rfl dX6_turns_41 h
    · replace h := zifn c3 h
      refine aw_aload_n X 1 dX6_turns_26 rfl ?_
      refine aw_getR X zf_RX6_10 rfl zs_1 zr_1_0 dX6_turns_27 ?_
      refine aw_iload_n X 4 dX6_turns_30 rfl ?_
      refine aw_pV X (as := [vI a3]) mf_X4_isLetter zw_661 (p_X4_isLetter zs_2) zs_2 rfl rfl (by decide) (Nat.le_of_ble_eq_true rfl) dX6_turns_31 ?_
      refine aw_if_ne X 42 dX6_turns_34 rfl (fun c5 => ?_) (fun c5 => ?_)
      · replace h := zifn c5 h
        refine aw_aload_n X 1 dX6_turns_42 rfl ?_
        refine aw_getR X zf_RX6_27 rfl zs_1 zr_1_3 dX6_turns_43 ?_
        refine aw_aload X 0 dX6_turns_46 rfl ?_
        refine aw_iload_n X 3 dX6_turns_48 rfl ?_
        refine aw_iload_n X 4 dX6_turns_49 rfl ?_
        refine aw_callV X (as := [vR (v_X4_paneAt I 2 a1), vI a2, vI a3]) mf_X5_firstHourAs zw_861 h zs_59 rfl rfl (by decide) (Nat.le_of_ble_eq_true rfl) dX6_turns_50 (fun v I6 L6 h => ?_)
        obtain ⟨r6, rfl, h⟩ := h
        exact aw_iret X E rfl dX6_turns_53 h
      · replace h := zifp c5 h
        refine aw_aload_n X 1 dX6_turns_37 rfl ?_
        refine aw_callV X (as := []) mf_X6_refuseNobody zw_644 h zs_1 rfl rfl (by decide) (Nat.le_of_ble_eq_true rfl) dX6_turns_38 (fun v I7 L7 h => ?_)
        obtain ⟨r7, rfl, h⟩ := h
        exact aw_iret X E rfl dX6_turns_41 h
set_option maxRecDepth 100000 in
theorem m_X6_unlike {l : Launch} {g : zG} {Q : Option zv → zI → zL → Prop} {I : zI} {L : zL} {a1 : Int32} {a2 : Int32}  (h : if (v_X4_isLetter I 2 a1) = 0 then (Call l g 1 M_X6_refuse [vR 1, vI (-1)] I L (zi fun r2 I2 L2 => Q (some (vI r2)) I2 L2)) else (if (v_X4_isLetter I 2 a2) = 0 then (Call l g 1 M_X6_refuse [vR 1, vI (-1)] I L (zi fun r4 I4 L4 => Q (some (vI r4)) I4 L4)) else (Q (some (vI (v_X4_cellsUnlike I 2 a1 a2))) I L))) : Call l g 4 M_X6_unlike [vR 1, vI a1, vI a2] I L Q := by
  refine aw_entry (by decide) (Nat.le_of_ble_eq_true rfl) (fun k hk (X : zX k g cX6_unlike RX6 3 (some .int) 4) E => ?_)
  show AW k g 3 I L 0 [(0, vR 1), (1, vI a1), (2, vI a2)] []
  subst hk
  refine aw_aload_n X 0 dX6_unlike_0 rfl ?_
  refine aw_getR X zf_RX6_10 rfl zs_1 zr_1_0 dX6_unlike_1 ?_
  refine aw_iload_n X 1 dX6_unlike_4 rfl ?_
  refine aw_pV X (as := [vI a1]) mf_X4_isLetter zw_661 (p_X4_isLetter zs_2) zs_2 rfl rfl (by decide) (Nat.le_of_ble_eq_true rfl) dX6_unlike_5 ?_
  refine aw_if_eq X 22 dX6_unlike_8 rfl (fun c1 => ?_) (fun c1 => ?_)
  · replace h := zifp c1 h
    refine aw_aload_n X 0 dX6_unlike_22 rfl ?_
    refine aw_iconst (v := (-1)) X dX6_unlike_23 (by decide) ?_
    refine aw_callV X (as := [vI (-1)]) mf_X6_refuse zw_267 h zs_1 rfl rfl (by decide) (Nat.le_of_ble_eq_true rfl) dX6_unlike_24 (fun v I2 L2 h => ?_)
    obtain ⟨r2, rfl, h⟩ := h
    exact aw_iret X E rfl dX6_unlike_27 h
  · replace h := zifn c1 h
    refine aw_aload_n X 0 dX6_unlike_11 rfl ?_
    refine aw_getR X zf_RX6_10 rfl zs_1 zr_1_0 dX6_unlike_12 ?_
    refine aw_iload_n X 2 dX6_unlike_15 rfl ?_
    refine aw_pV X (as := [vI a2]) mf_X4_isLetter zw_661 (p_X4_isLetter zs_2) zs_2 rfl rfl (by decide) (Nat.le_of_ble_eq_true rfl) dX6_unlike_16 ?_
    refine aw_if_ne X 28 dX6_unlike_19 rfl (fun c3 => ?_) (fun c3 => ?_)
    · replace h := zifn c3 h
      refine aw_aload_n X 0 dX6_unlike_28 rfl ?_
      refine aw_getR X zf_RX6_10 rfl zs_1 zr_1_0 dX6_unlike_29 ?_
      refine aw_iload_n X 1 dX6_unlike_32 rfl ?_
      refine aw_iload_n X 2 dX6_unlike_33 rfl ?_
      refine aw_pV X (as := [vI a1, vI a2]) mf_X4_cellsUnlike zw_797 (p_X4_cellsUnlike zs_2) zs_2 rfl rfl (by decide) (Nat.le_of_ble_eq_true rfl) dX6_unlike_34 ?_
      exact aw_iret X E rfl dX6_unlike_37 h
    · replace h := zifp c3 h
      refine aw_aload_n X 0 dX6_unlike_22 rfl ?_
      refine aw_iconst (v := (-1)) X dX6_unlike_23 (by decide) ?_
      refine aw_callV X (as := [vI (-1)]) mf_X6_refuse zw_267 h zs_1 rfl rfl (by decide) (Nat.le_of_ble_eq_true rfl) dX6_unlike_24 (fun v I4 L4 h => ?_)
      obtain ⟨r4, rfl, h⟩ := h
      exact aw_iret X E rfl dX6_unlike_27 h
