set_option maxRecDepth 100000 in
theorem s_X5_readAllHours_56 {k : zK} {g : zG} {Q : Option zv → zI → zL → Prop} {I : zI} {L : zL} {y4 : Int32}  (X : zX k g cX5_readAllHours RX5 5 none 4) (E : zE k g Q) (h : if y4 < 25 then (k_X4_readingOf I 2 (v_X1_frosted I 60) ∧ (vp_in y4 25 ∧ ((∀ I4 : zI, I4 = (zs I 62 y4.toNatClampNeg (v_X4_readingOf I 2 (v_X1_frosted I 60))) → Call (kl k) g 2 M_X1_meltBy [vR 60, vI (v_X1_melting I4 60 y4 (I4 2 6))] I4 L (zn fun I5 L5 => AW k g 5 I5 L5 56 [(0, vR 59), (4, vI (y4 + 1))] []))))) else (Q none I L)) : AW k g 5 I L 56 [(0, vR 59), (4, vI y4)] [] := by
  refine aw_iload X 1 dX5_readAllHours_56 rfl ?_
  refine aw_aload_n X 0 dX5_readAllHours_58 rfl ?_
  refine aw_getR X zf_RX5_22 rfl zs_59 zr_59_2 dX5_readAllHours_59 ?_
  refine aw_alen (v := 25) X zs_62 (by decide) (by decide) dX5_readAllHours_62 ?_
  refine aw_icmp_gen X 116 dX5_readAllHours_63 rfl (fun c1 => ?_) (fun c1 => ?_)
  · replace h := zifp c1 h
    refine aw_aload_n X 0 dX5_readAllHours_66 rfl ?_
    refine aw_getR X zf_RX5_22 rfl zs_59 zr_59_2 dX5_readAllHours_67 ?_
    refine aw_iload X 1 dX5_readAllHours_70 rfl ?_
    refine aw_aload_n X 0 dX5_readAllHours_72 rfl ?_
    refine aw_getR X zf_RX5_9 rfl zs_59 zr_59_0 dX5_readAllHours_73 ?_
    refine aw_aload_n X 0 dX5_readAllHours_76 rfl ?_
    refine aw_getR X zf_RX5_18 rfl zs_59 zr_59_1 dX5_readAllHours_77 ?_
    refine aw_pV X (as := []) mf_X1_frosted zw_633 (p_X1_frosted zs_60) zs_60 rfl rfl (by decide) (Nat.le_of_ble_eq_true rfl) dX5_readAllHours_80 ?_
    have n2 := h.1
    replace h := h.2
    refine aw_pV X (as := [vI (v_X1_frosted I 60)]) mf_X4_readingOf zw_670 (p_X4_readingOf zs_2 n2) zs_2 rfl rfl (by decide) (Nat.le_of_ble_eq_true rfl) dX5_readAllHours_83 ?_
    have n3 := h.1
    replace h := h.2
    refine aw_iastj (j := y4.toNatClampNeg) X zs_62 n3 rfl dX5_readAllHours_86 ?_
    refine aw_aload_n X 0 dX5_readAllHours_87 rfl ?_
    refine aw_nameI (fun I4 e4 => ?_)
    replace h := h I4 e4
    refine aw_getR X zf_RX5_18 rfl zs_59 zr_59_1 dX5_readAllHours_88 ?_
    refine aw_aload_n X 0 dX5_readAllHours_91 rfl ?_
    refine aw_getR X zf_RX5_18 rfl zs_59 zr_59_1 dX5_readAllHours_92 ?_
    refine aw_iload X 1 dX5_readAllHours_95 rfl ?_
    refine aw_aload_n X 0 dX5_readAllHours_97 rfl ?_
    refine aw_getR X zf_RX5_9 rfl zs_59 zr_59_0 dX5_readAllHours_98 ?_
    refine aw_getI X zf_RX5_74 rfl zs_2 dX5_readAllHours_101 ?_
    refine aw_pV X (as := [vI y4, vI (I4 2 6)]) mf_X1_melting zw_671 (p_X1_melting zs_60) zs_60 rfl rfl (by decide) (Nat.le_of_ble_eq_true rfl) dX5_readAllHours_104 ?_
    refine aw_callV X (as := [vI (v_X1_melting I4 60 y4 (I4 2 6))]) mf_X1_meltBy zw_672 h zs_60 rfl rfl (by decide) (Nat.le_of_ble_eq_true rfl) dX5_readAllHours_107 (fun v I5 L5 h => ?_)
    obtain ⟨rfl, h⟩ := h
    refine aw_iinc (v := y4 + 1) X 1 dX5_readAllHours_110 rfl rfl (by decide) rfl ?_
    refine aw_goto X 56 dX5_readAllHours_113 rfl ?_
    refine aw_perm (ks9 := [(0, vR 59), (4, vI (y4 + 1))]) [1, 0] rfl ?_
    exact h
  · replace h := zifn c1 h
    exact aw_vret X E rfl dX5_readAllHours_116 h
set_option maxRecDepth 100000 in
theorem m_X5_readAllHours {l : Launch} {g : zG} {Q : Option zv → zI → zL → Prop} {I : zI} {L : zL} {a1 : Nat} {a2 : Int32}  (h : ∀ k : zK, kl k = l → zX k g cX5_readAllHours RX5 5 none 4 → zE k g Q → (Call (kl k) g 1 M_X1_takeGlass [vR 60, vR a1] I L (zn fun I1 L1 => Call (kl k) g 3 M_X1_freezeWith [vR 60, vI (v_X4_cellsOf I1 2 a2), vI (v_X1_sharpness I1 60 (I1 2 4) (I1 2 5)), vI (I1 2 5)] I1 L1 (zn fun I2 L2 => AW k g 5 I2 L2 56 [(0, vR 59), (4, vI 0)] [])))) : Call l g 4 M_X5_readAllHours [vR 59, vR a1, vI a2] I L Q := by
  refine aw_entry (by decide) (Nat.le_of_ble_eq_true rfl) (fun k hk (X : zX k g cX5_readAllHours RX5 5 none 4) E => ?_)
  show AW k g 5 I L 0 [(0, vR 59), (1, vR a1), (2, vI a2)] []
  replace h := h k hk X E
  subst hk
  refine aw_aload_n X 0 dX5_readAllHours_0 rfl ?_
  refine aw_getR X zf_RX5_18 rfl zs_59 zr_59_1 dX5_readAllHours_1 ?_
  refine aw_aload_n X 1 dX5_readAllHours_4 rfl ?_
  refine aw_callV X (as := [vR a1]) mf_X1_takeGlass zw_581 h zs_60 rfl rfl (by decide) (Nat.le_of_ble_eq_true rfl) dX5_readAllHours_5 (fun v I1 L1 h => ?_)
  obtain ⟨rfl, h⟩ := h
  refine aw_aload_n X 0 dX5_readAllHours_8 rfl ?_
  refine aw_getR X zf_RX5_18 rfl zs_59 zr_59_1 dX5_readAllHours_9 ?_
  refine aw_aload_n X 0 dX5_readAllHours_12 rfl ?_
  refine aw_getR X zf_RX5_9 rfl zs_59 zr_59_0 dX5_readAllHours_13 ?_
  refine aw_getI X zf_RX5_51 rfl zs_2 dX5_readAllHours_16 ?_
  refine aw_aload_n X 0 dX5_readAllHours_19 rfl ?_
  refine aw_getR X zf_RX5_9 rfl zs_59 zr_59_0 dX5_readAllHours_20 ?_
  refine aw_getI X zf_RX5_60 rfl zs_2 dX5_readAllHours_23 ?_
  refine aw_pV X (as := [vI (I1 2 4), vI (I1 2 5)]) mf_X1_sharpness zw_586 (p_X1_sharpness zs_60) zs_60 rfl rfl (by decide) (Nat.le_of_ble_eq_true rfl) dX5_readAllHours_26 ?_
  refine aw_istore_n X dX5_readAllHours_29 (by decide) rfl ?_
  refine aw_aload_n X 1 dX5_readAllHours_30 rfl ?_
  refine aw_getR X zf_RX5_18 rfl zs_59 zr_59_1 dX5_readAllHours_31 ?_
  refine aw_aload_n X 1 dX5_readAllHours_34 rfl ?_
  refine aw_getR X zf_RX5_9 rfl zs_59 zr_59_0 dX5_readAllHours_35 ?_
  refine aw_iload_n X 3 dX5_readAllHours_38 rfl ?_
  refine aw_pV X (as := [vI a2]) mf_X4_cellsOf zw_587 (p_X4_cellsOf zs_2) zs_2 rfl rfl (by decide) (Nat.le_of_ble_eq_true rfl) dX5_readAllHours_39 ?_
  refine aw_iload_n X 0 dX5_readAllHours_42 rfl ?_
  refine aw_aload_n X 1 dX5_readAllHours_43 rfl ?_
  refine aw_getR X zf_RX5_9 rfl zs_59 zr_59_0 dX5_readAllHours_44 ?_
  refine aw_getI X zf_RX5_60 rfl zs_2 dX5_readAllHours_47 ?_
  refine aw_callV X (as := [vI (v_X4_cellsOf I1 2 a2), vI (v_X1_sharpness I1 60 (I1 2 4) (I1 2 5)), vI (I1 2 5)]) mf_X1_freezeWith zw_588 h zs_60 rfl rfl (by decide) (Nat.le_of_ble_eq_true rfl) dX5_readAllHours_50 (fun v I2 L2 h => ?_)
  obtain ⟨rfl, h⟩ := h
  refine aw_iconst (v := 0) X dX5_readAllHours_53 (by decide) ?_
  refine aw_istore X dX5_readAllHours_54 (by decide) rfl ?_
  refine aw_perm (ks9 := [(0, vR 59), (4, vI 0)]) [2, 0] rfl ?_
  exact h
set_option maxRecDepth 100000 in
theorem s_X5_othersReadFor_4 {k : zK} {g : zG} {Q : Option zv → zI → zL → Prop} {I : zI} {L : zL} {y1 : Int32} {y2 : Int32} {y3 : Int32}  (X : zX k g cX5_othersReadFor RX5 5 (some .int) 5) (E : zE k g Q) (h : if y3 < (I 2 3) then (if (v_X4_paneAt I 2 y3) = 0 then (AW k g 5 I L 4 [(0, vR 59), (1, vI y1), (2, vI y2), (3, vI (y3 + 1))] []) else (Call (kl k) g 4 M_X5_readAllHours [vR 59, vR (v_X4_paneAt I 2 y3), vI y1] I L (zn fun I3 L3 => AW k g 5 I3 L3 4 [(0, vR 59), (1, vI y1), (2, vI (y2 ||| (v_X5_lettersAmongReadings I3))), (3, vI (y3 + 1))] []))) else (Q (some (vI (y2 &&& ((jshl 1 y1) ^^^ (-1))))) I L)) : AW k g 5 I L 4 [(0, vR 59), (1, vI y1), (2, vI y2), (3, vI y3)] [] := by
  refine aw_iload_n X 3 dX5_othersReadFor_4 rfl ?_
  refine aw_aload_n X 0 dX5_othersReadFor_5 rfl ?_
  refine aw_getR X zf_RX5_9 rfl zs_59 zr_59_0 dX5_othersReadFor_6 ?_
  refine aw_getI X zf_RX5_98 rfl zs_2 dX5_othersReadFor_9 ?_
  refine aw_icmp_gen X 50 dX5_othersReadFor_12 rfl (fun c1 => ?_) (fun c1 => ?_)
  · replace h := zifp c1 h
    refine aw_aload_n X 0 dX5_othersReadFor_15 rfl ?_
    refine aw_getR X zf_RX5_9 rfl zs_59 zr_59_0 dX5_othersReadFor_16 ?_
    refine aw_iload_n X 3 dX5_othersReadFor_19 rfl ?_
    refine aw_pV X (as := [vI y3]) mf_X4_paneAt zw_681 (p_X4_paneAt zs_2) zs_2 rfl rfl (by decide) (Nat.le_of_ble_eq_true rfl) dX5_othersReadFor_20 ?_
    refine aw_astore X dX5_othersReadFor_23 (by decide) rfl ?_
    refine aw_aload X 0 dX5_othersReadFor_25 rfl ?_
    refine aw_ifnull X 44 dX5_othersReadFor_27 rfl (fun c2 => ?_) (fun c2 => ?_)
    · replace h := zifp c2 h
      refine aw_iinc (v := y3 + 1) X 4 dX5_othersReadFor_44 rfl rfl (by decide) rfl ?_
      refine aw_goto X 4 dX5_othersReadFor_47 rfl ?_
      refine aw_perm (ks9 := [(0, vR 59), (1, vI y1), (2, vI y2), (3, vI (y3 + 1))]) [2, 3, 4, 0] rfl ?_
      exact h
    · replace h := zifn c2 h
      refine aw_aload_n X 1 dX5_othersReadFor_30 rfl ?_
      refine aw_aload X 0 dX5_othersReadFor_31 rfl ?_
      refine aw_iload_n X 2 dX5_othersReadFor_33 rfl ?_
      refine aw_callV X (as := [vR (v_X4_paneAt I 2 y3), vI y1]) mf_X5_readAllHours zw_666 h zs_59 rfl rfl (by decide) (Nat.le_of_ble_eq_true rfl) dX5_othersReadFor_34 (fun v I3 L3 h => ?_)
      obtain ⟨rfl, h⟩ := h
      refine aw_iload_n X 3 dX5_othersReadFor_37 rfl ?_
      refine aw_aload_n X 1 dX5_othersReadFor_38 rfl ?_
      refine aw_pV X (as := []) mf_X5_lettersAmongReadings zw_682 (p_X5_lettersAmongReadings) zs_59 rfl rfl (by decide) (Nat.le_of_ble_eq_true rfl) dX5_othersReadFor_39 ?_
      refine aw_ior X dX5_othersReadFor_42 ?_
      refine aw_istore_n X dX5_othersReadFor_43 (by decide) rfl ?_
      refine aw_iinc (v := y3 + 1) X 4 dX5_othersReadFor_44 rfl rfl (by decide) rfl ?_
      refine aw_goto X 4 dX5_othersReadFor_47 rfl ?_
      refine aw_perm (ks9 := [(0, vR 59), (1, vI y1), (2, vI (y2 ||| (v_X5_lettersAmongReadings I3))), (3, vI (y3 + 1))]) [3, 4, 1, 0] rfl ?_
      exact h
  · replace h := zifn c1 h
    refine aw_iload_n X 2 dX5_othersReadFor_50 rfl ?_
    refine aw_iconst (v := 1) X dX5_othersReadFor_51 (by decide) ?_
    refine aw_iload_n X 1 dX5_othersReadFor_52 rfl ?_
    refine aw_ishl X dX5_othersReadFor_53 ?_
    refine aw_iconst (v := (-1)) X dX5_othersReadFor_54 (by decide) ?_
    refine aw_ixor X dX5_othersReadFor_55 ?_
    refine aw_iand X dX5_othersReadFor_56 ?_
    exact aw_iret X E rfl dX5_othersReadFor_57 h
set_option maxRecDepth 100000 in
theorem m_X5_othersReadFor {l : Launch} {g : zG} {Q : Option zv → zI → zL → Prop} {I : zI} {L : zL} {a1 : Int32}  (h : ∀ k : zK, kl k = l → zX k g cX5_othersReadFor RX5 5 (some .int) 5 → zE k g Q → (AW k g 5 I L 4 [(0, vR 59), (1, vI a1), (2, vI 0), (3, vI 0)] [])) : Call l g 5 M_X5_othersReadFor [vR 59, vI a1] I L Q := by
  refine aw_entry (by decide) (Nat.le_of_ble_eq_true rfl) (fun k hk (X : zX k g cX5_othersReadFor RX5 5 (some .int) 5) E => ?_)
  show AW k g 5 I L 0 [(0, vR 59), (1, vI a1)] []
  replace h := h k hk X E
  subst hk
  refine aw_iconst (v := 0) X dX5_othersReadFor_0 (by decide) ?_
  refine aw_istore_n X dX5_othersReadFor_1 (by decide) rfl ?_
  refine aw_iconst (v := 0) X dX5_othersReadFor_2 (by decide) ?_
  refine aw_istore_n X dX5_othersReadFor_3 (by decide) rfl ?_
  refine aw_perm (ks9 := [(0, vR 59), (1, vI a1), (2, vI 0), (3, vI 0)]) [2, 3, 1, 0] rfl ?_
  exact h
set_option maxRecDepth 100000 in
theorem m_X5_shapeOnGlass {l : Launch} {g : zG} {Q : Option zv → zI → zL → Prop} {I : zI} {L : zL} {a1 : Int32} {a2 : Int32} {a3 : Int32}  (h : Call l g 3 M_X1_freezeWith [vR 60, vI (v_X4_cellsOf I 2 a1), vI (v_X1_sharpness I 60 a3 (I 2 5)), vI (I 2 5)] I L (zn fun I1 L1 => Call l g 3 M_X1_passHours [vR 60, vI 0, vI a2, vI (I1 2 6)] I1 L1 (zn fun I2 L2 => Q (some (vI (v_X1_frosted I2 60))) I2 L2))) : Call l g 4 M_X5_shapeOnGlass [vR 59, vI a1, vI a2, vI a3] I L Q := by
  refine aw_entry (by decide) (Nat.le_of_ble_eq_true rfl) (fun k hk (X : zX k g cX5_shapeOnGlass RX5 5 (some .int) 4) E => ?_)
  show AW k g 5 I L 0 [(0, vR 59), (1, vI a1), (2, vI a2), (3, vI a3)] []
  subst hk
  refine aw_aload_n X 0 dX5_shapeOnGlass_0 rfl ?_
  refine aw_getR X zf_RX5_18 rfl zs_59 zr_59_1 dX5_shapeOnGlass_1 ?_
  refine aw_iload_n X 3 dX5_shapeOnGlass_4 rfl ?_
  refine aw_aload_n X 0 dX5_shapeOnGlass_5 rfl ?_
  refine aw_getR X zf_RX5_9 rfl zs_59 zr_59_0 dX5_shapeOnGlass_6 ?_
  refine aw_getI X zf_RX5_60 rfl zs_2 dX5_shapeOnGlass_9 ?_
  refine aw_pV X (as := [vI a3, vI (I 2 5)]) mf_X1_sharpness zw_586 (p_X1_sharpness zs_60) zs_60 rfl rfl (by decide) (Nat.le_of_ble_eq_true rfl) dX5_shapeOnGlass_12 ?_
  refine aw_istore X dX5_shapeOnGlass_15 (by decide) rfl ?_
  refine aw_aload_n X 1 dX5_shapeOnGlass_17 rfl ?_
  refine aw_getR X zf_RX5_18 rfl zs_59 zr_59_1 dX5_shapeOnGlass_18 ?_
  refine aw_aload_n X 1 dX5_shapeOnGlass_21 rfl ?_
  refine aw_getR X zf_RX5_9 rfl zs_59 zr_59_0 dX5_shapeOnGlass_22 ?_
  refine aw_iload_n X 2 dX5_shapeOnGlass_25 rfl ?_
  refine aw_pV X (as := [vI a1]) mf_X4_cellsOf zw_587 (p_X4_cellsOf zs_2) zs_2 rfl rfl (by decide) (Nat.le_of_ble_eq_true rfl) dX5_shapeOnGlass_26 ?_
  refine aw_iload X 0 dX5_shapeOnGlass_29 rfl ?_
  refine aw_aload_n X 1 dX5_shapeOnGlass_31 rfl ?_
  refine aw_getR X zf_RX5_9 rfl zs_59 zr_59_0 dX5_shapeOnGlass_32 ?_
  refine aw_getI X zf_RX5_60 rfl zs_2 dX5_shapeOnGlass_35 ?_
  refine aw_callV X (as := [vI (v_X4_cellsOf I 2 a1), vI (v_X1_sharpness I 60 a3 (I 2 5)), vI (I 2 5)]) mf_X1_freezeWith zw_588 h zs_60 rfl rfl (by decide) (Nat.le_of_ble_eq_true rfl) dX5_shapeOnGlass_38 (fun v I1 L1 h => ?_)
  obtain ⟨rfl, h⟩ := h
  refine aw_aload_n X 1 dX5_shapeOnGlass_41 rfl ?_
  refine aw_getR X zf_RX5_18 rfl zs_59 zr_59_1 dX5_shapeOnGlass_42 ?_
  refine aw_iconst (v := 0) X dX5_shapeOnGlass_45 (by decide) ?_
  refine aw_iload_n X 3 dX5_shapeOnGlass_46 rfl ?_
  refine aw_aload_n X 1 dX5_shapeOnGlass_47 rfl ?_
  refine aw_getR X zf_RX5_9 rfl zs_59 zr_59_0 dX5_shapeOnGlass_48 ?_
  refine aw_getI X zf_RX5_74 rfl zs_2 dX5_shapeOnGlass_51 ?_
  refine aw_callV X (as := [vI 0, vI a2, vI (I1 2 6)]) mf_X1_passHours zw_620 h zs_60 rfl rfl (by decide) (Nat.le_of_ble_eq_true rfl) dX5_shapeOnGlass_54 (fun v I2 L2 h => ?_)
  obtain ⟨rfl, h⟩ := h
  refine aw_aload_n X 1 dX5_shapeOnGlass_57 rfl ?_
  refine aw_getR X zf_RX5_18 rfl zs_59 zr_59_1 dX5_shapeOnGlass_58 ?_
  refine aw_pV X (as := []) mf_X1_frosted zw_633 (p_X1_frosted zs_60) zs_60 rfl rfl (by decide) (Nat.le_of_ble_eq_true rfl) dX5_shapeOnGlass_61 ?_
  exact aw_iret X E rfl dX5_shapeOnGlass_64 h
set_option maxRecDepth 100000 in
theorem m_X5_shapeAt {l : Launch} {g : zG} {Q : Option zv → zI → zL → Prop} {I : zI} {L : zL} {a1 : Nat} {a2 : Int32} {a3 : Int32}  (h : Call l g 1 M_X1_takeGlass [vR 60, vR a1] I L (zn fun I1 L1 => Call l g 4 M_X5_shapeOnGlass [vR 59, vI a2, vI a3, vI (I1 2 4)] I1 L1 (zi fun r2 I2 L2 => Q (some (vI r2)) I2 L2))) : Call l g 5 M_X5_shapeAt [vR 59, vR a1, vI a2, vI a3] I L Q := by
  refine aw_entry (by decide) (Nat.le_of_ble_eq_true rfl) (fun k hk (X : zX k g cX5_shapeAt RX5 4 (some .int) 5) E => ?_)
  show AW k g 4 I L 0 [(0, vR 59), (1, vR a1), (2, vI a2), (3, vI a3)] []
  subst hk
  refine aw_aload_n X 0 dX5_shapeAt_0 rfl ?_
  refine aw_getR X zf_RX5_18 rfl zs_59 zr_59_1 dX5_shapeAt_1 ?_
  refine aw_aload_n X 1 dX5_shapeAt_4 rfl ?_
  refine aw_callV X (as := [vR a1]) mf_X1_takeGlass zw_581 h zs_60 rfl rfl (by decide) (Nat.le_of_ble_eq_true rfl) dX5_shapeAt_5 (fun v I1 L1 h => ?_)
  obtain ⟨rfl, h⟩ := h
  refine aw_aload_n X 0 dX5_shapeAt_8 rfl ?_
  refine aw_iload_n X 2 dX5_shapeAt_9 rfl ?_
  refine aw_iload_n X 3 dX5_shapeAt_10 rfl ?_
  refine aw_aload_n X 0 dX5_shapeAt_11 rfl ?_
  refine aw_getR X zf_RX5_9 rfl zs_59 zr_59_0 dX5_shapeAt_12 ?_
  refine aw_getI X zf_RX5_51 rfl zs_2 dX5_shapeAt_15 ?_
  refine aw_callV X (as := [vI a2, vI a3, vI (I1 2 4)]) mf_X5_shapeOnGlass zw_582 h zs_59 rfl rfl (by decide) (Nat.le_of_ble_eq_true rfl) dX5_shapeAt_18 (fun v I2 L2 h => ?_)
  obtain ⟨r2, rfl, h⟩ := h
  exact aw_iret X E rfl dX5_shapeAt_21 h
set_option maxRecDepth 100000 in
theorem s_X5_lettersThatShow_6 {k : zK} {g : zG} {Q : Option zv → zI → zL → Prop} {I : zI} {L : zL} {y1 : Nat} {y2 : Int32} {y3 : Int32} {y4 : Int32} {y5 : Int32}  (X : zX k g cX5_lettersThatShow RX5 6 (some .int) 6) (E : zE k g Q) (h : if y5 < (I 2 2) then (Call (kl k) g 5 M_X5_shapeAt [vR 59, vR y1, vI y5, vI y3] I L (zi fun r2 I2 L2 => AW k g 6 I2 L2 6 [(0, vR 59), (1, vR y1), (2, vI y2), (3, vI y3), (4, vI (if r2 = y2 then y4 ||| (jshl 1 y5) else y4)), (5, vI (y5 + 1))] [])) else (Call (kl k) g 5 M_X5_shapeAt [vR 59, vR y1, vI (-1), vI y3] I L (zi fun r5 I5 L5 => Q (some (vI (if r5 = y2 then y4 ||| 256 else y4))) I5 L5))) : AW k g 6 I L 6 [(0, vR 59), (1, vR y1), (2, vI y2), (3, vI y3), (4, vI y4), (5, vI y5)] [] := by
  refine aw_iload X 5 dX5_lettersThatShow_6 rfl ?_
  refine aw_aload_n X 0 dX5_lettersThatShow_8 rfl ?_
  refine aw_getR X zf_RX5_9 rfl zs_59 zr_59_0 dX5_lettersThatShow_9 ?_
  refine aw_getI X zf_RX5_111 rfl zs_2 dX5_lettersThatShow_12 ?_
  refine aw_icmp_gen X 45 dX5_lettersThatShow_15 rfl (fun c1 => ?_) (fun c1 => ?_)
  · replace h := zifp c1 h
    refine aw_aload_n X 0 dX5_lettersThatShow_18 rfl ?_
    refine aw_aload_n X 1 dX5_lettersThatShow_19 rfl ?_
    refine aw_iload X 5 dX5_lettersThatShow_20 rfl ?_
    refine aw_iload_n X 3 dX5_lettersThatShow_22 rfl ?_
    refine aw_callV X (as := [vR y1, vI y5, vI y3]) mf_X5_shapeAt zw_577 h zs_59 rfl rfl (by decide) (Nat.le_of_ble_eq_true rfl) dX5_lettersThatShow_23 (fun v I2 L2 h => ?_)
    obtain ⟨r2, rfl, h⟩ := h
    refine aw_iload_n X 2 dX5_lettersThatShow_26 rfl ?_
    have hJ4 : ∀ (w1 : Int32), w1 = (if r2 = y2 then y4 ||| (jshl 1 y5) else y4) → AW k g 6 I2 L2 39 [(0, vR 59), (1, vR y1), (2, vI y2), (3, vI y3), (4, vI w1), (5, vI y5)] [] := by
      intro w1 q1
      subst q1
      refine aw_iinc (v := y5 + 1) X 5 dX5_lettersThatShow_39 rfl rfl (by decide) rfl ?_
      refine aw_goto X 6 dX5_lettersThatShow_42 rfl ?_
      refine aw_perm (ks9 := [(0, vR 59), (1, vR y1), (2, vI y2), (3, vI y3), (4, vI (if r2 = y2 then y4 ||| (jshl 1 y5) else y4)), (5, vI (y5 + 1))]) [1, 2, 3, 4, 5, 0] rfl ?_
      exact h
    refine aw_icmp_ne X 39 dX5_lettersThatShow_27 rfl (fun c3 => ?_) (fun c3 => ?_)
    · refine aw_perm (ks9 := [(0, vR 59), (1, vR y1), (2, vI y2), (3, vI y3), (4, vI y4), (5, vI y5)]) [0, 1, 2, 3, 4, 5] rfl ?_
      exact hJ4 _ (if_neg c3).symm
    · refine aw_iload X 4 dX5_lettersThatShow_30 rfl ?_
      refine aw_iconst (v := 1) X dX5_lettersThatShow_32 (by decide) ?_
      refine aw_iload X 5 dX5_lettersThatShow_33 rfl ?_
      refine aw_ishl X dX5_lettersThatShow_35 ?_
      refine aw_ior X dX5_lettersThatShow_36 ?_
      refine aw_istore X dX5_lettersThatShow_37 (by decide) rfl ?_
      refine aw_perm (ks9 := [(0, vR 59), (1, vR y1), (2, vI y2), (3, vI y3), (4, vI (y4 ||| (jshl 1 y5))), (5, vI y5)]) [1, 2, 3, 4, 0, 5] rfl ?_
      exact hJ4 _ (if_pos c3).symm
  · replace h := zifn c1 h
    refine aw_aload_n X 0 dX5_lettersThatShow_45 rfl ?_
    refine aw_aload_n X 1 dX5_lettersThatShow_46 rfl ?_
    refine aw_iconst (v := (-1)) X dX5_lettersThatShow_47 (by decide) ?_
    refine aw_iload_n X 3 dX5_lettersThatShow_48 rfl ?_
    refine aw_callV X (as := [vR y1, vI (-1), vI y3]) mf_X5_shapeAt zw_577 h zs_59 rfl rfl (by decide) (Nat.le_of_ble_eq_true rfl) dX5_lettersThatShow_49 (fun v I5 L5 h => ?_)
    obtain ⟨r5, rfl, h⟩ := h
    refine aw_iload_n X 2 dX5_lettersThatShow_52 rfl ?_
    have hJ7 : ∀ (w1 : Int32), w1 = (if r5 = y2 then y4 ||| 256 else y4) → AW k g 6 I5 L5 67 [] [vI w1] := by
      intro w1 q1
      subst q1
      exact aw_iret X E rfl dX5_lettersThatShow_67 h
    refine aw_icmp_ne X 65 dX5_lettersThatShow_53 rfl (fun c6 => ?_) (fun c6 => ?_)
    · refine aw_iload X 4 dX5_lettersThatShow_65 rfl ?_
      refine aw_perm (ks9 := []) [] rfl ?_
      exact hJ7 _ (if_neg c6).symm
    · refine aw_iload X 4 dX5_lettersThatShow_56 rfl ?_
      refine aw_sipush (v := 256) X dX5_lettersThatShow_58 (by decide) ?_
      refine aw_ior X dX5_lettersThatShow_61 ?_
      refine aw_goto X 67 dX5_lettersThatShow_62 rfl ?_
      refine aw_perm (ks9 := []) [] rfl ?_
      exact hJ7 _ (if_pos c6).symm
set_option maxRecDepth 100000 in
theorem m_X5_lettersThatShow {l : Launch} {g : zG} {Q : Option zv → zI → zL → Prop} {I : zI} {L : zL} {a1 : Nat} {a2 : Int32} {a3 : Int32}  (h : ∀ k : zK, kl k = l → zX k g cX5_lettersThatShow RX5 6 (some .int) 6 → zE k g Q → (AW k g 6 I L 6 [(0, vR 59), (1, vR a1), (2, vI a2), (3, vI a3), (4, vI 0), (5, vI 0)] [])) : Call l g 6 M_X5_lettersThatShow [vR 59, vR a1, vI a2, vI a3] I L Q := by
  refine aw_entry (by decide) (Nat.le_of_ble_eq_true rfl) (fun k hk (X : zX k g cX5_lettersThatShow RX5 6 (some .int) 6) E => ?_)
  show AW k g 6 I L 0 [(0, vR 59), (1, vR a1), (2, vI a2), (3, vI a3)] []
  replace h := h k hk X E
  subst hk
  refine aw_iconst (v := 0) X dX5_lettersThatShow_0 (by decide) ?_
  refine aw_istore X dX5_lettersThatShow_1 (by decide) rfl ?_
  refine aw_iconst (v := 0) X dX5_lettersThatShow_3 (by decide) ?_
  refine aw_istore X dX5_lettersThatShow_4 (by decide) rfl ?_
  refine aw_perm (ks9 := [(0, vR 59), (1, vR a1), (2, vI a2), (3, vI a3), (4, vI 0), (5, vI 0)]) [2, 3, 4, 5, 1, 0] rfl ?_
  exact h
set_option maxRecDepth 100000 in
theorem m_X5_iceAt {l : Launch} {g : zG} {Q : Option zv → zI → zL → Prop} {I : zI} {L : zL} {a1 : Nat} {a2 : Int32} {a3 : Int32} {a4 : Int32}  (h : Call l g 5 M_X5_shapeAt [vR 59, vR a1, vI a2, vI a3] I L (zi fun r1 I1 L1 => Q (some (vI (v_X1_iceOn I1 60 a4))) I1 L1)) : Call l g 6 M_X5_iceAt [vR 59, vR a1, vI a2, vI a3, vI a4] I L Q := by
  refine aw_entry (by decide) (Nat.le_of_ble_eq_true rfl) (fun k hk (X : zX k g cX5_iceAt RX5 5 (some .int) 6) E => ?_)
  show AW k g 5 I L 0 [(0, vR 59), (1, vR a1), (2, vI a2), (3, vI a3), (4, vI a4)] []
  subst hk
  refine aw_aload_n X 0 dX5_iceAt_0 rfl ?_
  refine aw_aload_n X 1 dX5_iceAt_1 rfl ?_
  refine aw_iload_n X 2 dX5_iceAt_2 rfl ?_
  refine aw_iload_n X 3 dX5_iceAt_3 rfl ?_
  refine aw_callV X (as := [vR a1, vI a2, vI a3]) mf_X5_shapeAt zw_577 h zs_59 rfl rfl (by decide) (Nat.le_of_ble_eq_true rfl) dX5_iceAt_4 (fun v I1 L1 h => ?_)
  obtain ⟨r1, rfl, h⟩ := h
  refine aw_pop X dX5_iceAt_7 rfl ?_
  refine aw_aload_n X 0 dX5_iceAt_8 rfl ?_
  refine aw_getR X zf_RX5_18 rfl zs_59 zr_59_1 dX5_iceAt_9 ?_
  refine aw_iload X 4 dX5_iceAt_12 rfl ?_
  refine aw_pV X (as := [vI a4]) mf_X1_iceOn zw_634 (p_X1_iceOn zs_60) zs_60 rfl rfl (by decide) (Nat.le_of_ble_eq_true rfl) dX5_iceAt_14 ?_
  exact aw_iret X E rfl dX5_iceAt_17 h
set_option maxRecDepth 100000 in
theorem s_X5_lastHour_11 {k : zK} {g : zG} {Q : Option zv → zI → zL → Prop} {I : zI} {L : zL} {y2 : Int32} {y3 : Int32} {y4 : Int32}  (X : zX k g cX5_lastHour RX5 5 (some .int) 5) (E : zE k g Q) (h : if y4 < 25 then (vp_in y4 25 ∧ (if (I 62 y4.toNatClampNeg) = y2 then (AW k g 5 I L 11 [(0, vR 59), (2, vI y2), (3, vI y4), (4, vI (y4 + 1))] []) else (Q (some (vI y3)) I L))) else (Q (some (vI y3)) I L)) : AW k g 5 I L 11 [(0, vR 59), (2, vI y2), (3, vI y3), (4, vI y4)] [] := by
  refine aw_iload X 3 dX5_lastHour_11 rfl ?_
  refine aw_aload_n X 0 dX5_lastHour_13 rfl ?_
  refine aw_getR X zf_RX5_22 rfl zs_59 zr_59_2 dX5_lastHour_14 ?_
  refine aw_alen (v := 25) X zs_62 (by decide) (by decide) dX5_lastHour_17 ?_
  refine aw_icmp_gen X 41 dX5_lastHour_18 rfl (fun c1 => ?_) (fun c1 => ?_)
  · replace h := zifp c1 h
    refine aw_aload_n X 0 dX5_lastHour_21 rfl ?_
    refine aw_getR X zf_RX5_22 rfl zs_59 zr_59_2 dX5_lastHour_22 ?_
    refine aw_iload X 3 dX5_lastHour_25 rfl ?_
    have n2 := h.1
    replace h := h.2
    refine aw_ialdj (j := y4.toNatClampNeg) X zs_62 n2 rfl dX5_lastHour_27 ?_
    refine aw_iload_n X 1 dX5_lastHour_28 rfl ?_
    refine aw_icmp_ne X 41 dX5_lastHour_29 rfl (fun c3 => ?_) (fun c3 => ?_)
    · replace h := zifn c3 h
      refine aw_iload_n X 2 dX5_lastHour_41 rfl ?_
      exact aw_iret X E rfl dX5_lastHour_42 h
    · replace h := zifp c3 h
      refine aw_iload X 3 dX5_lastHour_32 rfl ?_
      refine aw_istore_n X dX5_lastHour_34 (by decide) rfl ?_
      refine aw_iinc (v := y4 + 1) X 3 dX5_lastHour_35 rfl rfl (by decide) rfl ?_
      refine aw_goto X 11 dX5_lastHour_38 rfl ?_
      refine aw_perm (ks9 := [(0, vR 59), (2, vI y2), (3, vI y4), (4, vI (y4 + 1))]) [2, 3, 1, 0] rfl ?_
      exact h
  · replace h := zifn c1 h
    refine aw_iload_n X 2 dX5_lastHour_41 rfl ?_
    exact aw_iret X E rfl dX5_lastHour_42 h
set_option maxRecDepth 100000 in
theorem m_X5_lastHour {l : Launch} {g : zG} {Q : Option zv → zI → zL → Prop} {I : zI} {L : zL} {a1 : Nat} {a2 : Int32}  (h : ∀ k : zK, kl k = l → zX k g cX5_lastHour RX5 5 (some .int) 5 → zE k g Q → (Call (kl k) g 4 M_X5_readAllHours [vR 59, vR a1, vI a2] I L (zn fun I1 L1 => AW k g 5 I1 L1 11 [(0, vR 59), (2, vI a2), (3, vI (-1)), (4, vI 0)] []))) : Call l g 5 M_X5_lastHour [vR 59, vR a1, vI a2] I L Q := by
  refine aw_entry (by decide) (Nat.le_of_ble_eq_true rfl) (fun k hk (X : zX k g cX5_lastHour RX5 5 (some .int) 5) E => ?_)
  show AW k g 5 I L 0 [(0, vR 59), (1, vR a1), (2, vI a2)] []
  replace h := h k hk X E
  subst hk
  refine aw_aload_n X 0 dX5_lastHour_0 rfl ?_
  refine aw_aload_n X 1 dX5_lastHour_1 rfl ?_
  refine aw_iload_n X 2 dX5_lastHour_2 rfl ?_
  refine aw_callV X (as := [vR a1, vI a2]) mf_X5_readAllHours zw_666 h zs_59 rfl rfl (by decide) (Nat.le_of_ble_eq_true rfl) dX5_lastHour_3 (fun v I1 L1 h => ?_)
  obtain ⟨rfl, h⟩ := h
  refine aw_iconst (v := (-1)) X dX5_lastHour_6 (by decide) ?_
  refine aw_istore_n X dX5_lastHour_7 (by decide) rfl ?_
  refine aw_iconst (v := 0) X dX5_lastHour_8 (by decide) ?_
  refine aw_istore X dX5_lastHour_9 (by decide) rfl ?_
  refine aw_perm (ks9 := [(0, vR 59), (2, vI a2), (3, vI (-1)), (4, vI 0)]) [2, 4, 1, 0] rfl ?_
  exact h
set_option maxRecDepth 100000 in
theorem s_X5_leastCold_11 {k : zK} {g : zG} {Q : Option zv → zI → zL → Prop} {I : zI} {L : zL} {y2 : Int32} {y3 : Int32} {y4 : Int32}  (X : zX k g cX5_leastCold RX5 5 (some .int) 5) (E : zE k g Q) (h : if 40 < y4 then (Q (some (vI (-1))) I L) else (Call (kl k) g 4 M_X5_shapeOnGlass [vR 59, vI y2, vI y3, vI y4] I L (zi fun r2 I2 L2 => k_X4_readingOf I2 2 r2 ∧ (if (v_X4_readingOf I2 2 r2) = y2 then (Q (some (vI y4)) I2 L2) else (AW k g 5 I2 L2 11 [(0, vR 59), (2, vI y2), (3, vI y3), (4, vI (y4 + 1))] []))))) : AW k g 5 I L 11 [(0, vR 59), (2, vI y2), (3, vI y3), (4, vI y4)] [] := by
  refine aw_iload X 3 dX5_leastCold_11 rfl ?_
  refine aw_bipush (v := 40) X dX5_leastCold_13 (by decide) ?_
  refine aw_icmp_gt X 46 dX5_leastCold_15 rfl (fun c1 => ?_) (fun c1 => ?_)
  · replace h := zifp c1 h
    refine aw_iconst (v := (-1)) X dX5_leastCold_46 (by decide) ?_
    exact aw_iret X E rfl dX5_leastCold_47 h
  · replace h := zifn c1 h
    refine aw_aload_n X 0 dX5_leastCold_18 rfl ?_
    refine aw_getR X zf_RX5_9 rfl zs_59 zr_59_0 dX5_leastCold_19 ?_
    refine aw_aload_n X 0 dX5_leastCold_22 rfl ?_
    refine aw_iload_n X 1 dX5_leastCold_23 rfl ?_
    refine aw_iload_n X 2 dX5_leastCold_24 rfl ?_
    refine aw_iload X 3 dX5_leastCold_25 rfl ?_
    refine aw_callV X (as := [vI y2, vI y3, vI y4]) mf_X5_shapeOnGlass zw_582 h zs_59 rfl rfl (by decide) (Nat.le_of_ble_eq_true rfl) dX5_leastCold_27 (fun v I2 L2 h => ?_)
    obtain ⟨r2, rfl, h⟩ := h
    have n3 := h.1
    replace h := h.2
    refine aw_pV X (as := [vI r2]) mf_X4_readingOf zw_670 (p_X4_readingOf zs_2 n3) zs_2 rfl rfl (by decide) (Nat.le_of_ble_eq_true rfl) dX5_leastCold_30 ?_
    refine aw_iload_n X 1 dX5_leastCold_33 rfl ?_
    refine aw_icmp_ne X 40 dX5_leastCold_34 rfl (fun c4 => ?_) (fun c4 => ?_)
    · replace h := zifn c4 h
      refine aw_iinc (v := y4 + 1) X 3 dX5_leastCold_40 rfl rfl (by decide) rfl ?_
      refine aw_goto X 11 dX5_leastCold_43 rfl ?_
      refine aw_perm (ks9 := [(0, vR 59), (2, vI y2), (3, vI y3), (4, vI (y4 + 1))]) [1, 2, 3, 0] rfl ?_
      exact h
    · replace h := zifp c4 h
      refine aw_iload X 3 dX5_leastCold_37 rfl ?_
      exact aw_iret X E rfl dX5_leastCold_39 h
set_option maxRecDepth 100000 in
theorem m_X5_leastCold {l : Launch} {g : zG} {Q : Option zv → zI → zL → Prop} {I : zI} {L : zL} {a1 : Nat} {a2 : Int32} {a3 : Int32}  (h : ∀ k : zK, kl k = l → zX k g cX5_leastCold RX5 5 (some .int) 5 → zE k g Q → (Call (kl k) g 1 M_X1_takeGlass [vR 60, vR a1] I L (zn fun I1 L1 => AW k g 5 I1 L1 11 [(0, vR 59), (2, vI a2), (3, vI a3), (4, vI 0)] []))) : Call l g 5 M_X5_leastCold [vR 59, vR a1, vI a2, vI a3] I L Q := by
  refine aw_entry (by decide) (Nat.le_of_ble_eq_true rfl) (fun k hk (X : zX k g cX5_leastCold RX5 5 (some .int) 5) E => ?_)
  show AW k g 5 I L 0 [(0, vR 59), (1, vR a1), (2, vI a2), (3, vI a3)] []
  replace h := h k hk X E
  subst hk
  refine aw_aload_n X 0 dX5_leastCold_0 rfl ?_
  refine aw_getR X zf_RX5_18 rfl zs_59 zr_59_1 dX5_leastCold_1 ?_
  refine aw_aload_n X 1 dX5_leastCold_4 rfl ?_
  refine aw_callV X (as := [vR a1]) mf_X1_takeGlass zw_581 h zs_60 rfl rfl (by decide) (Nat.le_of_ble_eq_true rfl) dX5_leastCold_5 (fun v I1 L1 h => ?_)
  obtain ⟨rfl, h⟩ := h
  refine aw_iconst (v := 0) X dX5_leastCold_8 (by decide) ?_
  refine aw_istore X dX5_leastCold_9 (by decide) rfl ?_
  refine aw_perm (ks9 := [(0, vR 59), (2, vI a2), (3, vI a3), (4, vI 0)]) [1, 3, 4, 0] rfl ?_
  exact h
set_option maxRecDepth 100000 in
theorem s_X5_takeDearest_6 {k : zK} {g : zG} {Q : Option zv → zI → zL → Prop} {I : zI} {L : zL} {y1 : Int32} {y2 : Int32} {y3 : Int32}  (X : zX k g cX5_takeDearest RX5 4 (some .int) 1) (E : zE k g Q) (h : if y3 < 8 then (vp_in y3 8 ∧ (AW k g 4 I L 6 [(0, vR 59), (1, vI (if y2 < (I 64 y3.toNatClampNeg) then y3 else y1)), (2, vI (if y2 < (I 64 y3.toNatClampNeg) then I 64 y3.toNatClampNeg else y2)), (3, vI (y3 + 1))] [])) else (if y1 < 0 then (Q (some (vI y2)) I L) else (if y1 < 8 then (Q (some (vI y2)) (zs I 64 y1.toNatClampNeg 0) L) else (Q (some (vI y2)) I L)))) : AW k g 4 I L 6 [(0, vR 59), (1, vI y1), (2, vI y2), (3, vI y3)] [] := by
  refine aw_iload_n X 3 dX5_takeDearest_6 rfl ?_
  refine aw_aload_n X 0 dX5_takeDearest_7 rfl ?_
  refine aw_getR X zf_RX5_29 rfl zs_59 zr_59_4 dX5_takeDearest_8 ?_
  refine aw_alen (v := 8) X zs_64 (by decide) (by decide) dX5_takeDearest_11 ?_
  refine aw_icmp_gen X 40 dX5_takeDearest_12 rfl (fun c1 => ?_) (fun c1 => ?_)
  · replace h := zifp c1 h
    refine aw_aload_n X 0 dX5_takeDearest_15 rfl ?_
    refine aw_getR X zf_RX5_29 rfl zs_59 zr_59_4 dX5_takeDearest_16 ?_
    refine aw_iload_n X 3 dX5_takeDearest_19 rfl ?_
    have n2 := h.1
    replace h := h.2
    refine aw_ialdj (j := y3.toNatClampNeg) X zs_64 n2 rfl dX5_takeDearest_20 ?_
    refine aw_iload_n X 2 dX5_takeDearest_21 rfl ?_
    have hJ4 : ∀ (w1 : Int32) (w2 : Int32), w1 = (if y2 < (I 64 y3.toNatClampNeg) then y3 else y1) → w2 = (if y2 < (I 64 y3.toNatClampNeg) then I 64 y3.toNatClampNeg else y2) → AW k g 4 I L 34 [(0, vR 59), (1, vI w1), (2, vI w2), (3, vI y3)] [] := by
      intro w1 w2 q1 q2
      subst q1
      subst q2
      refine aw_iinc (v := y3 + 1) X 3 dX5_takeDearest_34 rfl rfl (by decide) rfl ?_
      refine aw_goto X 6 dX5_takeDearest_37 rfl ?_
      refine aw_perm (ks9 := [(0, vR 59), (1, vI (if y2 < (I 64 y3.toNatClampNeg) then y3 else y1)), (2, vI (if y2 < (I 64 y3.toNatClampNeg) then I 64 y3.toNatClampNeg else y2)), (3, vI (y3 + 1))]) [1, 2, 3, 0] rfl ?_
      exact h
    refine aw_icmp_len X 34 dX5_takeDearest_22 rfl (fun c3 => ?_) (fun c3 => ?_)
    · refine aw_aload_n X 0 dX5_takeDearest_25 rfl ?_
      refine aw_getR X zf_RX5_29 rfl zs_59 zr_59_4 dX5_takeDearest_26 ?_
      refine aw_iload_n X 3 dX5_takeDearest_29 rfl ?_
      refine aw_ialdj (j := y3.toNatClampNeg) X zs_64 n2 rfl dX5_takeDearest_30 ?_
      refine aw_istore_n X dX5_takeDearest_31 (by decide) rfl ?_
      refine aw_iload_n X 3 dX5_takeDearest_32 rfl ?_
      refine aw_istore_n X dX5_takeDearest_33 (by decide) rfl ?_
      refine aw_perm (ks9 := [(0, vR 59), (1, vI y3), (2, vI (I 64 y3.toNatClampNeg)), (3, vI y3)]) [2, 0, 1, 3] rfl ?_
      exact hJ4 _ _ (if_pos c3).symm (if_pos c3).symm
    · refine aw_perm (ks9 := [(0, vR 59), (1, vI y1), (2, vI y2), (3, vI y3)]) [0, 1, 2, 3] rfl ?_
      exact hJ4 _ _ (if_neg c3).symm (if_neg c3).symm
  · replace h := zifn c1 h
    refine aw_iload_n X 1 dX5_takeDearest_40 rfl ?_
    refine aw_if_lt X 60 dX5_takeDearest_41 rfl (fun c5 => ?_) (fun c5 => ?_)
    · replace h := zifp c5 h
      refine aw_iload_n X 2 dX5_takeDearest_60 rfl ?_
      exact aw_iret X E rfl dX5_takeDearest_61 h
    · replace h := zifn c5 h
      refine aw_iload_n X 1 dX5_takeDearest_44 rfl ?_
      refine aw_aload_n X 0 dX5_takeDearest_45 rfl ?_
      refine aw_getR X zf_RX5_29 rfl zs_59 zr_59_4 dX5_takeDearest_46 ?_
      refine aw_alen (v := 8) X zs_64 (by decide) (by decide) dX5_takeDearest_49 ?_
      refine aw_icmp_gen X 60 dX5_takeDearest_50 rfl (fun c6 => ?_) (fun c6 => ?_)
      · replace h := zifp c6 h
        refine aw_aload_n X 0 dX5_takeDearest_53 rfl ?_
        refine aw_getR X zf_RX5_29 rfl zs_59 zr_59_4 dX5_takeDearest_54 ?_
        refine aw_iload_n X 1 dX5_takeDearest_57 rfl ?_
        refine aw_iconst (v := 0) X dX5_takeDearest_58 (by decide) ?_
        refine aw_iastj (j := y1.toNatClampNeg) X zs_64 (zinof c5 c6 (by decide)) rfl dX5_takeDearest_59 ?_
        refine aw_iload_n X 2 dX5_takeDearest_60 rfl ?_
        exact aw_iret X E rfl dX5_takeDearest_61 h
      · replace h := zifn c6 h
        refine aw_iload_n X 2 dX5_takeDearest_60 rfl ?_
        exact aw_iret X E rfl dX5_takeDearest_61 h
set_option maxRecDepth 100000 in
theorem m_X5_takeDearest {l : Launch} {g : zG} {Q : Option zv → zI → zL → Prop} {I : zI} {L : zL}   (h : ∀ k : zK, kl k = l → zX k g cX5_takeDearest RX5 4 (some .int) 1 → zE k g Q → (AW k g 4 I L 6 [(0, vR 59), (1, vI (-1)), (2, vI 0), (3, vI 0)] [])) : Call l g 1 M_X5_takeDearest [vR 59] I L Q := by
  refine aw_entry (by decide) (Nat.le_of_ble_eq_true rfl) (fun k hk (X : zX k g cX5_takeDearest RX5 4 (some .int) 1) E => ?_)
  show AW k g 4 I L 0 [(0, vR 59)] []
  replace h := h k hk X E
  subst hk
  refine aw_iconst (v := (-1)) X dX5_takeDearest_0 (by decide) ?_
  refine aw_istore_n X dX5_takeDearest_1 (by decide) rfl ?_
  refine aw_iconst (v := 0) X dX5_takeDearest_2 (by decide) ?_
  refine aw_istore_n X dX5_takeDearest_3 (by decide) rfl ?_
  refine aw_iconst (v := 0) X dX5_takeDearest_4 (by decide) ?_
  refine aw_istore_n X dX5_takeDearest_5 (by decide) rfl ?_
  refine aw_perm (ks9 := [(0, vR 59), (1, vI (-1)), (2, vI 0), (3, vI 0)]) [3, 2, 1, 0] rfl ?_
  exact h
set_option maxRecDepth 100000 in
theorem s_X5_worthOf_27 {k : zK} {g : zG} {Q : Option zv → zI → zL → Prop} {I : zI} {L : zL} {y1 : Nat} {y2 : Int32} {y3 : Int32}  (X : zX k g cX5_worthOf RX5 4 (some .int) 5) (E : zE k g Q) (h : if y3 < 25 then (vp_in y3 25 ∧ (zsh y1 = (11, 6) ∧ (AW k g 4 I L 27 [(0, vR 59), (1, vR y1), (2, vI (y2 + (if (I 62 y3.toNatClampNeg) = (I y1 3) then 1 else (0 : Int32)))), (3, vI (y3 + 1))] []))) else (Q (some (vI y2)) I L)) : AW k g 4 I L 27 [(0, vR 59), (1, vR y1), (2, vI y2), (3, vI y3)] [] := by
  refine aw_iload_n X 3 dX5_worthOf_27 rfl ?_
  refine aw_aload_n X 0 dX5_worthOf_28 rfl ?_
  refine aw_getR X zf_RX5_22 rfl zs_59 zr_59_2 dX5_worthOf_29 ?_
  refine aw_alen (v := 25) X zs_62 (by decide) (by decide) dX5_worthOf_32 ?_
  refine aw_icmp_gen X 63 dX5_worthOf_33 rfl (fun c1 => ?_) (fun c1 => ?_)
  · replace h := zifp c1 h
    refine aw_iload_n X 2 dX5_worthOf_36 rfl ?_
    refine aw_aload_n X 0 dX5_worthOf_37 rfl ?_
    refine aw_getR X zf_RX5_22 rfl zs_59 zr_59_2 dX5_worthOf_38 ?_
    refine aw_iload_n X 3 dX5_worthOf_41 rfl ?_
    have n2 := h.1
    replace h := h.2
    refine aw_ialdj (j := y3.toNatClampNeg) X zs_62 n2 rfl dX5_worthOf_42 ?_
    refine aw_aload_n X 1 dX5_worthOf_43 rfl ?_
    have n3 := h.1
    replace h := h.2
    refine aw_getI X zf_RX5_108 rfl n3 dX5_worthOf_44 ?_
    have hJ5 : ∀ (w1 : Int32), w1 = (if (I 62 y3.toNatClampNeg) = (I y1 3) then 1 else (0 : Int32)) → AW k g 4 I L 55 [(0, vR 59), (1, vR y1), (3, vI y3)] [vI w1, vI y2] := by
      intro w1 q1
      subst q1
      refine aw_iadd X dX5_worthOf_55 ?_
      refine aw_istore_n X dX5_worthOf_56 (by decide) rfl ?_
      refine aw_iinc (v := y3 + 1) X 3 dX5_worthOf_57 rfl rfl (by decide) rfl ?_
      refine aw_goto X 27 dX5_worthOf_60 rfl ?_
      refine aw_perm (ks9 := [(0, vR 59), (1, vR y1), (2, vI (y2 + (if (I 62 y3.toNatClampNeg) = (I y1 3) then 1 else (0 : Int32)))), (3, vI (y3 + 1))]) [2, 3, 1, 0] rfl ?_
      exact h
    refine aw_icmp_ne X 54 dX5_worthOf_47 rfl (fun c4 => ?_) (fun c4 => ?_)
    · refine aw_iconst (v := 0) X dX5_worthOf_54 (by decide) ?_
      refine aw_perm (ks9 := [(0, vR 59), (1, vR y1), (3, vI y3)]) [0, 1, 3] rfl ?_
      exact hJ5 _ (if_neg c4).symm
    · refine aw_iconst (v := 1) X dX5_worthOf_50 (by decide) ?_
      refine aw_goto X 55 dX5_worthOf_51 rfl ?_
      refine aw_perm (ks9 := [(0, vR 59), (1, vR y1), (3, vI y3)]) [0, 1, 3] rfl ?_
      exact hJ5 _ (if_pos c4).symm
  · replace h := zifn c1 h
    refine aw_iload_n X 2 dX5_worthOf_63 rfl ?_
    exact aw_iret X E rfl dX5_worthOf_64 h
set_option maxRecDepth 100000 in
theorem m_X5_worthOf {l : Launch} {g : zG} {Q : Option zv → zI → zL → Prop} {I : zI} {L : zL} {a1 : Nat}  (h : ∀ k : zK, kl k = l → zX k g cX5_worthOf RX5 4 (some .int) 5 → zE k g Q → (if a1 = 0 then (Q (some (vI 0)) I L) else (zsh a1 = (11, 6) ∧ (if (I a1 3) = (-1) then (Q (some (vI 0)) I L) else (Call (kl k) g 4 M_X5_readAllHours [vR 59, vR a1, vI (I a1 3)] I L (zn fun I4 L4 => AW k g 4 I4 L4 27 [(0, vR 59), (1, vR a1), (2, vI 0), (3, vI 0)] [])))))) : Call l g 5 M_X5_worthOf [vR 59, vR a1] I L Q := by
  refine aw_entry (by decide) (Nat.le_of_ble_eq_true rfl) (fun k hk (X : zX k g cX5_worthOf RX5 4 (some .int) 5) E => ?_)
  show AW k g 4 I L 0 [(0, vR 59), (1, vR a1)] []
  replace h := h k hk X E
  subst hk
  refine aw_aload_n X 1 dX5_worthOf_0 rfl ?_
  refine aw_ifnull X 12 dX5_worthOf_1 rfl (fun c1 => ?_) (fun c1 => ?_)
  · replace h := zifp c1 h
    refine aw_iconst (v := 0) X dX5_worthOf_12 (by decide) ?_
    exact aw_iret X E rfl dX5_worthOf_13 h
  · replace h := zifn c1 h
    refine aw_aload_n X 1 dX5_worthOf_4 rfl ?_
    have n2 := h.1
    replace h := h.2
    refine aw_getI X zf_RX5_108 rfl n2 dX5_worthOf_5 ?_
    refine aw_iconst (v := (-1)) X dX5_worthOf_8 (by decide) ?_
    refine aw_icmp_ne X 14 dX5_worthOf_9 rfl (fun c3 => ?_) (fun c3 => ?_)
    · replace h := zifn c3 h
      refine aw_aload_n X 0 dX5_worthOf_14 rfl ?_
      refine aw_aload_n X 1 dX5_worthOf_15 rfl ?_
      refine aw_aload_n X 1 dX5_worthOf_16 rfl ?_
      refine aw_getI X zf_RX5_108 rfl n2 dX5_worthOf_17 ?_
      refine aw_callV X (as := [vR a1, vI (I a1 3)]) mf_X5_readAllHours zw_666 h zs_59 rfl rfl (by decide) (Nat.le_of_ble_eq_true rfl) dX5_worthOf_20 (fun v I4 L4 h => ?_)
      obtain ⟨rfl, h⟩ := h
      refine aw_iconst (v := 0) X dX5_worthOf_23 (by decide) ?_
      refine aw_istore_n X dX5_worthOf_24 (by decide) rfl ?_
      refine aw_iconst (v := 0) X dX5_worthOf_25 (by decide) ?_
      refine aw_istore_n X dX5_worthOf_26 (by decide) rfl ?_
      refine aw_perm (ks9 := [(0, vR 59), (1, vR a1), (2, vI 0), (3, vI 0)]) [2, 3, 1, 0] rfl ?_
      exact h
    · replace h := zifp c3 h
      refine aw_iconst (v := 0) X dX5_worthOf_12 (by decide) ?_
      exact aw_iret X E rfl dX5_worthOf_13 h
set_option maxRecDepth 100000 in
theorem s_X5_firstPaperLead_2 {k : zK} {g : zG} {Q : Option zv → zI → zL → Prop} {I : zI} {L : zL} {y1 : Int32}  (X : zX k g cX5_firstPaperLead RX5 4 (some .int) 6) (E : zE k g Q) (h : if y1 < 8 then (Call (kl k) g 5 M_X5_worthOf [vR 59, vR (v_X4_paneAt I 2 y1)] I L (zi fun r2 I2 L2 => vp_in y1 8 ∧ (AW k g 4 (zs I2 64 y1.toNatClampNeg r2) L2 2 [(0, vR 59), (1, vI (y1 + 1))] []))) else (AW k g 4 I L 39 [(0, vR 59), (1, vI 0), (2, vI 0)] [])) : AW k g 4 I L 2 [(0, vR 59), (1, vI y1)] [] := by
  refine aw_iload_n X 1 dX5_firstPaperLead_2 rfl ?_
  refine aw_aload_n X 0 dX5_firstPaperLead_3 rfl ?_
  refine aw_getR X zf_RX5_29 rfl zs_59 zr_59_4 dX5_firstPaperLead_4 ?_
  refine aw_alen (v := 8) X zs_64 (by decide) (by decide) dX5_firstPaperLead_7 ?_
  refine aw_icmp_gen X 35 dX5_firstPaperLead_8 rfl (fun c1 => ?_) (fun c1 => ?_)
  · replace h := zifp c1 h
    refine aw_aload_n X 0 dX5_firstPaperLead_11 rfl ?_
    refine aw_getR X zf_RX5_29 rfl zs_59 zr_59_4 dX5_firstPaperLead_12 ?_
    refine aw_iload_n X 1 dX5_firstPaperLead_15 rfl ?_
    refine aw_aload_n X 0 dX5_firstPaperLead_16 rfl ?_
    refine aw_aload_n X 0 dX5_firstPaperLead_17 rfl ?_
    refine aw_getR X zf_RX5_9 rfl zs_59 zr_59_0 dX5_firstPaperLead_18 ?_
    refine aw_iload_n X 1 dX5_firstPaperLead_21 rfl ?_
    refine aw_pV X (as := [vI y1]) mf_X4_paneAt zw_681 (p_X4_paneAt zs_2) zs_2 rfl rfl (by decide) (Nat.le_of_ble_eq_true rfl) dX5_firstPaperLead_22 ?_
    refine aw_callV X (as := [vR (v_X4_paneAt I 2 y1)]) mf_X5_worthOf zw_889 h zs_59 rfl rfl (by decide) (Nat.le_of_ble_eq_true rfl) dX5_firstPaperLead_25 (fun v I2 L2 h => ?_)
    obtain ⟨r2, rfl, h⟩ := h
    have n3 := h.1
    replace h := h.2
    refine aw_iastj (j := y1.toNatClampNeg) X zs_64 n3 rfl dX5_firstPaperLead_28 ?_
    refine aw_iinc (v := y1 + 1) X 1 dX5_firstPaperLead_29 rfl rfl (by decide) rfl ?_
    refine aw_goto X 2 dX5_firstPaperLead_32 rfl ?_
    refine aw_perm (ks9 := [(0, vR 59), (1, vI (y1 + 1))]) [1, 0] rfl ?_
    exact h
  · replace h := zifn c1 h
    refine aw_iconst (v := 0) X dX5_firstPaperLead_35 (by decide) ?_
    refine aw_istore_n X dX5_firstPaperLead_36 (by decide) rfl ?_
    refine aw_iconst (v := 0) X dX5_firstPaperLead_37 (by decide) ?_
    refine aw_istore_n X dX5_firstPaperLead_38 (by decide) rfl ?_
    refine aw_perm (ks9 := [(0, vR 59), (1, vI 0), (2, vI 0)]) [2, 1, 0] rfl ?_
    exact h
set_option maxRecDepth 100000 in
theorem s_X5_firstPaperLead_39 {k : zK} {g : zG} {Q : Option zv → zI → zL → Prop} {I : zI} {L : zL} {y1 : Int32} {y2 : Int32}  (X : zX k g cX5_firstPaperLead RX5 4 (some .int) 6) (E : zE k g Q) (h : if y2 < 8 then (Call (kl k) g 1 M_X5_takeDearest [vR 59] I L (zi fun r2 I2 L2 => AW k g 4 I2 L2 39 [(0, vR 59), (1, vI (y1 + (if (jrem y2 2) = 0 then r2 else (-r2)))), (2, vI (y2 + 1))] [])) else (Q (some (vI y1)) I L)) : AW k g 4 I L 39 [(0, vR 59), (1, vI y1), (2, vI y2)] [] := by
  refine aw_iload_n X 2 dX5_firstPaperLead_39 rfl ?_
  refine aw_aload_n X 0 dX5_firstPaperLead_40 rfl ?_
  refine aw_getR X zf_RX5_29 rfl zs_59 zr_59_4 dX5_firstPaperLead_41 ?_
  refine aw_alen (v := 8) X zs_64 (by decide) (by decide) dX5_firstPaperLead_44 ?_
  refine aw_icmp_gen X 74 dX5_firstPaperLead_45 rfl (fun c1 => ?_) (fun c1 => ?_)
  · replace h := zifp c1 h
    refine aw_aload_n X 0 dX5_firstPaperLead_48 rfl ?_
    refine aw_callV X (as := []) mf_X5_takeDearest zw_893 h zs_59 rfl rfl (by decide) (Nat.le_of_ble_eq_true rfl) dX5_firstPaperLead_49 (fun v I2 L2 h => ?_)
    obtain ⟨r2, rfl, h⟩ := h
    refine aw_istore_n X dX5_firstPaperLead_52 (by decide) rfl ?_
    refine aw_iload_n X 2 dX5_firstPaperLead_53 rfl ?_
    refine aw_iload_n X 3 dX5_firstPaperLead_54 rfl ?_
    refine aw_iconst (v := 2) X dX5_firstPaperLead_55 (by decide) ?_
    refine aw_irem X dX5_firstPaperLead_56 (by decide) ?_
    have hJ4 : ∀ (w1 : Int32), w1 = (if (jrem y2 2) = 0 then r2 else (-r2)) → AW k g 4 I2 L2 66 [(0, vR 59), (2, vI y2)] [vI w1, vI y1] := by
      intro w1 q1
      subst q1
      refine aw_iadd X dX5_firstPaperLead_66 ?_
      refine aw_istore_n X dX5_firstPaperLead_67 (by decide) rfl ?_
      refine aw_iinc (v := y2 + 1) X 2 dX5_firstPaperLead_68 rfl rfl (by decide) rfl ?_
      refine aw_goto X 39 dX5_firstPaperLead_71 rfl ?_
      refine aw_perm (ks9 := [(0, vR 59), (1, vI (y1 + (if (jrem y2 2) = 0 then r2 else (-r2)))), (2, vI (y2 + 1))]) [2, 1, 0] rfl ?_
      exact h
    refine aw_if_ne X 64 dX5_firstPaperLead_57 rfl (fun c3 => ?_) (fun c3 => ?_)
    · refine aw_iload_n X 0 dX5_firstPaperLead_64 rfl ?_
      refine aw_ineg X dX5_firstPaperLead_65 ?_
      refine aw_perm (ks9 := [(0, vR 59), (2, vI y2)]) [1, 3] rfl ?_
      exact hJ4 _ (if_neg c3).symm
    · refine aw_iload_n X 0 dX5_firstPaperLead_60 rfl ?_
      refine aw_goto X 66 dX5_firstPaperLead_61 rfl ?_
      refine aw_perm (ks9 := [(0, vR 59), (2, vI y2)]) [1, 3] rfl ?_
      exact hJ4 _ (if_pos c3).symm
  · replace h := zifn c1 h
    refine aw_iload_n X 1 dX5_firstPaperLead_74 rfl ?_
    exact aw_iret X E rfl dX5_firstPaperLead_75 h
set_option maxRecDepth 100000 in
theorem m_X5_firstPaperLead {l : Launch} {g : zG} {Q : Option zv → zI → zL → Prop} {I : zI} {L : zL}   (h : ∀ k : zK, kl k = l → zX k g cX5_firstPaperLead RX5 4 (some .int) 6 → zE k g Q → (AW k g 4 I L 2 [(0, vR 59), (1, vI 0)] [])) : Call l g 6 M_X5_firstPaperLead [vR 59] I L Q := by
  refine aw_entry (by decide) (Nat.le_of_ble_eq_true rfl) (fun k hk (X : zX k g cX5_firstPaperLead RX5 4 (some .int) 6) E => ?_)
  show AW k g 4 I L 0 [(0, vR 59)] []
  replace h := h k hk X E
  subst hk
  refine aw_iconst (v := 0) X dX5_firstPaperLead_0 (by decide) ?_
  refine aw_istore_n X dX5_firstPaperLead_1 (by decide) rfl ?_
  refine aw_perm (ks9 := [(0, vR 59), (1, vI 0)]) [1, 0] rfl ?_
  exact h
set_option maxRecDepth 100000 in
theorem s_X5_curtainsRead_4 {k : zK} {g : zG} {Q : Option zv → zI → zL → Prop} {I : zI} {L : zL} {y1 : Int32} {y2 : Int32}  (X : zX k g cX5_curtainsRead RX5 4 (some .int) 6) (E : zE k g Q) (h : if y2 < (I 2 3) then (if (v_X4_paneAt I 2 y2) = 0 then (AW k g 4 I L 4 [(0, vR 59), (1, vI y1), (2, vI (y2 + 1))] []) else (if (I (v_X4_paneAt I 2 y2) 3) = (-1) then (Call (kl k) g 5 M_X5_shapeAt [vR 59, vR (v_X4_paneAt I 2 y2), vI (-1), vI 0] I L (zi fun r4 I4 L4 => k_X4_readingOf I4 2 r4 ∧ (AW k g 4 I4 L4 4 [(0, vR 59), (1, vI (if (v_X4_readingOf I4 2 r4) = (-1) then y1 else (y1 ||| (jshl 1 y2)))), (2, vI (y2 + 1))] []))) else (AW k g 4 I L 4 [(0, vR 59), (1, vI y1), (2, vI (y2 + 1))] []))) else (Q (some (vI y1)) I L)) : AW k g 4 I L 4 [(0, vR 59), (1, vI y1), (2, vI y2)] [] := by
  refine aw_iload_n X 2 dX5_curtainsRead_4 rfl ?_
  refine aw_aload_n X 0 dX5_curtainsRead_5 rfl ?_
  refine aw_getR X zf_RX5_9 rfl zs_59 zr_59_0 dX5_curtainsRead_6 ?_
  refine aw_getI X zf_RX5_98 rfl zs_2 dX5_curtainsRead_9 ?_
  refine aw_icmp_gen X 66 dX5_curtainsRead_12 rfl (fun c1 => ?_) (fun c1 => ?_)
  · replace h := zifp c1 h
    refine aw_aload_n X 0 dX5_curtainsRead_15 rfl ?_
    refine aw_getR X zf_RX5_9 rfl zs_59 zr_59_0 dX5_curtainsRead_16 ?_
    refine aw_iload_n X 2 dX5_curtainsRead_19 rfl ?_
    refine aw_pV X (as := [vI y2]) mf_X4_paneAt zw_681 (p_X4_paneAt zs_2) zs_2 rfl rfl (by decide) (Nat.le_of_ble_eq_true rfl) dX5_curtainsRead_20 ?_
    refine aw_astore_n X dX5_curtainsRead_23 (by decide) rfl ?_
    refine aw_aload_n X 0 dX5_curtainsRead_24 rfl ?_
    refine aw_ifnull X 60 dX5_curtainsRead_25 rfl (fun c2 => ?_) (fun c2 => ?_)
    · replace h := zifp c2 h
      refine aw_iinc (v := y2 + 1) X 3 dX5_curtainsRead_60 rfl rfl (by decide) rfl ?_
      refine aw_goto X 4 dX5_curtainsRead_63 rfl ?_
      refine aw_perm (ks9 := [(0, vR 59), (1, vI y1), (2, vI (y2 + 1))]) [2, 3, 0] rfl ?_
      exact h
    · replace h := zifn c2 h
      refine aw_aload_n X 0 dX5_curtainsRead_28 rfl ?_
      refine aw_getI X zf_RX5_108 rfl (nn_X4_paneAt zs_2 c2) dX5_curtainsRead_29 ?_
      refine aw_iconst (v := (-1)) X dX5_curtainsRead_32 (by decide) ?_
      refine aw_icmp_ne X 60 dX5_curtainsRead_33 rfl (fun c3 => ?_) (fun c3 => ?_)
      · replace h := zifn c3 h
        refine aw_iinc (v := y2 + 1) X 3 dX5_curtainsRead_60 rfl rfl (by decide) rfl ?_
        refine aw_goto X 4 dX5_curtainsRead_63 rfl ?_
        refine aw_perm (ks9 := [(0, vR 59), (1, vI y1), (2, vI (y2 + 1))]) [2, 3, 0] rfl ?_
        exact h
      · replace h := zifp c3 h
        refine aw_aload_n X 1 dX5_curtainsRead_36 rfl ?_
        refine aw_getR X zf_RX5_9 rfl zs_59 zr_59_0 dX5_curtainsRead_37 ?_
        refine aw_aload_n X 1 dX5_curtainsRead_40 rfl ?_
        refine aw_aload_n X 0 dX5_curtainsRead_41 rfl ?_
        refine aw_iconst (v := (-1)) X dX5_curtainsRead_42 (by decide) ?_
        refine aw_iconst (v := 0) X dX5_curtainsRead_43 (by decide) ?_
        refine aw_callV X (as := [vR (v_X4_paneAt I 2 y2), vI (-1), vI 0]) mf_X5_shapeAt zw_577 h zs_59 rfl rfl (by decide) (Nat.le_of_ble_eq_true rfl) dX5_curtainsRead_44 (fun v I4 L4 h => ?_)
        obtain ⟨r4, rfl, h⟩ := h
        have n5 := h.1
        replace h := h.2
        refine aw_pV X (as := [vI r4]) mf_X4_readingOf zw_670 (p_X4_readingOf zs_2 n5) zs_2 rfl rfl (by decide) (Nat.le_of_ble_eq_true rfl) dX5_curtainsRead_47 ?_
        refine aw_iconst (v := (-1)) X dX5_curtainsRead_50 (by decide) ?_
        have hJ7 : ∀ (w1 : Int32), w1 = (if (v_X4_readingOf I4 2 r4) = (-1) then y1 else (y1 ||| (jshl 1 y2))) → AW k g 4 I4 L4 60 [(0, vR 59), (1, vI w1), (2, vI y2)] [] := by
          intro w1 q1
          subst q1
          refine aw_iinc (v := y2 + 1) X 2 dX5_curtainsRead_60 rfl rfl (by decide) rfl ?_
          refine aw_goto X 4 dX5_curtainsRead_63 rfl ?_
          refine aw_perm (ks9 := [(0, vR 59), (1, vI (if (v_X4_readingOf I4 2 r4) = (-1) then y1 else (y1 ||| (jshl 1 y2)))), (2, vI (y2 + 1))]) [1, 2, 0] rfl ?_
          exact h
        refine aw_icmp_eq X 60 dX5_curtainsRead_51 rfl (fun c6 => ?_) (fun c6 => ?_)
        · refine aw_perm (ks9 := [(0, vR 59), (1, vI y1), (2, vI y2)]) [1, 2, 3] rfl ?_
          exact hJ7 _ (if_pos c6).symm
        · refine aw_iload_n X 2 dX5_curtainsRead_54 rfl ?_
          refine aw_iconst (v := 1) X dX5_curtainsRead_55 (by decide) ?_
          refine aw_iload_n X 3 dX5_curtainsRead_56 rfl ?_
          refine aw_ishl X dX5_curtainsRead_57 ?_
          refine aw_ior X dX5_curtainsRead_58 ?_
          refine aw_istore_n X dX5_curtainsRead_59 (by decide) rfl ?_
          refine aw_perm (ks9 := [(0, vR 59), (1, vI (y1 ||| (jshl 1 y2))), (2, vI y2)]) [2, 0, 3] rfl ?_
          exact hJ7 _ (if_neg c6).symm
  · replace h := zifn c1 h
    refine aw_iload_n X 1 dX5_curtainsRead_66 rfl ?_
    exact aw_iret X E rfl dX5_curtainsRead_67 h
set_option maxRecDepth 100000 in
theorem m_X5_curtainsRead {l : Launch} {g : zG} {Q : Option zv → zI → zL → Prop} {I : zI} {L : zL}   (h : ∀ k : zK, kl k = l → zX k g cX5_curtainsRead RX5 4 (some .int) 6 → zE k g Q → (AW k g 4 I L 4 [(0, vR 59), (1, vI 0), (2, vI 0)] [])) : Call l g 6 M_X5_curtainsRead [vR 59] I L Q := by
  refine aw_entry (by decide) (Nat.le_of_ble_eq_true rfl) (fun k hk (X : zX k g cX5_curtainsRead RX5 4 (some .int) 6) E => ?_)
  show AW k g 4 I L 0 [(0, vR 59)] []
  replace h := h k hk X E
  subst hk
  refine aw_iconst (v := 0) X dX5_curtainsRead_0 (by decide) ?_
  refine aw_istore_n X dX5_curtainsRead_1 (by decide) rfl ?_
  refine aw_iconst (v := 0) X dX5_curtainsRead_2 (by decide) ?_
  refine aw_istore_n X dX5_curtainsRead_3 (by decide) rfl ?_
  refine aw_perm (ks9 := [(0, vR 59), (1, vI 0), (2, vI 0)]) [2, 1, 0] rfl ?_
  exact h
set_option maxRecDepth 100000 in
theorem s_X5_panesRight_4 {k : zK} {g : zG} {Q : Option zv → zI → zL → Prop} {I : zI} {L : zL} {y1 : Int32} {y2 : Int32} {y3 : Int32}  (X : zX k g cX5_panesRight RX5 5 (some .int) 6) (E : zE k g Q) (h : if y3 < (I 2 3) then (if (v_X4_paneAt I 2 y3) = 0 then (AW k g 5 I L 4 [(0, vR 59), (1, vI y1), (2, vI y2), (3, vI (y3 + 1))] []) else (if (I (v_X4_paneAt I 2 y3) 3) = (-1) then (AW k g 5 I L 4 [(0, vR 59), (1, vI y1), (2, vI y2), (3, vI (y3 + 1))] []) else (Call (kl k) g 5 M_X5_shapeAt [vR 59, vR (v_X4_paneAt I 2 y3), vI (I (v_X4_paneAt I 2 y3) 3), vI y1] I L (zi fun r4 I4 L4 => k_X4_readingOf I4 2 r4 ∧ ((∀ u8 : Int32, u8 = (if (v_X4_readingOf I4 2 r4) = (I4 (v_X4_paneAt I 2 y3) 3) then y2 ||| (jshl 1 y3) else y2) → AW k g 5 I4 L4 4 [(0, vR 59), (1, vI y1), (2, vI u8), (3, vI (y3 + 1))] [])))))) else (Q (some (vI y2)) I L)) : AW k g 5 I L 4 [(0, vR 59), (1, vI y1), (2, vI y2), (3, vI y3)] [] := by
  refine aw_iload_n X 3 dX5_panesRight_4 rfl ?_
  refine aw_aload_n X 0 dX5_panesRight_5 rfl ?_
  refine aw_getR X zf_RX5_9 rfl zs_59 zr_59_0 dX5_panesRight_6 ?_
  refine aw_getI X zf_RX5_98 rfl zs_2 dX5_panesRight_9 ?_
  refine aw_icmp_gen X 78 dX5_panesRight_12 rfl (fun c1 => ?_) (fun c1 => ?_)
  · replace h := zifp c1 h
    refine aw_aload_n X 0 dX5_panesRight_15 rfl ?_
    refine aw_getR X zf_RX5_9 rfl zs_59 zr_59_0 dX5_panesRight_16 ?_
    refine aw_iload_n X 3 dX5_panesRight_19 rfl ?_
    refine aw_pV X (as := [vI y3]) mf_X4_paneAt zw_681 (p_X4_paneAt zs_2) zs_2 rfl rfl (by decide) (Nat.le_of_ble_eq_true rfl) dX5_panesRight_20 ?_
    refine aw_astore X dX5_panesRight_23 (by decide) rfl ?_
    refine aw_aload X 0 dX5_panesRight_25 rfl ?_
    refine aw_ifnull X 72 dX5_panesRight_27 rfl (fun c2 => ?_) (fun c2 => ?_)
    · replace h := zifp c2 h
      refine aw_iinc (v := y3 + 1) X 4 dX5_panesRight_72 rfl rfl (by decide) rfl ?_
      refine aw_goto X 4 dX5_panesRight_75 rfl ?_
      refine aw_perm (ks9 := [(0, vR 59), (1, vI y1), (2, vI y2), (3, vI (y3 + 1))]) [2, 3, 4, 0] rfl ?_
      exact h
    · replace h := zifn c2 h
      refine aw_aload X 0 dX5_panesRight_30 rfl ?_
      refine aw_getI X zf_RX5_108 rfl (nn_X4_paneAt zs_2 c2) dX5_panesRight_32 ?_
      refine aw_iconst (v := (-1)) X dX5_panesRight_35 (by decide) ?_
      refine aw_icmp_eq X 72 dX5_panesRight_36 rfl (fun c3 => ?_) (fun c3 => ?_)
      · replace h := zifp c3 h
        refine aw_iinc (v := y3 + 1) X 4 dX5_panesRight_72 rfl rfl (by decide) rfl ?_
        refine aw_goto X 4 dX5_panesRight_75 rfl ?_
        refine aw_perm (ks9 := [(0, vR 59), (1, vI y1), (2, vI y2), (3, vI (y3 + 1))]) [2, 3, 4, 0] rfl ?_
        exact h
      · replace h := zifn c3 h
        refine aw_aload_n X 1 dX5_panesRight_39 rfl ?_
        refine aw_getR X zf_RX5_9 rfl zs_59 zr_59_0 dX5_panesRight_40 ?_
        refine aw_aload_n X 1 dX5_panesRight_43 rfl ?_
        refine aw_aload X 0 dX5_panesRight_44 rfl ?_
        refine aw_aload X 0 dX5_panesRight_46 rfl ?_
        refine aw_getI X zf_RX5_108 rfl (nn_X4_paneAt zs_2 c2) dX5_panesRight_48 ?_
        refine aw_iload_n X 2 dX5_panesRight_51 rfl ?_
        refine aw_callV X (as := [vR (v_X4_paneAt I 2 y3), vI (I (v_X4_paneAt I 2 y3) 3), vI y1]) mf_X5_shapeAt zw_577 h zs_59 rfl rfl (by decide) (Nat.le_of_ble_eq_true rfl) dX5_panesRight_52 (fun v I4 L4 h => ?_)
        obtain ⟨r4, rfl, h⟩ := h
        have n5 := h.1
        replace h := h.2
        refine aw_pV X (as := [vI r4]) mf_X4_readingOf zw_670 (p_X4_readingOf zs_2 n5) zs_2 rfl rfl (by decide) (Nat.le_of_ble_eq_true rfl) dX5_panesRight_55 ?_
        refine aw_aload X 0 dX5_panesRight_58 rfl ?_
        refine aw_getI X zf_RX5_108 rfl (nn_X4_paneAt zs_2 c2) dX5_panesRight_60 ?_
        have hJ7 : ∀ (u8 : Int32), u8 = (if (v_X4_readingOf I4 2 r4) = (I4 (v_X4_paneAt I 2 y3) 3) then y2 ||| (jshl 1 y3) else y2) → AW k g 5 I4 L4 72 [(0, vR 59), (1, vI y1), (2, vI u8), (3, vI y3)] [] := by
          intro u8 q1
          replace h := h u8 q1
          refine aw_iinc (v := y3 + 1) X 3 dX5_panesRight_72 rfl rfl (by decide) rfl ?_
          refine aw_goto X 4 dX5_panesRight_75 rfl ?_
          refine aw_perm (ks9 := [(0, vR 59), (1, vI y1), (2, vI u8), (3, vI (y3 + 1))]) [1, 2, 3, 0] rfl ?_
          exact h
        refine aw_icmp_ne X 72 dX5_panesRight_63 rfl (fun c6 => ?_) (fun c6 => ?_)
        · refine aw_perm (ks9 := [(0, vR 59), (1, vI y1), (2, vI y2), (3, vI y3)]) [1, 2, 3, 4] rfl ?_
          exact hJ7 _ (if_neg c6).symm
        · refine aw_iload_n X 3 dX5_panesRight_66 rfl ?_
          refine aw_iconst (v := 1) X dX5_panesRight_67 (by decide) ?_
          refine aw_iload_n X 4 dX5_panesRight_68 rfl ?_
          refine aw_ishl X dX5_panesRight_69 ?_
          refine aw_ior X dX5_panesRight_70 ?_
          refine aw_istore_n X dX5_panesRight_71 (by decide) rfl ?_
          refine aw_perm (ks9 := [(0, vR 59), (1, vI y1), (2, vI (y2 ||| (jshl 1 y3))), (3, vI y3)]) [2, 3, 0, 4] rfl ?_
          exact hJ7 _ (if_pos c6).symm
  · replace h := zifn c1 h
    refine aw_iload_n X 2 dX5_panesRight_78 rfl ?_
    exact aw_iret X E rfl dX5_panesRight_79 h
set_option maxRecDepth 100000 in
theorem m_X5_panesRight {l : Launch} {g : zG} {Q : Option zv → zI → zL → Prop} {I : zI} {L : zL} {a1 : Int32}  (h : ∀ k : zK, kl k = l → zX k g cX5_panesRight RX5 5 (some .int) 6 → zE k g Q → (AW k g 5 I L 4 [(0, vR 59), (1, vI a1), (2, vI 0), (3, vI 0)] [])) : Call l g 6 M_X5_panesRight [vR 59, vI a1] I L Q := by
  refine aw_entry (by decide) (Nat.le_of_ble_eq_true rfl) (fun k hk (X : zX k g cX5_panesRight RX5 5 (some .int) 6) E => ?_)
  show AW k g 5 I L 0 [(0, vR 59), (1, vI a1)] []
  replace h := h k hk X E
  subst hk
  refine aw_iconst (v := 0) X dX5_panesRight_0 (by decide) ?_
  refine aw_istore_n X dX5_panesRight_1 (by decide) rfl ?_
  refine aw_iconst (v := 0) X dX5_panesRight_2 (by decide) ?_
  refine aw_istore_n X dX5_panesRight_3 (by decide) rfl ?_
  refine aw_perm (ks9 := [(0, vR 59), (1, vI a1), (2, vI 0), (3, vI 0)]) [2, 3, 1, 0] rfl ?_
  exact h
set_option maxRecDepth 100000 in
theorem s_X5_warmestRoom_12 {k : zK} {g : zG} {Q : Option zv → zI → zL → Prop} {I : zI} {L : zL} {y2 : Int32} {y3 : Int32} {y4 : Int32}  (X : zX k g cX5_warmestRoom RX5 5 (some .int) 5) (E : zE k g Q) (h : if y4 < 0 then (Q (some (vI (-1))) I L) else ((∀ I2 : zI, I2 = (zs I 60 1 y4) → Call (kl k) g 4 M_X5_shapeOnGlass [vR 59, vI y2, vI y3, vI (I2 2 4)] I2 L (zi fun r3 I3 L3 => k_X4_readingOf I3 2 r3 ∧ (if (v_X4_readingOf I3 2 r3) = y2 then (Q (some (vI y4)) I3 L3) else (AW k g 5 I3 L3 12 [(0, vR 59), (2, vI y2), (3, vI y3), (4, vI (y4 + (-1)))] [])))))) : AW k g 5 I L 12 [(0, vR 59), (2, vI y2), (3, vI y3), (4, vI y4)] [] := by
  refine aw_iload X 3 dX5_warmestRoom_12 rfl ?_
  refine aw_if_lt X 59 dX5_warmestRoom_14 rfl (fun c1 => ?_) (fun c1 => ?_)
  · replace h := zifp c1 h
    refine aw_iconst (v := (-1)) X dX5_warmestRoom_59 (by decide) ?_
    exact aw_iret X E rfl dX5_warmestRoom_60 h
  · replace h := zifn c1 h
    refine aw_aload_n X 0 dX5_warmestRoom_17 rfl ?_
    refine aw_getR X zf_RX5_18 rfl zs_59 zr_59_1 dX5_warmestRoom_18 ?_
    refine aw_iload X 3 dX5_warmestRoom_21 rfl ?_
    refine aw_putI X zf_RX5_114 rfl rfl rfl zs_60 dX5_warmestRoom_23 ?_
    refine aw_aload_n X 0 dX5_warmestRoom_26 rfl ?_
    refine aw_nameI (fun I2 e2 => ?_)
    replace h := h I2 e2
    refine aw_getR X zf_RX5_9 rfl zs_59 zr_59_0 dX5_warmestRoom_27 ?_
    refine aw_aload_n X 0 dX5_warmestRoom_30 rfl ?_
    refine aw_iload_n X 1 dX5_warmestRoom_31 rfl ?_
    refine aw_iload_n X 2 dX5_warmestRoom_32 rfl ?_
    refine aw_aload_n X 0 dX5_warmestRoom_33 rfl ?_
    refine aw_getR X zf_RX5_9 rfl zs_59 zr_59_0 dX5_warmestRoom_34 ?_
    refine aw_getI X zf_RX5_51 rfl zs_2 dX5_warmestRoom_37 ?_
    refine aw_callV X (as := [vI y2, vI y3, vI (I2 2 4)]) mf_X5_shapeOnGlass zw_582 h zs_59 rfl rfl (by decide) (Nat.le_of_ble_eq_true rfl) dX5_warmestRoom_40 (fun v I3 L3 h => ?_)
    obtain ⟨r3, rfl, h⟩ := h
    have n4 := h.1
    replace h := h.2
    refine aw_pV X (as := [vI r3]) mf_X4_readingOf zw_670 (p_X4_readingOf zs_2 n4) zs_2 rfl rfl (by decide) (Nat.le_of_ble_eq_true rfl) dX5_warmestRoom_43 ?_
    refine aw_iload_n X 1 dX5_warmestRoom_46 rfl ?_
    refine aw_icmp_ne X 53 dX5_warmestRoom_47 rfl (fun c5 => ?_) (fun c5 => ?_)
    · replace h := zifn c5 h
      refine aw_iinc (v := y4 + (-1)) X 3 dX5_warmestRoom_53 rfl rfl (by decide) rfl ?_
      refine aw_goto X 12 dX5_warmestRoom_56 rfl ?_
      refine aw_perm (ks9 := [(0, vR 59), (2, vI y2), (3, vI y3), (4, vI (y4 + (-1)))]) [1, 2, 3, 0] rfl ?_
      exact h
    · replace h := zifp c5 h
      refine aw_iload X 3 dX5_warmestRoom_50 rfl ?_
      exact aw_iret X E rfl dX5_warmestRoom_52 h
set_option maxRecDepth 100000 in
theorem m_X5_warmestRoom {l : Launch} {g : zG} {Q : Option zv → zI → zL → Prop} {I : zI} {L : zL} {a1 : Nat} {a2 : Int32} {a3 : Int32}  (h : ∀ k : zK, kl k = l → zX k g cX5_warmestRoom RX5 5 (some .int) 5 → zE k g Q → (Call (kl k) g 1 M_X1_takeGlass [vR 60, vR a1] I L (zn fun I1 L1 => AW k g 5 I1 L1 12 [(0, vR 59), (2, vI a2), (3, vI a3), (4, vI 9)] []))) : Call l g 5 M_X5_warmestRoom [vR 59, vR a1, vI a2, vI a3] I L Q := by
  refine aw_entry (by decide) (Nat.le_of_ble_eq_true rfl) (fun k hk (X : zX k g cX5_warmestRoom RX5 5 (some .int) 5) E => ?_)
  show AW k g 5 I L 0 [(0, vR 59), (1, vR a1), (2, vI a2), (3, vI a3)] []
  replace h := h k hk X E
  subst hk
  refine aw_aload_n X 0 dX5_warmestRoom_0 rfl ?_
  refine aw_getR X zf_RX5_18 rfl zs_59 zr_59_1 dX5_warmestRoom_1 ?_
  refine aw_aload_n X 1 dX5_warmestRoom_4 rfl ?_
  refine aw_callV X (as := [vR a1]) mf_X1_takeGlass zw_581 h zs_60 rfl rfl (by decide) (Nat.le_of_ble_eq_true rfl) dX5_warmestRoom_5 (fun v I1 L1 h => ?_)
  obtain ⟨rfl, h⟩ := h
  refine aw_bipush (v := 9) X dX5_warmestRoom_8 (by decide) ?_
  refine aw_istore X dX5_warmestRoom_10 (by decide) rfl ?_
  refine aw_perm (ks9 := [(0, vR 59), (2, vI a2), (3, vI a3), (4, vI 9)]) [1, 3, 4, 0] rfl ?_
  exact h
set_option maxRecDepth 100000 in
theorem s_X5_firstHourAs_9 {k : zK} {g : zG} {Q : Option zv → zI → zL → Prop} {I : zI} {L : zL} {y3 : Int32} {y4 : Int32}  (X : zX k g cX5_firstHourAs RX5 5 (some .int) 5) (E : zE k g Q) (h : if y4 < 25 then (vp_in y4 25 ∧ (if (I 62 y4.toNatClampNeg) = y3 then (Q (some (vI y4)) I L) else (AW k g 5 I L 9 [(0, vR 59), (3, vI y3), (4, vI (y4 + 1))] []))) else (Q (some (vI (-1))) I L)) : AW k g 5 I L 9 [(0, vR 59), (3, vI y3), (4, vI y4)] [] := by
  refine aw_iload X 2 dX5_firstHourAs_9 rfl ?_
  refine aw_aload_n X 0 dX5_firstHourAs_11 rfl ?_
  refine aw_getR X zf_RX5_22 rfl zs_59 zr_59_2 dX5_firstHourAs_12 ?_
  refine aw_alen (v := 25) X zs_62 (by decide) (by decide) dX5_firstHourAs_15 ?_
  refine aw_icmp_gen X 39 dX5_firstHourAs_16 rfl (fun c1 => ?_) (fun c1 => ?_)
  · replace h := zifp c1 h
    refine aw_aload_n X 0 dX5_firstHourAs_19 rfl ?_
    refine aw_getR X zf_RX5_22 rfl zs_59 zr_59_2 dX5_firstHourAs_20 ?_
    refine aw_iload X 2 dX5_firstHourAs_23 rfl ?_
    have n2 := h.1
    replace h := h.2
    refine aw_ialdj (j := y4.toNatClampNeg) X zs_62 n2 rfl dX5_firstHourAs_25 ?_
    refine aw_iload_n X 1 dX5_firstHourAs_26 rfl ?_
    refine aw_icmp_ne X 33 dX5_firstHourAs_27 rfl (fun c3 => ?_) (fun c3 => ?_)
    · replace h := zifn c3 h
      refine aw_iinc (v := y4 + 1) X 2 dX5_firstHourAs_33 rfl rfl (by decide) rfl ?_
      refine aw_goto X 9 dX5_firstHourAs_36 rfl ?_
      refine aw_perm (ks9 := [(0, vR 59), (3, vI y3), (4, vI (y4 + 1))]) [1, 2, 0] rfl ?_
      exact h
    · replace h := zifp c3 h
      refine aw_iload X 2 dX5_firstHourAs_30 rfl ?_
      exact aw_iret X E rfl dX5_firstHourAs_32 h
  · replace h := zifn c1 h
    refine aw_iconst (v := (-1)) X dX5_firstHourAs_39 (by decide) ?_
    exact aw_iret X E rfl dX5_firstHourAs_40 h
set_option maxRecDepth 100000 in
theorem m_X5_firstHourAs {l : Launch} {g : zG} {Q : Option zv → zI → zL → Prop} {I : zI} {L : zL} {a1 : Nat} {a2 : Int32} {a3 : Int32}  (h : ∀ k : zK, kl k = l → zX k g cX5_firstHourAs RX5 5 (some .int) 5 → zE k g Q → (Call (kl k) g 4 M_X5_readAllHours [vR 59, vR a1, vI a2] I L (zn fun I1 L1 => AW k g 5 I1 L1 9 [(0, vR 59), (3, vI a3), (4, vI 0)] []))) : Call l g 5 M_X5_firstHourAs [vR 59, vR a1, vI a2, vI a3] I L Q := by
  refine aw_entry (by decide) (Nat.le_of_ble_eq_true rfl) (fun k hk (X : zX k g cX5_firstHourAs RX5 5 (some .int) 5) E => ?_)
  show AW k g 5 I L 0 [(0, vR 59), (1, vR a1), (2, vI a2), (3, vI a3)] []
  replace h := h k hk X E
  subst hk
  refine aw_aload_n X 0 dX5_firstHourAs_0 rfl ?_
  refine aw_aload_n X 1 dX5_firstHourAs_1 rfl ?_
  refine aw_iload_n X 2 dX5_firstHourAs_2 rfl ?_
  refine aw_callV X (as := [vR a1, vI a2]) mf_X5_readAllHours zw_666 h zs_59 rfl rfl (by decide) (Nat.le_of_ble_eq_true rfl) dX5_firstHourAs_3 (fun v I1 L1 h => ?_)
  obtain ⟨rfl, h⟩ := h
  refine aw_iconst (v := 0) X dX5_firstHourAs_6 (by decide) ?_
  refine aw_istore X dX5_firstHourAs_7 (by decide) rfl ?_
  refine aw_perm (ks9 := [(0, vR 59), (3, vI a3), (4, vI 0)]) [1, 4, 0] rfl ?_
  exact h
