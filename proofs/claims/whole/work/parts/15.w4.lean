set_option maxRecDepth 100000 in
theorem m_X7_ran {l : Launch} {g : zG} {Q : Option zv → zI → zL → Prop} {I : zI} {L : zL} {a1 : Int32}  (h : if (I 87 20) < 20 then (vp_in (I 87 20) 20 ∧ ((∀ I3 : zI, I3 = (zs I 99 ((I 87 20).toNatClampNeg) a1) → Q none (zs I3 87 20 ((I3 87 20) + 1)) L))) else (Q none (zs I 87 20 ((I 87 20) + 1)) L)) : Call l g 1 M_X7_ran [vR 87, vI a1] I L Q := by
  refine aw_entry (by decide) (Nat.le_of_ble_eq_true rfl) (fun k hk (X : zX k g cX7_ran RX7 2 none 1) E => ?_)
  show AW k g 2 I L 0 [(0, vR 87), (1, vI a1)] []
  subst hk
  refine aw_aload_n X 0 dX7_ran_0 rfl ?_
  refine aw_getI X zf_RX7_232 rfl zs_87 dX7_ran_1 ?_
  refine aw_bipush (v := 20) X dX7_ran_4 (by decide) ?_
  refine aw_icmp_gen X 19 dX7_ran_6 rfl (fun c1 => ?_) (fun c1 => ?_)
  · replace h := zifp c1 h
    refine aw_aload_n X 0 dX7_ran_9 rfl ?_
    refine aw_getR X zf_RX7_44 rfl zs_87 zr_87_21 dX7_ran_10 ?_
    refine aw_aload_n X 0 dX7_ran_13 rfl ?_
    refine aw_getI X zf_RX7_232 rfl zs_87 dX7_ran_14 ?_
    refine aw_iload_n X 1 dX7_ran_17 rfl ?_
    have n2 := h.1
    replace h := h.2
    refine aw_iastj (j := (I 87 20).toNatClampNeg) X zs_99 n2 rfl dX7_ran_18 ?_
    refine aw_aload_n X 0 dX7_ran_19 rfl ?_
    refine aw_nameI (fun I3 e3 => ?_)
    replace h := h I3 e3
    refine aw_dup X dX7_ran_20 rfl ?_
    refine aw_getI X zf_RX7_232 rfl zs_87 dX7_ran_21 ?_
    refine aw_iconst (v := 1) X dX7_ran_24 (by decide) ?_
    refine aw_iadd X dX7_ran_25 ?_
    refine aw_putI X zf_RX7_232 rfl rfl rfl zs_87 dX7_ran_26 ?_
    exact aw_vret X E rfl dX7_ran_29 h
  · replace h := zifn c1 h
    refine aw_aload_n X 0 dX7_ran_19 rfl ?_
    refine aw_dup X dX7_ran_20 rfl ?_
    refine aw_getI X zf_RX7_232 rfl zs_87 dX7_ran_21 ?_
    refine aw_iconst (v := 1) X dX7_ran_24 (by decide) ?_
    refine aw_iadd X dX7_ran_25 ?_
    refine aw_putI X zf_RX7_232 rfl rfl rfl zs_87 dX7_ran_26 ?_
    exact aw_vret X E rfl dX7_ran_29 h
set_option maxRecDepth 100000 in
theorem m_X7_freezes {l : Launch} {g : zG} {Q : Option zv → zI → zL → Prop} {I : zI} {L : zL} {a1 : Int32} {a2 : Int32}  (h : vp_in a1 8 ∧ (if (I 92 a1.toNatClampNeg) = 1 then (Call l g 1 M_X7_ran [vR 87, vI 20] I L (zn fun I4 L4 => Call l g 1 M_X7_ran [vR 87, vI 10] I4 L4 (zn fun I5 L5 => Q (some (vI ((a2 + a1) + (I5 94 a1.toNatClampNeg)))) I5 L5))) else if (I 92 a1.toNatClampNeg) = 2 then (Call l g 1 M_X7_ran [vR 87, vI 10] I L (zn fun I7 L7 => Q (some (vI (a2 + a1))) I7 L7)) else if (I 92 a1.toNatClampNeg) = 3 then (Call l g 1 M_X7_ran [vR 87, vI 10] I L (zn fun I9 L9 => Q (some (vI (a2 + a1))) I9 L9)) else if (I 92 a1.toNatClampNeg) = 4 then (Call l g 1 M_X7_ran [vR 87, vI 51] I L (zn fun I11 L11 => Call l g 1 M_X7_ran [vR 87, vI 10] I11 L11 (zn fun I12 L12 => Q (some (vI ((a2 + a1) - a1))) I12 L12))) else if (I 92 a1.toNatClampNeg) = 5 then (Call l g 1 M_X7_ran [vR 87, vI 20] I L (zn fun I14 L14 => Call l g 1 M_X7_ran [vR 87, vI 10] I14 L14 (zn fun I15 L15 => Q (some (vI ((a2 + a1) + (I15 94 a1.toNatClampNeg)))) I15 L15))) else if (I 92 a1.toNatClampNeg) = 6 then (Call l g 1 M_X7_ran [vR 87, vI 70] I L (zn fun I17 L17 => Call l g 1 M_X7_ran [vR 87, vI 10] I17 L17 (zn fun I18 L18 => Q (some (vI ((a2 + a1) * 2))) I18 L18))) else (Call l g 1 M_X7_ran [vR 87, vI 10] I L (zn fun I19 L19 => Q (some (vI (a2 + a1))) I19 L19)))) : Call l g 2 M_X7_freezes [vR 87, vI a1, vI a2] I L Q := by
  refine aw_entry (by decide) (Nat.le_of_ble_eq_true rfl) (fun k hk (X : zX k g cX7_freezes RX7 3 (some .int) 2) E => ?_)
  show AW k g 3 I L 0 [(0, vR 87), (1, vI a1), (2, vI a2)] []
  subst hk
  refine aw_aload_n X 0 dX7_freezes_0 rfl ?_
  refine aw_getR X zf_RX7_23 rfl zs_87 zr_87_6 dX7_freezes_1 ?_
  refine aw_iload_n X 1 dX7_freezes_4 rfl ?_
  have n1 := h.1
  replace h := h.2
  refine aw_ialdj (j := a1.toNatClampNeg) X zs_92 n1 rfl dX7_freezes_5 ?_
  by_cases c3 : (I 92 a1.toNatClampNeg) = 1
  · replace h := zifp c3 h
    refine aw_tableIn X 0 44 dX7_freezes_6 (by rw [c3]; rfl) (by decide) rfl rfl ?_
    refine aw_aload_n X 0 dX7_freezes_44 rfl ?_
    refine aw_bipush (v := 20) X dX7_freezes_45 (by decide) ?_
    refine aw_callV X (as := [vI 20]) mf_X7_ran zw_1433 h zs_87 rfl rfl (by decide) (Nat.le_of_ble_eq_true rfl) dX7_freezes_47 (fun v I4 L4 h => ?_)
    obtain ⟨rfl, h⟩ := h
    refine aw_aload_n X 0 dX7_freezes_50 rfl ?_
    refine aw_bipush (v := 10) X dX7_freezes_51 (by decide) ?_
    refine aw_callV X (as := [vI 10]) mf_X7_ran zw_1433 h zs_87 rfl rfl (by decide) (Nat.le_of_ble_eq_true rfl) dX7_freezes_53 (fun v I5 L5 h => ?_)
    obtain ⟨rfl, h⟩ := h
    refine aw_iload_n X 2 dX7_freezes_56 rfl ?_
    refine aw_iload_n X 1 dX7_freezes_57 rfl ?_
    refine aw_iadd X dX7_freezes_58 ?_
    refine aw_aload_n X 0 dX7_freezes_59 rfl ?_
    refine aw_getR X zf_RX7_29 rfl zs_87 zr_87_8 dX7_freezes_60 ?_
    refine aw_iload_n X 1 dX7_freezes_63 rfl ?_
    refine aw_ialdj (j := a1.toNatClampNeg) X zs_94 n1 rfl dX7_freezes_64 ?_
    refine aw_iadd X dX7_freezes_65 ?_
    exact aw_iret X E rfl dX7_freezes_66 h
  replace h := zifn c3 h
  by_cases c6 : (I 92 a1.toNatClampNeg) = 2
  · replace h := zifp c6 h
    refine aw_tableIn X 1 103 dX7_freezes_6 (by rw [c6]; rfl) (by decide) rfl rfl ?_
    refine aw_aload_n X 0 dX7_freezes_103 rfl ?_
    refine aw_bipush (v := 10) X dX7_freezes_104 (by decide) ?_
    refine aw_callV X (as := [vI 10]) mf_X7_ran zw_1433 h zs_87 rfl rfl (by decide) (Nat.le_of_ble_eq_true rfl) dX7_freezes_106 (fun v I7 L7 h => ?_)
    obtain ⟨rfl, h⟩ := h
    refine aw_iload_n X 2 dX7_freezes_109 rfl ?_
    refine aw_iload_n X 1 dX7_freezes_110 rfl ?_
    refine aw_iadd X dX7_freezes_111 ?_
    exact aw_iret X E rfl dX7_freezes_112 h
  replace h := zifn c6 h
  by_cases c8 : (I 92 a1.toNatClampNeg) = 3
  · replace h := zifp c8 h
    refine aw_tableIn X 2 103 dX7_freezes_6 (by rw [c8]; rfl) (by decide) rfl rfl ?_
    refine aw_aload_n X 0 dX7_freezes_103 rfl ?_
    refine aw_bipush (v := 10) X dX7_freezes_104 (by decide) ?_
    refine aw_callV X (as := [vI 10]) mf_X7_ran zw_1433 h zs_87 rfl rfl (by decide) (Nat.le_of_ble_eq_true rfl) dX7_freezes_106 (fun v I9 L9 h => ?_)
    obtain ⟨rfl, h⟩ := h
    refine aw_iload_n X 2 dX7_freezes_109 rfl ?_
    refine aw_iload_n X 1 dX7_freezes_110 rfl ?_
    refine aw_iadd X dX7_freezes_111 ?_
    exact aw_iret X E rfl dX7_freezes_112 h
  replace h := zifn c8 h
  by_cases c10 : (I 92 a1.toNatClampNeg) = 4
  · replace h := zifp c10 h
    refine aw_tableIn X 3 67 dX7_freezes_6 (by rw [c10]; rfl) (by decide) rfl rfl ?_
    refine aw_aload_n X 0 dX7_freezes_67 rfl ?_
    refine aw_bipush (v := 51) X dX7_freezes_68 (by decide) ?_
    refine aw_callV X (as := [vI 51]) mf_X7_ran zw_1433 h zs_87 rfl rfl (by decide) (Nat.le_of_ble_eq_true rfl) dX7_freezes_70 (fun v I11 L11 h => ?_)
    obtain ⟨rfl, h⟩ := h
    refine aw_aload_n X 0 dX7_freezes_73 rfl ?_
    refine aw_bipush (v := 10) X dX7_freezes_74 (by decide) ?_
    refine aw_callV X (as := [vI 10]) mf_X7_ran zw_1433 h zs_87 rfl rfl (by decide) (Nat.le_of_ble_eq_true rfl) dX7_freezes_76 (fun v I12 L12 h => ?_)
    obtain ⟨rfl, h⟩ := h
    refine aw_iload_n X 2 dX7_freezes_79 rfl ?_
    refine aw_iload_n X 1 dX7_freezes_80 rfl ?_
    refine aw_iadd X dX7_freezes_81 ?_
    refine aw_iload_n X 1 dX7_freezes_82 rfl ?_
    refine aw_isub X dX7_freezes_83 ?_
    exact aw_iret X E rfl dX7_freezes_84 h
  replace h := zifn c10 h
  by_cases c13 : (I 92 a1.toNatClampNeg) = 5
  · replace h := zifp c13 h
    refine aw_tableIn X 4 44 dX7_freezes_6 (by rw [c13]; rfl) (by decide) rfl rfl ?_
    refine aw_aload_n X 0 dX7_freezes_44 rfl ?_
    refine aw_bipush (v := 20) X dX7_freezes_45 (by decide) ?_
    refine aw_callV X (as := [vI 20]) mf_X7_ran zw_1433 h zs_87 rfl rfl (by decide) (Nat.le_of_ble_eq_true rfl) dX7_freezes_47 (fun v I14 L14 h => ?_)
    obtain ⟨rfl, h⟩ := h
    refine aw_aload_n X 0 dX7_freezes_50 rfl ?_
    refine aw_bipush (v := 10) X dX7_freezes_51 (by decide) ?_
    refine aw_callV X (as := [vI 10]) mf_X7_ran zw_1433 h zs_87 rfl rfl (by decide) (Nat.le_of_ble_eq_true rfl) dX7_freezes_53 (fun v I15 L15 h => ?_)
    obtain ⟨rfl, h⟩ := h
    refine aw_iload_n X 2 dX7_freezes_56 rfl ?_
    refine aw_iload_n X 1 dX7_freezes_57 rfl ?_
    refine aw_iadd X dX7_freezes_58 ?_
    refine aw_aload_n X 0 dX7_freezes_59 rfl ?_
    refine aw_getR X zf_RX7_29 rfl zs_87 zr_87_8 dX7_freezes_60 ?_
    refine aw_iload_n X 1 dX7_freezes_63 rfl ?_
    refine aw_ialdj (j := a1.toNatClampNeg) X zs_94 n1 rfl dX7_freezes_64 ?_
    refine aw_iadd X dX7_freezes_65 ?_
    exact aw_iret X E rfl dX7_freezes_66 h
  replace h := zifn c13 h
  by_cases c16 : (I 92 a1.toNatClampNeg) = 6
  · replace h := zifp c16 h
    refine aw_tableIn X 5 85 dX7_freezes_6 (by rw [c16]; rfl) (by decide) rfl rfl ?_
    refine aw_aload_n X 0 dX7_freezes_85 rfl ?_
    refine aw_bipush (v := 70) X dX7_freezes_86 (by decide) ?_
    refine aw_callV X (as := [vI 70]) mf_X7_ran zw_1433 h zs_87 rfl rfl (by decide) (Nat.le_of_ble_eq_true rfl) dX7_freezes_88 (fun v I17 L17 h => ?_)
    obtain ⟨rfl, h⟩ := h
    refine aw_aload_n X 0 dX7_freezes_91 rfl ?_
    refine aw_bipush (v := 10) X dX7_freezes_92 (by decide) ?_
    refine aw_callV X (as := [vI 10]) mf_X7_ran zw_1433 h zs_87 rfl rfl (by decide) (Nat.le_of_ble_eq_true rfl) dX7_freezes_94 (fun v I18 L18 h => ?_)
    obtain ⟨rfl, h⟩ := h
    refine aw_iload_n X 2 dX7_freezes_97 rfl ?_
    refine aw_iload_n X 1 dX7_freezes_98 rfl ?_
    refine aw_iadd X dX7_freezes_99 ?_
    refine aw_iconst (v := 2) X dX7_freezes_100 (by decide) ?_
    refine aw_imul X dX7_freezes_101 ?_
    exact aw_iret X E rfl dX7_freezes_102 h
  replace h := zifn c16 h
  have e0 := ztn (n := 1) rfl c3
  have e1 := ztn (n := 2) rfl c6
  have e2 := ztn (n := 3) rfl c8
  have e3 := ztn (n := 4) rfl c10
  have e4 := ztn (n := 5) rfl c13
  have e5 := ztn (n := 6) rfl c16
  refine aw_tableOut X 103 dX7_freezes_6 (by omega) rfl ?_
  refine aw_aload_n X 0 dX7_freezes_103 rfl ?_
  refine aw_bipush (v := 10) X dX7_freezes_104 (by decide) ?_
  refine aw_callV X (as := [vI 10]) mf_X7_ran zw_1433 h zs_87 rfl rfl (by decide) (Nat.le_of_ble_eq_true rfl) dX7_freezes_106 (fun v I19 L19 h => ?_)
  obtain ⟨rfl, h⟩ := h
  refine aw_iload_n X 2 dX7_freezes_109 rfl ?_
  refine aw_iload_n X 1 dX7_freezes_110 rfl ?_
  refine aw_iadd X dX7_freezes_111 ?_
  exact aw_iret X E rfl dX7_freezes_112 h
def v_X7_within (a1 : Int32) (a2 : Int32) (a3 : Int32) : Int32 := if a1 < a2 then 0 else if a3 < a1 then 0 else (1 : Int32)
set_option maxRecDepth 100000 in
theorem p_X7_within {l : Launch} {g : zG} {I : zI} {L : zL} {a1 : Int32} {a2 : Int32} {a3 : Int32}  : Call l g 1 M_X7_within [vI a1, vI a2, vI a3] I L (zp (some (vI (v_X7_within a1 a2 a3))) I L) := by
  refine aw_entry (by decide) (Nat.le_of_ble_eq_true rfl) (fun k hk (X : zX k g cX7_within RX7 3 (some .boolean) 1) E => ?_)
  show AW k g 3 I L 0 [(0, vI a1), (1, vI a2), (2, vI a3)] []
  subst hk
  have hJ : ∀ w1 : Int32, w1 = (if a1 < a2 then 0 else if a3 < a1 then 0 else (1 : Int32)) → zp (some (vI (v_X7_within a1 a2 a3))) I L (some (vI w1)) I L := fun w1 e1 => ⟨by rw [e1]; rfl, rfl, rfl⟩
  refine aw_iload_n X 0 dX7_within_0 rfl ?_
  refine aw_iload_n X 1 dX7_within_1 rfl ?_
  have hJ3 : ∀ (w1 : Int32), w1 = (if a1 < a2 then 0 else if a3 < a1 then 0 else (1 : Int32)) → AW k g 3 I L 15 [] [vI w1] := by
    intro w1 q1
    subst q1
    exact aw_zret X E rfl (by (repeat' split) <;> first | exact Or.inl rfl | exact Or.inr rfl) dX7_within_15 (hJ _ rfl)
  refine aw_icmp_lt X 14 dX7_within_2 rfl (fun c1 => ?_) (fun c1 => ?_)
  · refine aw_iconst (v := 0) X dX7_within_14 (by decide) ?_
    refine aw_perm (ks9 := []) [] rfl ?_
    exact hJ3 _ (if_pos c1).symm
  · refine aw_iload_n X 0 dX7_within_5 rfl ?_
    refine aw_iload_n X 2 dX7_within_6 rfl ?_
    refine aw_icmp_gt X 14 dX7_within_7 rfl (fun c2 => ?_) (fun c2 => ?_)
    · refine aw_iconst (v := 0) X dX7_within_14 (by decide) ?_
      refine aw_perm (ks9 := []) [] rfl ?_
      exact hJ3 _ ((if_pos c2).symm.trans (if_neg c1).symm)
    · refine aw_iconst (v := 1) X dX7_within_10 (by decide) ?_
      refine aw_goto X 15 dX7_within_11 rfl ?_
      refine aw_perm (ks9 := []) [] rfl ?_
      exact hJ3 _ ((if_neg c2).symm.trans (if_neg c1).symm)
theorem b_X7_within {a1 : Int32} {a2 : Int32} {a3 : Int32} : v_X7_within a1 a2 a3 = 0 ∨ v_X7_within a1 a2 a3 = 1 := by
  unfold v_X7_within
  repeat' split
  all_goals first | exact Or.inl rfl | exact Or.inr rfl
theorem zin_within {a b : Int32} {n : Nat} (h : ¬ v_X7_within a 0 b = 0) (hb : b.toInt + 1 ≤ n) : vp_in a n := by
  unfold v_X7_within at h
  split at h
  · exact absurd rfl h
  · rename_i c1
    split at h
    · exact absurd rfl h
    · rename_i c2
      rintro (c | c)
      · exact c1 c
      · have a1 := Int32.not_lt.mp c2
        have a2 := Int32.le_iff_toInt_le.mp a1
        have b1 := Int32.le_iff_toInt_le.mp (Int32.not_lt.mp c1)
        have b2 : (0 : Int) ≤ a.toInt := by simpa using b1
        have e : a.toNatClampNeg = a.toInt.toNat := rfl
        omega
def v_X7_isPane (I : zI) (a1 : Int32) : Int32 := v_X7_within a1 0 ((I 87 5) - 1)
set_option maxRecDepth 100000 in
theorem p_X7_isPane {l : Launch} {g : zG} {I : zI} {L : zL} {a1 : Int32}  : Call l g 2 M_X7_isPane [vR 87, vI a1] I L (zp (some (vI (v_X7_isPane I a1))) I L) := by
  refine aw_entry (by decide) (Nat.le_of_ble_eq_true rfl) (fun k hk (X : zX k g cX7_isPane RX7 2 (some .boolean) 2) E => ?_)
  show AW k g 2 I L 0 [(0, vR 87), (1, vI a1)] []
  subst hk
  have hJ : ∀ w1 : Int32, w1 = (v_X7_within a1 0 ((I 87 5) - 1)) → zp (some (vI (v_X7_isPane I a1))) I L (some (vI w1)) I L := fun w1 e1 => ⟨by rw [e1]; rfl, rfl, rfl⟩
  refine aw_iload_n X 1 dX7_isPane_0 rfl ?_
  refine aw_iconst (v := 0) X dX7_isPane_1 (by decide) ?_
  refine aw_aload_n X 0 dX7_isPane_2 rfl ?_
  refine aw_getI X zf_RX7_84 rfl zs_87 dX7_isPane_3 ?_
  refine aw_iconst (v := 1) X dX7_isPane_6 (by decide) ?_
  refine aw_isub X dX7_isPane_7 ?_
  refine aw_pS X (as := [vI a1, vI 0, vI ((I 87 5) - 1)]) mf_X7_within zw_1134 (p_X7_within) rfl rfl (by decide) (Nat.le_of_ble_eq_true rfl) dX7_isPane_8 ?_
  exact aw_zret X E rfl (b_X7_within) dX7_isPane_11 (hJ _ rfl)
theorem b_X7_isPane {I : zI} {a1 : Int32} : v_X7_isPane I a1 = 0 ∨ v_X7_isPane I a1 = 1 := by unfold v_X7_isPane; exact (b_X7_within)
set_option maxRecDepth 100000 in
theorem m_X7_melts0 {l : Launch} {g : zG} {Q : Option zv → zI → zL → Prop} {I : zI} {L : zL} {a1 : Int32} {a2 : Int32}  (h : Call l g 1 M_X7_ran [vR 87, vI 11] I L (zn fun I1 L1 => Call l g 2 M_X7_freezes [vR 87, vI a1, vI a2] I1 L1 (zi fun r2 I2 L2 => Q (some (vI (r2 * 2))) I2 L2))) : Call l g 3 M_X7_melts0 [vR 87, vI a1, vI a2] I L Q := by
  refine aw_entry (by decide) (Nat.le_of_ble_eq_true rfl) (fun k hk (X : zX k g cX7_melts0 RX7 3 (some .int) 3) E => ?_)
  show AW k g 3 I L 0 [(0, vR 87), (1, vI a1), (2, vI a2)] []
  subst hk
  refine aw_aload_n X 0 dX7_melts0_0 rfl ?_
  refine aw_bipush (v := 11) X dX7_melts0_1 (by decide) ?_
  refine aw_callV X (as := [vI 11]) mf_X7_ran zw_1433 h zs_87 rfl rfl (by decide) (Nat.le_of_ble_eq_true rfl) dX7_melts0_3 (fun v I1 L1 h => ?_)
  obtain ⟨rfl, h⟩ := h
  refine aw_aload_n X 0 dX7_melts0_6 rfl ?_
  refine aw_iload_n X 1 dX7_melts0_7 rfl ?_
  refine aw_iload_n X 2 dX7_melts0_8 rfl ?_
  refine aw_callV X (as := [vI a1, vI a2]) mf_X7_freezes zw_1429 h zs_87 rfl rfl (by decide) (Nat.le_of_ble_eq_true rfl) dX7_melts0_9 (fun v I2 L2 h => ?_)
  obtain ⟨r2, rfl, h⟩ := h
  refine aw_iconst (v := 2) X dX7_melts0_12 (by decide) ?_
  refine aw_imul X dX7_melts0_13 ?_
  exact aw_iret X E rfl dX7_melts0_14 h
set_option maxRecDepth 100000 in
theorem m_X7_melts2 {l : Launch} {g : zG} {Q : Option zv → zI → zL → Prop} {I : zI} {L : zL} {a1 : Int32} {a2 : Int32}  (h : Call l g 1 M_X7_ran [vR 87, vI 30] I L (zn fun I1 L1 => Call l g 3 M_X7_melts0 [vR 87, vI a1, vI a2] I1 L1 (zi fun r2 I2 L2 => Q (some (vI (r2 * 3))) I2 L2))) : Call l g 4 M_X7_melts2 [vR 87, vI a1, vI a2] I L Q := by
  refine aw_entry (by decide) (Nat.le_of_ble_eq_true rfl) (fun k hk (X : zX k g cX7_melts2 RX7 3 (some .int) 4) E => ?_)
  show AW k g 3 I L 0 [(0, vR 87), (1, vI a1), (2, vI a2)] []
  subst hk
  refine aw_aload_n X 0 dX7_melts2_0 rfl ?_
  refine aw_bipush (v := 30) X dX7_melts2_1 (by decide) ?_
  refine aw_callV X (as := [vI 30]) mf_X7_ran zw_1433 h zs_87 rfl rfl (by decide) (Nat.le_of_ble_eq_true rfl) dX7_melts2_3 (fun v I1 L1 h => ?_)
  obtain ⟨rfl, h⟩ := h
  refine aw_aload_n X 0 dX7_melts2_6 rfl ?_
  refine aw_iload_n X 1 dX7_melts2_7 rfl ?_
  refine aw_iload_n X 2 dX7_melts2_8 rfl ?_
  refine aw_callV X (as := [vI a1, vI a2]) mf_X7_melts0 zw_1445 h zs_87 rfl rfl (by decide) (Nat.le_of_ble_eq_true rfl) dX7_melts2_9 (fun v I2 L2 h => ?_)
  obtain ⟨r2, rfl, h⟩ := h
  refine aw_iconst (v := 3) X dX7_melts2_12 (by decide) ?_
  refine aw_imul X dX7_melts2_13 ?_
  exact aw_iret X E rfl dX7_melts2_14 h
set_option maxRecDepth 100000 in
theorem m_X7_melts3 {l : Launch} {g : zG} {Q : Option zv → zI → zL → Prop} {I : zI} {L : zL} {a1 : Int32} {a2 : Int32}  (h : Call l g 1 M_X7_ran [vR 87, vI 40] I L (zn fun I1 L1 => Call l g 4 M_X7_melts2 [vR 87, vI a1, vI (a2 + 1)] I1 L1 (zi fun r2 I2 L2 => Q (some (vI r2)) I2 L2))) : Call l g 5 M_X7_melts3 [vR 87, vI a1, vI a2] I L Q := by
  refine aw_entry (by decide) (Nat.le_of_ble_eq_true rfl) (fun k hk (X : zX k g cX7_melts3 RX7 3 (some .int) 5) E => ?_)
  show AW k g 3 I L 0 [(0, vR 87), (1, vI a1), (2, vI a2)] []
  subst hk
  refine aw_aload_n X 0 dX7_melts3_0 rfl ?_
  refine aw_bipush (v := 40) X dX7_melts3_1 (by decide) ?_
  refine aw_callV X (as := [vI 40]) mf_X7_ran zw_1433 h zs_87 rfl rfl (by decide) (Nat.le_of_ble_eq_true rfl) dX7_melts3_3 (fun v I1 L1 h => ?_)
  obtain ⟨rfl, h⟩ := h
  refine aw_aload_n X 0 dX7_melts3_6 rfl ?_
  refine aw_iload_n X 1 dX7_melts3_7 rfl ?_
  refine aw_iload_n X 2 dX7_melts3_8 rfl ?_
  refine aw_iconst (v := 1) X dX7_melts3_9 (by decide) ?_
  refine aw_iadd X dX7_melts3_10 ?_
  refine aw_callV X (as := [vI a1, vI (a2 + 1)]) mf_X7_melts2 zw_1441 h zs_87 rfl rfl (by decide) (Nat.le_of_ble_eq_true rfl) dX7_melts3_11 (fun v I2 L2 h => ?_)
  obtain ⟨r2, rfl, h⟩ := h
  exact aw_iret X E rfl dX7_melts3_14 h
set_option maxRecDepth 100000 in
theorem m_X7_meltsAct {l : Launch} {g : zG} {Q : Option zv → zI → zL → Prop} {I : zI} {L : zL} {a1 : Int32} {a2 : Int32}  (h : vp_in a1 8 ∧ (if (I 92 a1.toNatClampNeg) = 2 then (Call l g 4 M_X7_melts2 [vR 87, vI a1, vI a2] I L (zi fun r4 I4 L4 => Q (some (vI r4)) I4 L4)) else if (I 92 a1.toNatClampNeg) = 3 then (Call l g 5 M_X7_melts3 [vR 87, vI a1, vI a2] I L (zi fun r6 I6 L6 => Q (some (vI r6)) I6 L6)) else if (I 92 a1.toNatClampNeg) = 4 then (Call l g 3 M_X7_melts0 [vR 87, vI a1, vI a2] I L (zi fun r8 I8 L8 => Q (some (vI r8)) I8 L8)) else if (I 92 a1.toNatClampNeg) = 5 then (Call l g 3 M_X7_melts0 [vR 87, vI a1, vI a2] I L (zi fun r10 I10 L10 => Q (some (vI r10)) I10 L10)) else if (I 92 a1.toNatClampNeg) = 6 then (Call l g 1 M_X7_ran [vR 87, vI 71] I L (zn fun I12 L12 => Call l g 5 M_X7_melts3 [vR 87, vI a1, vI (a2 - (I12 94 a1.toNatClampNeg))] I12 L12 (zi fun r13 I13 L13 => Q (some (vI r13)) I13 L13))) else (Call l g 3 M_X7_melts0 [vR 87, vI a1, vI a2] I L (zi fun r14 I14 L14 => Q (some (vI r14)) I14 L14)))) : Call l g 6 M_X7_meltsAct [vR 87, vI a1, vI a2] I L Q := by
  refine aw_entry (by decide) (Nat.le_of_ble_eq_true rfl) (fun k hk (X : zX k g cX7_meltsAct RX7 3 (some .int) 6) E => ?_)
  show AW k g 3 I L 0 [(0, vR 87), (1, vI a1), (2, vI a2)] []
  subst hk
  refine aw_aload_n X 0 dX7_meltsAct_0 rfl ?_
  refine aw_getR X zf_RX7_23 rfl zs_87 zr_87_6 dX7_meltsAct_1 ?_
  refine aw_iload_n X 1 dX7_meltsAct_4 rfl ?_
  have n1 := h.1
  replace h := h.2
  refine aw_ialdj (j := a1.toNatClampNeg) X zs_92 n1 rfl dX7_meltsAct_5 ?_
  by_cases c3 : (I 92 a1.toNatClampNeg) = 2
  · replace h := zifp c3 h
    refine aw_tableIn X 0 40 dX7_meltsAct_6 (by rw [c3]; rfl) (by decide) rfl rfl ?_
    refine aw_aload_n X 0 dX7_meltsAct_40 rfl ?_
    refine aw_iload_n X 1 dX7_meltsAct_41 rfl ?_
    refine aw_iload_n X 2 dX7_meltsAct_42 rfl ?_
    refine aw_callV X (as := [vI a1, vI a2]) mf_X7_melts2 zw_1441 h zs_87 rfl rfl (by decide) (Nat.le_of_ble_eq_true rfl) dX7_meltsAct_43 (fun v I4 L4 h => ?_)
    obtain ⟨r4, rfl, h⟩ := h
    exact aw_iret X E rfl dX7_meltsAct_46 h
  replace h := zifn c3 h
  by_cases c5 : (I 92 a1.toNatClampNeg) = 3
  · replace h := zifp c5 h
    refine aw_tableIn X 1 47 dX7_meltsAct_6 (by rw [c5]; rfl) (by decide) rfl rfl ?_
    refine aw_aload_n X 0 dX7_meltsAct_47 rfl ?_
    refine aw_iload_n X 1 dX7_meltsAct_48 rfl ?_
    refine aw_iload_n X 2 dX7_meltsAct_49 rfl ?_
    refine aw_callV X (as := [vI a1, vI a2]) mf_X7_melts3 zw_1449 h zs_87 rfl rfl (by decide) (Nat.le_of_ble_eq_true rfl) dX7_meltsAct_50 (fun v I6 L6 h => ?_)
    obtain ⟨r6, rfl, h⟩ := h
    exact aw_iret X E rfl dX7_meltsAct_53 h
  replace h := zifn c5 h
  by_cases c7 : (I 92 a1.toNatClampNeg) = 4
  · replace h := zifp c7 h
    refine aw_tableIn X 2 74 dX7_meltsAct_6 (by rw [c7]; rfl) (by decide) rfl rfl ?_
    refine aw_aload_n X 0 dX7_meltsAct_74 rfl ?_
    refine aw_iload_n X 1 dX7_meltsAct_75 rfl ?_
    refine aw_iload_n X 2 dX7_meltsAct_76 rfl ?_
    refine aw_callV X (as := [vI a1, vI a2]) mf_X7_melts0 zw_1445 h zs_87 rfl rfl (by decide) (Nat.le_of_ble_eq_true rfl) dX7_meltsAct_77 (fun v I8 L8 h => ?_)
    obtain ⟨r8, rfl, h⟩ := h
    exact aw_iret X E rfl dX7_meltsAct_80 h
  replace h := zifn c7 h
  by_cases c9 : (I 92 a1.toNatClampNeg) = 5
  · replace h := zifp c9 h
    refine aw_tableIn X 3 74 dX7_meltsAct_6 (by rw [c9]; rfl) (by decide) rfl rfl ?_
    refine aw_aload_n X 0 dX7_meltsAct_74 rfl ?_
    refine aw_iload_n X 1 dX7_meltsAct_75 rfl ?_
    refine aw_iload_n X 2 dX7_meltsAct_76 rfl ?_
    refine aw_callV X (as := [vI a1, vI a2]) mf_X7_melts0 zw_1445 h zs_87 rfl rfl (by decide) (Nat.le_of_ble_eq_true rfl) dX7_meltsAct_77 (fun v I10 L10 h => ?_)
    obtain ⟨r10, rfl, h⟩ := h
    exact aw_iret X E rfl dX7_meltsAct_80 h
  replace h := zifn c9 h
  by_cases c11 : (I 92 a1.toNatClampNeg) = 6
  · replace h := zifp c11 h
    refine aw_tableIn X 4 54 dX7_meltsAct_6 (by rw [c11]; rfl) (by decide) rfl rfl ?_
    refine aw_aload_n X 0 dX7_meltsAct_54 rfl ?_
    refine aw_bipush (v := 71) X dX7_meltsAct_55 (by decide) ?_
    refine aw_callV X (as := [vI 71]) mf_X7_ran zw_1433 h zs_87 rfl rfl (by decide) (Nat.le_of_ble_eq_true rfl) dX7_meltsAct_57 (fun v I12 L12 h => ?_)
    obtain ⟨rfl, h⟩ := h
    refine aw_aload_n X 0 dX7_meltsAct_60 rfl ?_
    refine aw_iload_n X 1 dX7_meltsAct_61 rfl ?_
    refine aw_iload_n X 2 dX7_meltsAct_62 rfl ?_
    refine aw_aload_n X 0 dX7_meltsAct_63 rfl ?_
    refine aw_getR X zf_RX7_29 rfl zs_87 zr_87_8 dX7_meltsAct_64 ?_
    refine aw_iload_n X 1 dX7_meltsAct_67 rfl ?_
    refine aw_ialdj (j := a1.toNatClampNeg) X zs_94 n1 rfl dX7_meltsAct_68 ?_
    refine aw_isub X dX7_meltsAct_69 ?_
    refine aw_callV X (as := [vI a1, vI (a2 - (I12 94 a1.toNatClampNeg))]) mf_X7_melts3 zw_1449 h zs_87 rfl rfl (by decide) (Nat.le_of_ble_eq_true rfl) dX7_meltsAct_70 (fun v I13 L13 h => ?_)
    obtain ⟨r13, rfl, h⟩ := h
    exact aw_iret X E rfl dX7_meltsAct_73 h
  replace h := zifn c11 h
  have e0 := ztn (n := 2) rfl c3
  have e1 := ztn (n := 3) rfl c5
  have e2 := ztn (n := 4) rfl c7
  have e3 := ztn (n := 5) rfl c9
  have e4 := ztn (n := 6) rfl c11
  refine aw_tableOut X 74 dX7_meltsAct_6 (by omega) rfl ?_
  refine aw_aload_n X 0 dX7_meltsAct_74 rfl ?_
  refine aw_iload_n X 1 dX7_meltsAct_75 rfl ?_
  refine aw_iload_n X 2 dX7_meltsAct_76 rfl ?_
  refine aw_callV X (as := [vI a1, vI a2]) mf_X7_melts0 zw_1445 h zs_87 rfl rfl (by decide) (Nat.le_of_ble_eq_true rfl) dX7_meltsAct_77 (fun v I14 L14 h => ?_)
  obtain ⟨r14, rfl, h⟩ := h
  exact aw_iret X E rfl dX7_meltsAct_80 h
set_option maxRecDepth 100000 in
theorem m_X7_shows0 {l : Launch} {g : zG} {Q : Option zv → zI → zL → Prop} {I : zI} {L : zL} {a1 : Int32} {a2 : Int32}  (h : Call l g 1 M_X7_ran [vR 87, vI 12] I L (zn fun I1 L1 => Call l g 6 M_X7_meltsAct [vR 87, vI a1, vI a2] I1 L1 (zi fun r2 I2 L2 => vp_in a1 8 ∧ (Call l g 2 M_X7_freezes [vR 87, vI a1, vI (a2 - (I2 94 a1.toNatClampNeg))] I2 L2 (zi fun r4 I4 L4 => Q (some (vI (r2 ^^^ r4))) I4 L4))))) : Call l g 7 M_X7_shows0 [vR 87, vI a1, vI a2] I L Q := by
  refine aw_entry (by decide) (Nat.le_of_ble_eq_true rfl) (fun k hk (X : zX k g cX7_shows0 RX7 4 (some .int) 7) E => ?_)
  show AW k g 4 I L 0 [(0, vR 87), (1, vI a1), (2, vI a2)] []
  subst hk
  refine aw_aload_n X 0 dX7_shows0_0 rfl ?_
  refine aw_bipush (v := 12) X dX7_shows0_1 (by decide) ?_
  refine aw_callV X (as := [vI 12]) mf_X7_ran zw_1433 h zs_87 rfl rfl (by decide) (Nat.le_of_ble_eq_true rfl) dX7_shows0_3 (fun v I1 L1 h => ?_)
  obtain ⟨rfl, h⟩ := h
  refine aw_aload_n X 0 dX7_shows0_6 rfl ?_
  refine aw_iload_n X 1 dX7_shows0_7 rfl ?_
  refine aw_iload_n X 2 dX7_shows0_8 rfl ?_
  refine aw_callV X (as := [vI a1, vI a2]) mf_X7_meltsAct zw_1437 h zs_87 rfl rfl (by decide) (Nat.le_of_ble_eq_true rfl) dX7_shows0_9 (fun v I2 L2 h => ?_)
  obtain ⟨r2, rfl, h⟩ := h
  refine aw_istore_n X dX7_shows0_12 (by decide) rfl ?_
  refine aw_iload_n X 0 dX7_shows0_13 rfl ?_
  refine aw_aload_n X 1 dX7_shows0_14 rfl ?_
  refine aw_iload_n X 2 dX7_shows0_15 rfl ?_
  refine aw_iload_n X 3 dX7_shows0_16 rfl ?_
  refine aw_aload_n X 1 dX7_shows0_17 rfl ?_
  refine aw_getR X zf_RX7_29 rfl zs_87 zr_87_8 dX7_shows0_18 ?_
  refine aw_iload_n X 2 dX7_shows0_21 rfl ?_
  have n3 := h.1
  replace h := h.2
  refine aw_ialdj (j := a1.toNatClampNeg) X zs_94 n3 rfl dX7_shows0_22 ?_
  refine aw_isub X dX7_shows0_23 ?_
  refine aw_callV X (as := [vI a1, vI (a2 - (I2 94 a1.toNatClampNeg))]) mf_X7_freezes zw_1429 h zs_87 rfl rfl (by decide) (Nat.le_of_ble_eq_true rfl) dX7_shows0_24 (fun v I4 L4 h => ?_)
  obtain ⟨r4, rfl, h⟩ := h
  refine aw_ixor X dX7_shows0_27 ?_
  exact aw_iret X E rfl dX7_shows0_28 h
set_option maxRecDepth 100000 in
theorem m_X7_shows {l : Launch} {g : zG} {Q : Option zv → zI → zL → Prop} {I : zI} {L : zL} {a1 : Int32} {a2 : Int32}  (h : vp_in a1 8 ∧ (if (I 92 a1.toNatClampNeg) = 4 then (Call l g 1 M_X7_ran [vR 87, vI 50] I L (zn fun I7 L7 => Call l g 7 M_X7_shows0 [vR 87, vI a1, vI a2] I7 L7 (zi fun r8 I8 L8 => Q (some (vI (-r8))) I8 L8))) else (if (I 92 a1.toNatClampNeg) = 5 then (Call l g 1 M_X7_ran [vR 87, vI 60] I L (zn fun I5 L5 => Call l g 7 M_X7_shows0 [vR 87, vI a1, vI a2] I5 L5 (zi fun r6 I6 L6 => Q (some (vI (r6 ^^^ 5))) I6 L6))) else (Call l g 7 M_X7_shows0 [vR 87, vI a1, vI a2] I L (zi fun r4 I4 L4 => Q (some (vI r4)) I4 L4))))) : Call l g 8 M_X7_shows [vR 87, vI a1, vI a2] I L Q := by
  refine aw_entry (by decide) (Nat.le_of_ble_eq_true rfl) (fun k hk (X : zX k g cX7_shows RX7 3 (some .int) 8) E => ?_)
  show AW k g 3 I L 0 [(0, vR 87), (1, vI a1), (2, vI a2)] []
  subst hk
  refine aw_aload_n X 0 dX7_shows_0 rfl ?_
  refine aw_getR X zf_RX7_23 rfl zs_87 zr_87_6 dX7_shows_1 ?_
  refine aw_iload_n X 1 dX7_shows_4 rfl ?_
  have n1 := h.1
  replace h := h.2
  refine aw_ialdj (j := a1.toNatClampNeg) X zs_92 n1 rfl dX7_shows_5 ?_
  refine aw_iconst (v := 4) X dX7_shows_6 (by decide) ?_
  refine aw_icmp_ne X 24 dX7_shows_7 rfl (fun c2 => ?_) (fun c2 => ?_)
  · replace h := zifn c2 h
    refine aw_aload_n X 0 dX7_shows_24 rfl ?_
    refine aw_getR X zf_RX7_23 rfl zs_87 zr_87_6 dX7_shows_25 ?_
    refine aw_iload_n X 1 dX7_shows_28 rfl ?_
    refine aw_ialdj (j := a1.toNatClampNeg) X zs_92 n1 rfl dX7_shows_29 ?_
    refine aw_iconst (v := 5) X dX7_shows_30 (by decide) ?_
    refine aw_icmp_ne X 49 dX7_shows_31 rfl (fun c3 => ?_) (fun c3 => ?_)
    · replace h := zifn c3 h
      refine aw_aload_n X 0 dX7_shows_49 rfl ?_
      refine aw_iload_n X 1 dX7_shows_50 rfl ?_
      refine aw_iload_n X 2 dX7_shows_51 rfl ?_
      refine aw_callV X (as := [vI a1, vI a2]) mf_X7_shows0 zw_1457 h zs_87 rfl rfl (by decide) (Nat.le_of_ble_eq_true rfl) dX7_shows_52 (fun v I4 L4 h => ?_)
      obtain ⟨r4, rfl, h⟩ := h
      exact aw_iret X E rfl dX7_shows_55 h
    · replace h := zifp c3 h
      refine aw_aload_n X 0 dX7_shows_34 rfl ?_
      refine aw_bipush (v := 60) X dX7_shows_35 (by decide) ?_
      refine aw_callV X (as := [vI 60]) mf_X7_ran zw_1433 h zs_87 rfl rfl (by decide) (Nat.le_of_ble_eq_true rfl) dX7_shows_37 (fun v I5 L5 h => ?_)
      obtain ⟨rfl, h⟩ := h
      refine aw_aload_n X 0 dX7_shows_40 rfl ?_
      refine aw_iload_n X 1 dX7_shows_41 rfl ?_
      refine aw_iload_n X 2 dX7_shows_42 rfl ?_
      refine aw_callV X (as := [vI a1, vI a2]) mf_X7_shows0 zw_1457 h zs_87 rfl rfl (by decide) (Nat.le_of_ble_eq_true rfl) dX7_shows_43 (fun v I6 L6 h => ?_)
      obtain ⟨r6, rfl, h⟩ := h
      refine aw_iconst (v := 5) X dX7_shows_46 (by decide) ?_
      refine aw_ixor X dX7_shows_47 ?_
      exact aw_iret X E rfl dX7_shows_48 h
  · replace h := zifp c2 h
    refine aw_aload_n X 0 dX7_shows_10 rfl ?_
    refine aw_bipush (v := 50) X dX7_shows_11 (by decide) ?_
    refine aw_callV X (as := [vI 50]) mf_X7_ran zw_1433 h zs_87 rfl rfl (by decide) (Nat.le_of_ble_eq_true rfl) dX7_shows_13 (fun v I7 L7 h => ?_)
    obtain ⟨rfl, h⟩ := h
    refine aw_aload_n X 0 dX7_shows_16 rfl ?_
    refine aw_iload_n X 1 dX7_shows_17 rfl ?_
    refine aw_iload_n X 2 dX7_shows_18 rfl ?_
    refine aw_callV X (as := [vI a1, vI a2]) mf_X7_shows0 zw_1457 h zs_87 rfl rfl (by decide) (Nat.le_of_ble_eq_true rfl) dX7_shows_19 (fun v I8 L8 h => ?_)
    obtain ⟨r8, rfl, h⟩ := h
    refine aw_ineg X dX7_shows_22 ?_
    exact aw_iret X E rfl dX7_shows_23 h
set_option maxRecDepth 100000 in
theorem m_X7_act {l : Launch} {g : zG} {Q : Option zv → zI → zL → Prop} {I : zI} {L : zL} {a1 : Int32} {a2 : Int32} {a3 : Int32}  (h : (∀ I1 : zI, I1 = (zs I 87 20 0) → if (v_X7_isPane I1 a1) = 0 then (Q (some (vI 0)) I1 L) else (if (v_X7_within a2 0 2) = 0 then (Q (some (vI 0)) I1 L) else (if a2 = 0 then (Call l g 2 M_X7_freezes [vR 87, vI a1, vI a3] I1 L (zi fun r8 I8 L8 => Q (some (vI r8)) I8 L8)) else (if a2 = 1 then (Call l g 6 M_X7_meltsAct [vR 87, vI a1, vI a3] I1 L (zi fun r7 I7 L7 => Q (some (vI r7)) I7 L7)) else (Call l g 8 M_X7_shows [vR 87, vI a1, vI a3] I1 L (zi fun r6 I6 L6 => Q (some (vI r6)) I6 L6))))))) : Call l g 9 M_X7_act [vR 87, vI a1, vI a2, vI a3] I L Q := by
  refine aw_entry (by decide) (Nat.le_of_ble_eq_true rfl) (fun k hk (X : zX k g cX7_act RX7 4 (some .int) 9) E => ?_)
  show AW k g 4 I L 0 [(0, vR 87), (1, vI a1), (2, vI a2), (3, vI a3)] []
  subst hk
  refine aw_aload_n X 0 dX7_act_0 rfl ?_
  refine aw_iconst (v := 0) X dX7_act_1 (by decide) ?_
  refine aw_putI X zf_RX7_232 rfl rfl rfl zs_87 dX7_act_2 ?_
  refine aw_aload_n X 0 dX7_act_5 rfl ?_
  refine aw_iload_n X 1 dX7_act_6 rfl ?_
  refine aw_nameI (fun I1 e1 => ?_)
  replace h := h I1 e1
  refine aw_pV X (as := [vI a1]) mf_X7_isPane zw_1165 (p_X7_isPane) zs_87 rfl rfl (by decide) (Nat.le_of_ble_eq_true rfl) dX7_act_7 ?_
  refine aw_if_eq X 22 dX7_act_10 rfl (fun c2 => ?_) (fun c2 => ?_)
  · replace h := zifp c2 h
    refine aw_iconst (v := 0) X dX7_act_22 (by decide) ?_
    exact aw_iret X E rfl dX7_act_23 h
  · replace h := zifn c2 h
    refine aw_iload_n X 2 dX7_act_13 rfl ?_
    refine aw_iconst (v := 0) X dX7_act_14 (by decide) ?_
    refine aw_iconst (v := 2) X dX7_act_15 (by decide) ?_
    refine aw_pS X (as := [vI a2, vI 0, vI 2]) mf_X7_within zw_1134 (p_X7_within) rfl rfl (by decide) (Nat.le_of_ble_eq_true rfl) dX7_act_16 ?_
    refine aw_if_ne X 24 dX7_act_19 rfl (fun c3 => ?_) (fun c3 => ?_)
    · replace h := zifn c3 h
      refine aw_iload_n X 2 dX7_act_24 rfl ?_
      refine aw_if_ne X 37 dX7_act_25 rfl (fun c4 => ?_) (fun c4 => ?_)
      · replace h := zifn c4 h
        refine aw_iload_n X 2 dX7_act_37 rfl ?_
        refine aw_iconst (v := 1) X dX7_act_38 (by decide) ?_
        refine aw_icmp_ne X 51 dX7_act_39 rfl (fun c5 => ?_) (fun c5 => ?_)
        · replace h := zifn c5 h
          refine aw_aload_n X 0 dX7_act_51 rfl ?_
          refine aw_iload_n X 1 dX7_act_52 rfl ?_
          refine aw_iload_n X 3 dX7_act_53 rfl ?_
          refine aw_callV X (as := [vI a1, vI a3]) mf_X7_shows zw_1453 h zs_87 rfl rfl (by decide) (Nat.le_of_ble_eq_true rfl) dX7_act_54 (fun v I6 L6 h => ?_)
          obtain ⟨r6, rfl, h⟩ := h
          exact aw_iret X E rfl dX7_act_57 h
        · replace h := zifp c5 h
          refine aw_aload_n X 0 dX7_act_42 rfl ?_
          refine aw_iload_n X 1 dX7_act_43 rfl ?_
          refine aw_iload_n X 3 dX7_act_44 rfl ?_
          refine aw_callV X (as := [vI a1, vI a3]) mf_X7_meltsAct zw_1437 h zs_87 rfl rfl (by decide) (Nat.le_of_ble_eq_true rfl) dX7_act_45 (fun v I7 L7 h => ?_)
          obtain ⟨r7, rfl, h⟩ := h
          refine aw_goto X 57 dX7_act_48 rfl ?_
          exact aw_iret X E rfl dX7_act_57 h
      · replace h := zifp c4 h
        refine aw_aload_n X 0 dX7_act_28 rfl ?_
        refine aw_iload_n X 1 dX7_act_29 rfl ?_
        refine aw_iload_n X 3 dX7_act_30 rfl ?_
        refine aw_callV X (as := [vI a1, vI a3]) mf_X7_freezes zw_1429 h zs_87 rfl rfl (by decide) (Nat.le_of_ble_eq_true rfl) dX7_act_31 (fun v I8 L8 h => ?_)
        obtain ⟨r8, rfl, h⟩ := h
        refine aw_goto X 57 dX7_act_34 rfl ?_
        exact aw_iret X E rfl dX7_act_57 h
    · replace h := zifp c3 h
      refine aw_iconst (v := 0) X dX7_act_22 (by decide) ?_
      exact aw_iret X E rfl dX7_act_23 h
set_option maxRecDepth 100000 in
theorem m_X7_no {l : Launch} {g : zG} {Q : Option zv → zI → zL → Prop} {I : zI} {L : zL} {a1 : Int32}  (h : vp_in (-a1) 8 ∧ (Q (some (vI a1)) (zs I 98 ((-a1).toNatClampNeg) ((I 98 ((-a1).toNatClampNeg)) + 1)) L)) : Call l g 1 M_X7_no [vR 87, vI a1] I L Q := by
  refine aw_entry (by decide) (Nat.le_of_ble_eq_true rfl) (fun k hk (X : zX k g cX7_no RX7 2 (some .int) 1) E => ?_)
  show AW k g 2 I L 0 [(0, vR 87), (1, vI a1)] []
  subst hk
  refine aw_aload_n X 0 dX7_no_0 rfl ?_
  refine aw_getR X zf_RX7_41 rfl zs_87 zr_87_19 dX7_no_1 ?_
  refine aw_iload_n X 1 dX7_no_4 rfl ?_
  refine aw_ineg X dX7_no_5 ?_
  refine aw_dup2 X dX7_no_6 rfl rfl ?_
  have n1 := h.1
  replace h := h.2
  refine aw_ialdj (j := (-a1).toNatClampNeg) X zs_98 n1 rfl dX7_no_7 ?_
  refine aw_iconst (v := 1) X dX7_no_8 (by decide) ?_
  refine aw_iadd X dX7_no_9 ?_
  refine aw_iastj (j := (-a1).toNatClampNeg) X zs_98 n1 rfl dX7_no_10 ?_
  refine aw_iload_n X 1 dX7_no_11 rfl ?_
  exact aw_iret X E rfl dX7_no_12 h
set_option maxRecDepth 100000 in
theorem m_X7_ask {l : Launch} {g : zG} {Q : Option zv → zI → zL → Prop} {I : zI} {L : zL} {a1 : Int32} {a2 : Int32}  (h : if (v_X7_within a1 0 2) = 0 then (Call l g 1 M_X7_no [vR 87, vI (-6)] I L (zi fun r2 I2 L2 => Q (some (vI r2)) I2 L2)) else (if (v_X7_within a2 0 (if a1 = 0 then 40 else (9 : Int32))) = 0 then (Call l g 1 M_X7_no [vR 87, vI (-6)] I L (zi fun r19 I19 L19 => Q (some (vI r19)) I19 L19)) else (if a1 = 0 then ((∀ I14 : zI, I14 = (zs I 87 12 a2) → if a1 = 1 then ((∀ I17 : zI, I17 = (zs I14 87 13 a2) → if a1 = 2 then (Q (some (vI (if a1 = 0 then I 87 12 else if a1 = 1 then I 87 13 else (I 87 14)))) (zs I17 87 14 a2) L) else (Q (some (vI (if a1 = 0 then I 87 12 else if a1 = 1 then I 87 13 else (I 87 14)))) I17 L))) else (if a1 = 2 then (Q (some (vI (if a1 = 0 then I 87 12 else if a1 = 1 then I 87 13 else (I 87 14)))) (zs I14 87 14 a2) L) else (Q (some (vI (if a1 = 0 then I 87 12 else if a1 = 1 then I 87 13 else (I 87 14)))) I14 L)))) else (if a1 = 1 then ((∀ I12 : zI, I12 = (zs I 87 13 a2) → if a1 = 2 then (Q (some (vI (if a1 = 0 then I 87 12 else if a1 = 1 then I 87 13 else (I 87 14)))) (zs I12 87 14 a2) L) else (Q (some (vI (if a1 = 0 then I 87 12 else if a1 = 1 then I 87 13 else (I 87 14)))) I12 L))) else (if a1 = 2 then (Q (some (vI (if a1 = 0 then I 87 12 else if a1 = 1 then I 87 13 else (I 87 14)))) (zs I 87 14 a2) L) else (Q (some (vI (if a1 = 0 then I 87 12 else if a1 = 1 then I 87 13 else (I 87 14)))) I L)))))) : Call l g 2 M_X7_ask [vR 87, vI a1, vI a2] I L Q := by
  refine aw_entry (by decide) (Nat.le_of_ble_eq_true rfl) (fun k hk (X : zX k g cX7_ask RX7 4 (some .int) 2) E => ?_)
  show AW k g 4 I L 0 [(0, vR 87), (1, vI a1), (2, vI a2)] []
  subst hk
  refine aw_iload_n X 1 dX7_ask_0 rfl ?_
  refine aw_iconst (v := 0) X dX7_ask_1 (by decide) ?_
  refine aw_iconst (v := 2) X dX7_ask_2 (by decide) ?_
  refine aw_pS X (as := [vI a1, vI 0, vI 2]) mf_X7_within zw_1134 (p_X7_within) rfl rfl (by decide) (Nat.le_of_ble_eq_true rfl) dX7_ask_3 ?_
  refine aw_if_eq X 28 dX7_ask_6 rfl (fun c1 => ?_) (fun c1 => ?_)
  · replace h := zifp c1 h
    refine aw_aload_n X 0 dX7_ask_28 rfl ?_
    refine aw_bipush (v := (-6)) X dX7_ask_29 (by decide) ?_
    refine aw_callV X (as := [vI (-6)]) mf_X7_no zw_1137 h zs_87 rfl rfl (by decide) (Nat.le_of_ble_eq_true rfl) dX7_ask_31 (fun v I2 L2 h => ?_)
    obtain ⟨r2, rfl, h⟩ := h
    exact aw_iret X E rfl dX7_ask_34 h
  · replace h := zifn c1 h
    refine aw_iload_n X 2 dX7_ask_9 rfl ?_
    refine aw_iconst (v := 0) X dX7_ask_10 (by decide) ?_
    refine aw_iload_n X 1 dX7_ask_11 rfl ?_
    have hJ4 : ∀ (w1 : Int32), w1 = (if a1 = 0 then 40 else (9 : Int32)) → AW k g 4 I L 22 [(0, vR 87), (1, vI a1), (2, vI a2)] [vI w1, vI 0, vI a2] := by
      intro w1 q1
      subst q1
      refine aw_pS X (as := [vI a2, vI 0, vI (if a1 = 0 then 40 else (9 : Int32))]) mf_X7_within zw_1134 (p_X7_within) rfl rfl (by decide) (Nat.le_of_ble_eq_true rfl) dX7_ask_22 ?_
      refine aw_if_ne X 35 dX7_ask_25 rfl (fun c5 => ?_) (fun c5 => ?_)
      · replace h := zifn c5 h
        refine aw_iload_n X 1 dX7_ask_35 rfl ?_
        have hJ8 : ∀ (w1 : Int32), w1 = (if a1 = 0 then I 87 12 else if a1 = 1 then I 87 13 else (I 87 14)) → AW k g 4 I L 62 [(0, vR 87), (1, vI a1), (2, vI a2)] [vI w1] := by
          intro w1 q1
          subst q1
          refine aw_istore_n X dX7_ask_62 (by decide) rfl ?_
          refine aw_iload_n X 2 dX7_ask_63 rfl ?_
          refine aw_if_ne X 72 dX7_ask_64 rfl (fun c9 => ?_) (fun c9 => ?_)
          · replace h := zifn c9 h
            refine aw_iload_n X 2 dX7_ask_72 rfl ?_
            refine aw_iconst (v := 1) X dX7_ask_73 (by decide) ?_
            refine aw_icmp_ne X 82 dX7_ask_74 rfl (fun c10 => ?_) (fun c10 => ?_)
            · replace h := zifn c10 h
              refine aw_iload_n X 2 dX7_ask_82 rfl ?_
              refine aw_iconst (v := 2) X dX7_ask_83 (by decide) ?_
              refine aw_icmp_ne X 92 dX7_ask_84 rfl (fun c11 => ?_) (fun c11 => ?_)
              · replace h := zifn c11 h
                refine aw_iload_n X 0 dX7_ask_92 rfl ?_
                exact aw_iret X E rfl dX7_ask_93 h
              · replace h := zifp c11 h
                refine aw_aload_n X 1 dX7_ask_87 rfl ?_
                refine aw_iload_n X 3 dX7_ask_88 rfl ?_
                refine aw_putI X zf_RX7_72 rfl rfl rfl zs_87 dX7_ask_89 ?_
                refine aw_iload_n X 0 dX7_ask_92 rfl ?_
                exact aw_iret X E rfl dX7_ask_93 h
            · replace h := zifp c10 h
              refine aw_aload_n X 1 dX7_ask_77 rfl ?_
              refine aw_iload_n X 3 dX7_ask_78 rfl ?_
              refine aw_putI X zf_RX7_69 rfl rfl rfl zs_87 dX7_ask_79 ?_
              refine aw_iload_n X 2 dX7_ask_82 rfl ?_
              refine aw_iconst (v := 2) X dX7_ask_83 (by decide) ?_
              refine aw_nameI (fun I12 e12 => ?_)
              replace h := h I12 e12
              refine aw_icmp_ne X 92 dX7_ask_84 rfl (fun c13 => ?_) (fun c13 => ?_)
              · replace h := zifn c13 h
                refine aw_iload_n X 0 dX7_ask_92 rfl ?_
                exact aw_iret X E rfl dX7_ask_93 h
              · replace h := zifp c13 h
                refine aw_aload_n X 1 dX7_ask_87 rfl ?_
                refine aw_iload_n X 3 dX7_ask_88 rfl ?_
                refine aw_putI X zf_RX7_72 rfl rfl rfl zs_87 dX7_ask_89 ?_
                refine aw_iload_n X 0 dX7_ask_92 rfl ?_
                exact aw_iret X E rfl dX7_ask_93 h
          · replace h := zifp c9 h
            refine aw_aload_n X 1 dX7_ask_67 rfl ?_
            refine aw_iload_n X 3 dX7_ask_68 rfl ?_
            refine aw_putI X zf_RX7_65 rfl rfl rfl zs_87 dX7_ask_69 ?_
            refine aw_iload_n X 2 dX7_ask_72 rfl ?_
            refine aw_iconst (v := 1) X dX7_ask_73 (by decide) ?_
            refine aw_nameI (fun I14 e14 => ?_)
            replace h := h I14 e14
            refine aw_icmp_ne X 82 dX7_ask_74 rfl (fun c15 => ?_) (fun c15 => ?_)
            · replace h := zifn c15 h
              refine aw_iload_n X 2 dX7_ask_82 rfl ?_
              refine aw_iconst (v := 2) X dX7_ask_83 (by decide) ?_
              refine aw_icmp_ne X 92 dX7_ask_84 rfl (fun c16 => ?_) (fun c16 => ?_)
              · replace h := zifn c16 h
                refine aw_iload_n X 0 dX7_ask_92 rfl ?_
                exact aw_iret X E rfl dX7_ask_93 h
              · replace h := zifp c16 h
                refine aw_aload_n X 1 dX7_ask_87 rfl ?_
                refine aw_iload_n X 3 dX7_ask_88 rfl ?_
                refine aw_putI X zf_RX7_72 rfl rfl rfl zs_87 dX7_ask_89 ?_
                refine aw_iload_n X 0 dX7_ask_92 rfl ?_
                exact aw_iret X E rfl dX7_ask_93 h
            · replace h := zifp c15 h
              refine aw_aload_n X 1 dX7_ask_77 rfl ?_
              refine aw_iload_n X 3 dX7_ask_78 rfl ?_
              refine aw_putI X zf_RX7_69 rfl rfl rfl zs_87 dX7_ask_79 ?_
              refine aw_iload_n X 2 dX7_ask_82 rfl ?_
              refine aw_iconst (v := 2) X dX7_ask_83 (by decide) ?_
              refine aw_nameI (fun I17 e17 => ?_)
              replace h := h I17 e17
              refine aw_icmp_ne X 92 dX7_ask_84 rfl (fun c18 => ?_) (fun c18 => ?_)
              · replace h := zifn c18 h
                refine aw_iload_n X 0 dX7_ask_92 rfl ?_
                exact aw_iret X E rfl dX7_ask_93 h
              · replace h := zifp c18 h
                refine aw_aload_n X 1 dX7_ask_87 rfl ?_
                refine aw_iload_n X 3 dX7_ask_88 rfl ?_
                refine aw_putI X zf_RX7_72 rfl rfl rfl zs_87 dX7_ask_89 ?_
                refine aw_iload_n X 0 dX7_ask_92 rfl ?_
                exact aw_iret X E rfl dX7_ask_93 h
        refine aw_if_ne X 46 dX7_ask_36 rfl (fun c6 => ?_) (fun c6 => ?_)
        · refine aw_iload_n X 1 dX7_ask_46 rfl ?_
          refine aw_iconst (v := 1) X dX7_ask_47 (by decide) ?_
          refine aw_icmp_ne X 58 dX7_ask_48 rfl (fun c7 => ?_) (fun c7 => ?_)
          · refine aw_aload_n X 0 dX7_ask_58 rfl ?_
            refine aw_getI X zf_RX7_72 rfl zs_87 dX7_ask_59 ?_
            refine aw_perm (ks9 := [(0, vR 87), (1, vI a1), (2, vI a2)]) [0, 1, 2] rfl ?_
            exact hJ8 _ ((if_neg c7).symm.trans (if_neg c6).symm)
          · refine aw_aload_n X 0 dX7_ask_51 rfl ?_
            refine aw_getI X zf_RX7_69 rfl zs_87 dX7_ask_52 ?_
            refine aw_goto X 62 dX7_ask_55 rfl ?_
            refine aw_perm (ks9 := [(0, vR 87), (1, vI a1), (2, vI a2)]) [0, 1, 2] rfl ?_
            exact hJ8 _ ((if_pos c7).symm.trans (if_neg c6).symm)
        · refine aw_aload_n X 0 dX7_ask_39 rfl ?_
          refine aw_getI X zf_RX7_65 rfl zs_87 dX7_ask_40 ?_
          refine aw_goto X 62 dX7_ask_43 rfl ?_
          refine aw_perm (ks9 := [(0, vR 87), (1, vI a1), (2, vI a2)]) [0, 1, 2] rfl ?_
          exact hJ8 _ (if_pos c6).symm
      · replace h := zifp c5 h
        refine aw_aload_n X 0 dX7_ask_28 rfl ?_
        refine aw_bipush (v := (-6)) X dX7_ask_29 (by decide) ?_
        refine aw_callV X (as := [vI (-6)]) mf_X7_no zw_1137 h zs_87 rfl rfl (by decide) (Nat.le_of_ble_eq_true rfl) dX7_ask_31 (fun v I19 L19 h => ?_)
        obtain ⟨r19, rfl, h⟩ := h
        exact aw_iret X E rfl dX7_ask_34 h
    refine aw_if_ne X 20 dX7_ask_12 rfl (fun c3 => ?_) (fun c3 => ?_)
    · refine aw_bipush (v := 9) X dX7_ask_20 (by decide) ?_
      refine aw_perm (ks9 := [(0, vR 87), (1, vI a1), (2, vI a2)]) [0, 1, 2] rfl ?_
      exact hJ4 _ (if_neg c3).symm
    · refine aw_bipush (v := 40) X dX7_ask_15 (by decide) ?_
      refine aw_goto X 22 dX7_ask_17 rfl ?_
      refine aw_perm (ks9 := [(0, vR 87), (1, vI a1), (2, vI a2)]) [0, 1, 2] rfl ?_
      exact hJ4 _ (if_pos c3).symm
def v_X7_pattern (I : zI) (a1 : Int32) (a2 : Int32) : Int32 := if (I 92 a1.toNatClampNeg) = 6 then (if (I 92 a1.toNatClampNeg) = 5 then (if a2 = (-1) then 0 else (I 91 a2.toNatClampNeg)) ||| (jshl 15 (4 * (jrem (I 94 a1.toNatClampNeg) 4))) else if a2 = (-1) then 0 else (I 91 a2.toNatClampNeg)) &&& 4095 else if (I 92 a1.toNatClampNeg) = 5 then (if a2 = (-1) then 0 else (I 91 a2.toNatClampNeg)) ||| (jshl 15 (4 * (jrem (I 94 a1.toNatClampNeg) 4))) else if a2 = (-1) then 0 else (I 91 a2.toNatClampNeg)
def k_X7_pattern (I : zI) (a1 : Int32) (a2 : Int32) : Prop := (¬ (a2 = (-1)) → vp_in a2 8) ∧ vp_in a1 8
set_option maxRecDepth 100000 in
theorem p_X7_pattern {l : Launch} {g : zG} {I : zI} {L : zL} {a1 : Int32} {a2 : Int32}  (hk0 : k_X7_pattern I a1 a2) : Call l g 1 M_X7_pattern [vR 87, vI a1, vI a2] I L (zp (some (vI (v_X7_pattern I a1 a2))) I L) := by
  refine aw_entry (by decide) (Nat.le_of_ble_eq_true rfl) (fun k hk (X : zX k g cX7_pattern RX7 4 (some .int) 1) E => ?_)
  show AW k g 4 I L 0 [(0, vR 87), (1, vI a1), (2, vI a2)] []
  subst hk
  obtain ⟨n3, n4⟩ := hk0
  have hJ : ∀ w1 : Int32, w1 = (if (I 92 a1.toNatClampNeg) = 6 then (if (I 92 a1.toNatClampNeg) = 5 then (if a2 = (-1) then 0 else (I 91 a2.toNatClampNeg)) ||| (jshl 15 (4 * (jrem (I 94 a1.toNatClampNeg) 4))) else if a2 = (-1) then 0 else (I 91 a2.toNatClampNeg)) &&& 4095 else if (I 92 a1.toNatClampNeg) = 5 then (if a2 = (-1) then 0 else (I 91 a2.toNatClampNeg)) ||| (jshl 15 (4 * (jrem (I 94 a1.toNatClampNeg) 4))) else if a2 = (-1) then 0 else (I 91 a2.toNatClampNeg)) → zp (some (vI (v_X7_pattern I a1 a2))) I L (some (vI w1)) I L := fun w1 e1 => ⟨by rw [e1]; rfl, rfl, rfl⟩
  refine aw_iload_n X 2 dX7_pattern_0 rfl ?_
  refine aw_iconst (v := (-1)) X dX7_pattern_1 (by decide) ?_
  have hJ9 : ∀ (w1 : Int32), w1 = (if a2 = (-1) then 0 else (I 91 a2.toNatClampNeg)) → AW k g 4 I L 15 [(0, vR 87), (1, vI a1)] [vI w1] := by
    intro w1 q1
    subst q1
    refine aw_istore_n X dX7_pattern_15 (by decide) rfl ?_
    refine aw_aload_n X 1 dX7_pattern_16 rfl ?_
    refine aw_getR X zf_RX7_23 rfl zs_87 zr_87_6 dX7_pattern_17 ?_
    refine aw_iload_n X 2 dX7_pattern_20 rfl ?_
    refine aw_ialdj (j := a1.toNatClampNeg) X zs_92 n4 rfl dX7_pattern_21 ?_
    refine aw_iconst (v := 5) X dX7_pattern_22 (by decide) ?_
    have hJ8 : ∀ (w1 : Int32), w1 = (if (I 92 a1.toNatClampNeg) = 5 then (if a2 = (-1) then 0 else (I 91 a2.toNatClampNeg)) ||| (jshl 15 (4 * (jrem (I 94 a1.toNatClampNeg) 4))) else if a2 = (-1) then 0 else (I 91 a2.toNatClampNeg)) → AW k g 4 I L 42 [(0, vR 87), (1, vI a1), (3, vI w1)] [] := by
      intro w1 q1
      subst q1
      refine aw_aload_n X 0 dX7_pattern_42 rfl ?_
      refine aw_getR X zf_RX7_23 rfl zs_87 zr_87_6 dX7_pattern_43 ?_
      refine aw_iload_n X 1 dX7_pattern_46 rfl ?_
      refine aw_ialdj (j := a1.toNatClampNeg) X zs_92 n4 rfl dX7_pattern_47 ?_
      refine aw_bipush (v := 6) X dX7_pattern_48 (by decide) ?_
      have hJ7 : ∀ (w1 : Int32), w1 = (if (I 92 a1.toNatClampNeg) = 6 then (if (I 92 a1.toNatClampNeg) = 5 then (if a2 = (-1) then 0 else (I 91 a2.toNatClampNeg)) ||| (jshl 15 (4 * (jrem (I 94 a1.toNatClampNeg) 4))) else if a2 = (-1) then 0 else (I 91 a2.toNatClampNeg)) &&& 4095 else if (I 92 a1.toNatClampNeg) = 5 then (if a2 = (-1) then 0 else (I 91 a2.toNatClampNeg)) ||| (jshl 15 (4 * (jrem (I 94 a1.toNatClampNeg) 4))) else if a2 = (-1) then 0 else (I 91 a2.toNatClampNeg)) → AW k g 4 I L 62 [] [vI w1] := by
        intro w1 q1
        subst q1
        exact aw_iret X E rfl dX7_pattern_62 (hJ _ rfl)
      refine aw_icmp_ne X 61 dX7_pattern_50 rfl (fun c6 => ?_) (fun c6 => ?_)
      · refine aw_iload_n X 2 dX7_pattern_61 rfl ?_
        refine aw_perm (ks9 := []) [] rfl ?_
        exact hJ7 _ (if_neg c6).symm
      · refine aw_iload_n X 2 dX7_pattern_53 rfl ?_
        refine aw_sipush (v := 4095) X dX7_pattern_54 (by decide) ?_
        refine aw_iand X dX7_pattern_57 ?_
        refine aw_goto X 62 dX7_pattern_58 rfl ?_
        refine aw_perm (ks9 := []) [] rfl ?_
        exact hJ7 _ (if_pos c6).symm
    refine aw_icmp_ne X 42 dX7_pattern_23 rfl (fun c5 => ?_) (fun c5 => ?_)
    · refine aw_perm (ks9 := [(0, vR 87), (1, vI a1), (3, vI (if a2 = (-1) then 0 else (I 91 a2.toNatClampNeg)))]) [1, 2, 0] rfl ?_
      exact hJ8 _ (if_neg c5).symm
    · refine aw_iload_n X 0 dX7_pattern_26 rfl ?_
      refine aw_bipush (v := 15) X dX7_pattern_27 (by decide) ?_
      refine aw_iconst (v := 4) X dX7_pattern_29 (by decide) ?_
      refine aw_aload_n X 1 dX7_pattern_30 rfl ?_
      refine aw_getR X zf_RX7_29 rfl zs_87 zr_87_8 dX7_pattern_31 ?_
      refine aw_iload_n X 2 dX7_pattern_34 rfl ?_
      refine aw_ialdj (j := a1.toNatClampNeg) X zs_94 n4 rfl dX7_pattern_35 ?_
      refine aw_iconst (v := 4) X dX7_pattern_36 (by decide) ?_
      refine aw_irem X dX7_pattern_37 (by decide) ?_
      refine aw_imul X dX7_pattern_38 ?_
      refine aw_ishl X dX7_pattern_39 ?_
      refine aw_ior X dX7_pattern_40 ?_
      refine aw_istore_n X dX7_pattern_41 (by decide) rfl ?_
      refine aw_perm (ks9 := [(0, vR 87), (1, vI a1), (3, vI ((if a2 = (-1) then 0 else (I 91 a2.toNatClampNeg)) ||| (jshl 15 (4 * (jrem (I 94 a1.toNatClampNeg) 4)))))]) [1, 2, 0] rfl ?_
      exact hJ8 _ (if_pos c5).symm
  refine aw_icmp_ne X 9 dX7_pattern_2 rfl (fun c1 => ?_) (fun c1 => ?_)
  · have n2 := (n3 c1)
    refine aw_aload_n X 0 dX7_pattern_9 rfl ?_
    refine aw_getR X zf_RX7_20 rfl zs_87 zr_87_4 dX7_pattern_10 ?_
    refine aw_iload_n X 2 dX7_pattern_13 rfl ?_
    refine aw_ialdj (j := a2.toNatClampNeg) X zs_91 n2 rfl dX7_pattern_14 ?_
    refine aw_perm (ks9 := [(0, vR 87), (1, vI a1)]) [0, 1] rfl ?_
    exact hJ9 _ (if_neg c1).symm
  · refine aw_iconst (v := 0) X dX7_pattern_5 (by decide) ?_
    refine aw_goto X 15 dX7_pattern_6 rfl ?_
    refine aw_perm (ks9 := [(0, vR 87), (1, vI a1)]) [0, 1] rfl ?_
    exact hJ9 _ (if_pos c1).symm
def v_X7_sharp (I : zI) (a1 : Int32) : Int32 := if (I 92 a1.toNatClampNeg) = 1 then if 0 < (((if (if (I 92 a1.toNatClampNeg) = 2 then 1 else if (I 92 a1.toNatClampNeg) = 3 then 1 else if (I 92 a1.toNatClampNeg) = 6 then 1 else (0 : Int32)) = 0 then I 87 12 else (jmax 0 ((I 87 12) - (I 94 a1.toNatClampNeg)))) * (I 87 13)) / 20) then (((if (if (I 92 a1.toNatClampNeg) = 2 then 1 else if (I 92 a1.toNatClampNeg) = 3 then 1 else if (I 92 a1.toNatClampNeg) = 6 then 1 else (0 : Int32)) = 0 then I 87 12 else (jmax 0 ((I 87 12) - (I 94 a1.toNatClampNeg)))) * (I 87 13)) / 20) + (I 94 a1.toNatClampNeg) else (((if (if (I 92 a1.toNatClampNeg) = 2 then 1 else if (I 92 a1.toNatClampNeg) = 3 then 1 else if (I 92 a1.toNatClampNeg) = 6 then 1 else (0 : Int32)) = 0 then I 87 12 else (jmax 0 ((I 87 12) - (I 94 a1.toNatClampNeg)))) * (I 87 13)) / 20) else if (I 92 a1.toNatClampNeg) = 5 then if 0 < (((if (if (I 92 a1.toNatClampNeg) = 2 then 1 else if (I 92 a1.toNatClampNeg) = 3 then 1 else if (I 92 a1.toNatClampNeg) = 6 then 1 else (0 : Int32)) = 0 then I 87 12 else (jmax 0 ((I 87 12) - (I 94 a1.toNatClampNeg)))) * (I 87 13)) / 20) then (((if (if (I 92 a1.toNatClampNeg) = 2 then 1 else if (I 92 a1.toNatClampNeg) = 3 then 1 else if (I 92 a1.toNatClampNeg) = 6 then 1 else (0 : Int32)) = 0 then I 87 12 else (jmax 0 ((I 87 12) - (I 94 a1.toNatClampNeg)))) * (I 87 13)) / 20) + (I 94 a1.toNatClampNeg) else (((if (if (I 92 a1.toNatClampNeg) = 2 then 1 else if (I 92 a1.toNatClampNeg) = 3 then 1 else if (I 92 a1.toNatClampNeg) = 6 then 1 else (0 : Int32)) = 0 then I 87 12 else (jmax 0 ((I 87 12) - (I 94 a1.toNatClampNeg)))) * (I 87 13)) / 20) else (((if (if (I 92 a1.toNatClampNeg) = 2 then 1 else if (I 92 a1.toNatClampNeg) = 3 then 1 else if (I 92 a1.toNatClampNeg) = 6 then 1 else (0 : Int32)) = 0 then I 87 12 else (jmax 0 ((I 87 12) - (I 94 a1.toNatClampNeg)))) * (I 87 13)) / 20)
def k_X7_sharp (I : zI) (a1 : Int32) : Prop := vp_in a1 8
set_option maxRecDepth 100000 in
theorem p_X7_sharp {l : Launch} {g : zG} {I : zI} {L : zL} {a1 : Int32}  (hk0 : k_X7_sharp I a1) : Call l g 1 M_X7_sharp [vR 87, vI a1] I L (zp (some (vI (v_X7_sharp I a1))) I L) := by
  refine aw_entry (by decide) (Nat.le_of_ble_eq_true rfl) (fun k hk (X : zX k g cX7_sharp RX7 4 (some .int) 1) E => ?_)
  show AW k g 4 I L 0 [(0, vR 87), (1, vI a1)] []
  subst hk
  have n1 : vp_in a1 8 := hk0
  have hJ : ∀ w1 : Int32, w1 = (if (I 92 a1.toNatClampNeg) = 1 then if 0 < (((if (if (I 92 a1.toNatClampNeg) = 2 then 1 else if (I 92 a1.toNatClampNeg) = 3 then 1 else if (I 92 a1.toNatClampNeg) = 6 then 1 else (0 : Int32)) = 0 then I 87 12 else (jmax 0 ((I 87 12) - (I 94 a1.toNatClampNeg)))) * (I 87 13)) / 20) then (((if (if (I 92 a1.toNatClampNeg) = 2 then 1 else if (I 92 a1.toNatClampNeg) = 3 then 1 else if (I 92 a1.toNatClampNeg) = 6 then 1 else (0 : Int32)) = 0 then I 87 12 else (jmax 0 ((I 87 12) - (I 94 a1.toNatClampNeg)))) * (I 87 13)) / 20) + (I 94 a1.toNatClampNeg) else (((if (if (I 92 a1.toNatClampNeg) = 2 then 1 else if (I 92 a1.toNatClampNeg) = 3 then 1 else if (I 92 a1.toNatClampNeg) = 6 then 1 else (0 : Int32)) = 0 then I 87 12 else (jmax 0 ((I 87 12) - (I 94 a1.toNatClampNeg)))) * (I 87 13)) / 20) else if (I 92 a1.toNatClampNeg) = 5 then if 0 < (((if (if (I 92 a1.toNatClampNeg) = 2 then 1 else if (I 92 a1.toNatClampNeg) = 3 then 1 else if (I 92 a1.toNatClampNeg) = 6 then 1 else (0 : Int32)) = 0 then I 87 12 else (jmax 0 ((I 87 12) - (I 94 a1.toNatClampNeg)))) * (I 87 13)) / 20) then (((if (if (I 92 a1.toNatClampNeg) = 2 then 1 else if (I 92 a1.toNatClampNeg) = 3 then 1 else if (I 92 a1.toNatClampNeg) = 6 then 1 else (0 : Int32)) = 0 then I 87 12 else (jmax 0 ((I 87 12) - (I 94 a1.toNatClampNeg)))) * (I 87 13)) / 20) + (I 94 a1.toNatClampNeg) else (((if (if (I 92 a1.toNatClampNeg) = 2 then 1 else if (I 92 a1.toNatClampNeg) = 3 then 1 else if (I 92 a1.toNatClampNeg) = 6 then 1 else (0 : Int32)) = 0 then I 87 12 else (jmax 0 ((I 87 12) - (I 94 a1.toNatClampNeg)))) * (I 87 13)) / 20) else (((if (if (I 92 a1.toNatClampNeg) = 2 then 1 else if (I 92 a1.toNatClampNeg) = 3 then 1 else if (I 92 a1.toNatClampNeg) = 6 then 1 else (0 : Int32)) = 0 then I 87 12 else (jmax 0 ((I 87 12) - (I 94 a1.toNatClampNeg)))) * (I 87 13)) / 20)) → zp (some (vI (v_X7_sharp I a1))) I L (some (vI w1)) I L := fun w1 e1 => ⟨by rw [e1]; rfl, rfl, rfl⟩
  refine aw_aload_n X 0 dX7_sharp_0 rfl ?_
  refine aw_getR X zf_RX7_23 rfl zs_87 zr_87_6 dX7_sharp_1 ?_
  refine aw_iload_n X 1 dX7_sharp_4 rfl ?_
  refine aw_ialdj (j := a1.toNatClampNeg) X zs_92 n1 rfl dX7_sharp_5 ?_
  refine aw_iconst (v := 2) X dX7_sharp_6 (by decide) ?_
  have hJ12 : ∀ (w1 : Int32), w1 = (if (I 92 a1.toNatClampNeg) = 2 then 1 else if (I 92 a1.toNatClampNeg) = 3 then 1 else if (I 92 a1.toNatClampNeg) = 6 then 1 else (0 : Int32)) → AW k g 4 I L 36 [(0, vR 87), (1, vI a1)] [vI w1] := by
    intro w1 q1
    subst q1
    refine aw_istore_n X dX7_sharp_36 (by decide) rfl ?_
    refine aw_iload_n X 0 dX7_sharp_37 rfl ?_
    have hJ11 : ∀ (w1 : Int32), w1 = (if (if (I 92 a1.toNatClampNeg) = 2 then 1 else if (I 92 a1.toNatClampNeg) = 3 then 1 else if (I 92 a1.toNatClampNeg) = 6 then 1 else (0 : Int32)) = 0 then I 87 12 else (jmax 0 ((I 87 12) - (I 94 a1.toNatClampNeg)))) → AW k g 4 I L 63 [(0, vR 87), (1, vI a1)] [vI w1] := by
      intro w1 q1
      subst q1
      refine aw_aload_n X 0 dX7_sharp_63 rfl ?_
      refine aw_getI X zf_RX7_69 rfl zs_87 dX7_sharp_64 ?_
      refine aw_imul X dX7_sharp_67 ?_
      refine aw_bipush (v := 20) X dX7_sharp_68 (by decide) ?_
      refine aw_idiv X dX7_sharp_70 (by decide) ?_
      refine aw_istore_n X dX7_sharp_71 (by decide) rfl ?_
      refine aw_aload_n X 1 dX7_sharp_72 rfl ?_
      refine aw_getR X zf_RX7_23 rfl zs_87 zr_87_6 dX7_sharp_73 ?_
      refine aw_iload_n X 2 dX7_sharp_76 rfl ?_
      refine aw_ialdj (j := a1.toNatClampNeg) X zs_92 n1 rfl dX7_sharp_77 ?_
      refine aw_iconst (v := 1) X dX7_sharp_78 (by decide) ?_
      have hJ10 : ∀ (w1 : Int32), w1 = (if (I 92 a1.toNatClampNeg) = 1 then if 0 < (((if (if (I 92 a1.toNatClampNeg) = 2 then 1 else if (I 92 a1.toNatClampNeg) = 3 then 1 else if (I 92 a1.toNatClampNeg) = 6 then 1 else (0 : Int32)) = 0 then I 87 12 else (jmax 0 ((I 87 12) - (I 94 a1.toNatClampNeg)))) * (I 87 13)) / 20) then (((if (if (I 92 a1.toNatClampNeg) = 2 then 1 else if (I 92 a1.toNatClampNeg) = 3 then 1 else if (I 92 a1.toNatClampNeg) = 6 then 1 else (0 : Int32)) = 0 then I 87 12 else (jmax 0 ((I 87 12) - (I 94 a1.toNatClampNeg)))) * (I 87 13)) / 20) + (I 94 a1.toNatClampNeg) else (((if (if (I 92 a1.toNatClampNeg) = 2 then 1 else if (I 92 a1.toNatClampNeg) = 3 then 1 else if (I 92 a1.toNatClampNeg) = 6 then 1 else (0 : Int32)) = 0 then I 87 12 else (jmax 0 ((I 87 12) - (I 94 a1.toNatClampNeg)))) * (I 87 13)) / 20) else if (I 92 a1.toNatClampNeg) = 5 then if 0 < (((if (if (I 92 a1.toNatClampNeg) = 2 then 1 else if (I 92 a1.toNatClampNeg) = 3 then 1 else if (I 92 a1.toNatClampNeg) = 6 then 1 else (0 : Int32)) = 0 then I 87 12 else (jmax 0 ((I 87 12) - (I 94 a1.toNatClampNeg)))) * (I 87 13)) / 20) then (((if (if (I 92 a1.toNatClampNeg) = 2 then 1 else if (I 92 a1.toNatClampNeg) = 3 then 1 else if (I 92 a1.toNatClampNeg) = 6 then 1 else (0 : Int32)) = 0 then I 87 12 else (jmax 0 ((I 87 12) - (I 94 a1.toNatClampNeg)))) * (I 87 13)) / 20) + (I 94 a1.toNatClampNeg) else (((if (if (I 92 a1.toNatClampNeg) = 2 then 1 else if (I 92 a1.toNatClampNeg) = 3 then 1 else if (I 92 a1.toNatClampNeg) = 6 then 1 else (0 : Int32)) = 0 then I 87 12 else (jmax 0 ((I 87 12) - (I 94 a1.toNatClampNeg)))) * (I 87 13)) / 20) else (((if (if (I 92 a1.toNatClampNeg) = 2 then 1 else if (I 92 a1.toNatClampNeg) = 3 then 1 else if (I 92 a1.toNatClampNeg) = 6 then 1 else (0 : Int32)) = 0 then I 87 12 else (jmax 0 ((I 87 12) - (I 94 a1.toNatClampNeg)))) * (I 87 13)) / 20)) → AW k g 4 I L 108 [] [vI w1] := by
        intro w1 q1
        subst q1
        exact aw_iret X E rfl dX7_sharp_108 (hJ _ rfl)
      refine aw_icmp_eq X 92 dX7_sharp_79 rfl (fun c6 => ?_) (fun c6 => ?_)
      · refine aw_iload_n X 0 dX7_sharp_92 rfl ?_
        refine aw_if_len X 107 dX7_sharp_93 rfl (fun c7 => ?_) (fun c7 => ?_)
        · refine aw_iload_n X 0 dX7_sharp_96 rfl ?_
          refine aw_aload_n X 1 dX7_sharp_97 rfl ?_
          refine aw_getR X zf_RX7_29 rfl zs_87 zr_87_8 dX7_sharp_98 ?_
          refine aw_iload_n X 2 dX7_sharp_101 rfl ?_
          refine aw_ialdj (j := a1.toNatClampNeg) X zs_94 n1 rfl dX7_sharp_102 ?_
          refine aw_iadd X dX7_sharp_103 ?_
          refine aw_goto X 108 dX7_sharp_104 rfl ?_
          refine aw_perm (ks9 := []) [] rfl ?_
          exact hJ10 _ ((if_pos c7).symm.trans (if_pos c6).symm)
        · refine aw_iload_n X 0 dX7_sharp_107 rfl ?_
          refine aw_perm (ks9 := []) [] rfl ?_
          exact hJ10 _ ((if_neg c7).symm.trans (if_pos c6).symm)
      · refine aw_aload_n X 1 dX7_sharp_82 rfl ?_
        refine aw_getR X zf_RX7_23 rfl zs_87 zr_87_6 dX7_sharp_83 ?_
        refine aw_iload_n X 2 dX7_sharp_86 rfl ?_
        refine aw_ialdj (j := a1.toNatClampNeg) X zs_92 n1 rfl dX7_sharp_87 ?_
        refine aw_iconst (v := 5) X dX7_sharp_88 (by decide) ?_
        refine aw_icmp_ne X 107 dX7_sharp_89 rfl (fun c8 => ?_) (fun c8 => ?_)
        · refine aw_iload_n X 0 dX7_sharp_107 rfl ?_
          refine aw_perm (ks9 := []) [] rfl ?_
          exact hJ10 _ ((if_neg c8).symm.trans (if_neg c6).symm)
        · refine aw_iload_n X 0 dX7_sharp_92 rfl ?_
          refine aw_if_len X 107 dX7_sharp_93 rfl (fun c9 => ?_) (fun c9 => ?_)
          · refine aw_iload_n X 0 dX7_sharp_96 rfl ?_
            refine aw_aload_n X 1 dX7_sharp_97 rfl ?_
            refine aw_getR X zf_RX7_29 rfl zs_87 zr_87_8 dX7_sharp_98 ?_
            refine aw_iload_n X 2 dX7_sharp_101 rfl ?_
            refine aw_ialdj (j := a1.toNatClampNeg) X zs_94 n1 rfl dX7_sharp_102 ?_
            refine aw_iadd X dX7_sharp_103 ?_
            refine aw_goto X 108 dX7_sharp_104 rfl ?_
            refine aw_perm (ks9 := []) [] rfl ?_
            exact hJ10 _ (((if_pos c9).symm.trans (if_pos c8).symm).trans (if_neg c6).symm)
          · refine aw_iload_n X 0 dX7_sharp_107 rfl ?_
            refine aw_perm (ks9 := []) [] rfl ?_
            exact hJ10 _ (((if_neg c9).symm.trans (if_pos c8).symm).trans (if_neg c6).symm)
    refine aw_if_eq X 59 dX7_sharp_38 rfl (fun c5 => ?_) (fun c5 => ?_)
    · refine aw_aload_n X 1 dX7_sharp_59 rfl ?_
      refine aw_getI X zf_RX7_65 rfl zs_87 dX7_sharp_60 ?_
      refine aw_perm (ks9 := [(0, vR 87), (1, vI a1)]) [1, 2] rfl ?_
      exact hJ11 _ (if_pos c5).symm
    · refine aw_iconst (v := 0) X dX7_sharp_41 (by decide) ?_
      refine aw_aload_n X 1 dX7_sharp_42 rfl ?_
      refine aw_getI X zf_RX7_65 rfl zs_87 dX7_sharp_43 ?_
      refine aw_aload_n X 1 dX7_sharp_46 rfl ?_
      refine aw_getR X zf_RX7_29 rfl zs_87 zr_87_8 dX7_sharp_47 ?_
      refine aw_iload_n X 2 dX7_sharp_50 rfl ?_
      refine aw_ialdj (j := a1.toNatClampNeg) X zs_94 n1 rfl dX7_sharp_51 ?_
      refine aw_isub X dX7_sharp_52 ?_
      refine aw_max X (by decide) (Nat.le_of_ble_eq_true rfl) ⟨zw_1187, zw_407, zw_69, zw_408⟩ dX7_sharp_53 ?_
      refine aw_goto X 63 dX7_sharp_56 rfl ?_
      refine aw_perm (ks9 := [(0, vR 87), (1, vI a1)]) [1, 2] rfl ?_
      exact hJ11 _ (if_neg c5).symm
  refine aw_icmp_eq X 31 dX7_sharp_7 rfl (fun c2 => ?_) (fun c2 => ?_)
  · refine aw_iconst (v := 1) X dX7_sharp_31 (by decide) ?_
    refine aw_goto X 36 dX7_sharp_32 rfl ?_
    refine aw_perm (ks9 := [(0, vR 87), (1, vI a1)]) [0, 1] rfl ?_
    exact hJ12 _ (if_pos c2).symm
  · refine aw_aload_n X 0 dX7_sharp_10 rfl ?_
    refine aw_getR X zf_RX7_23 rfl zs_87 zr_87_6 dX7_sharp_11 ?_
    refine aw_iload_n X 1 dX7_sharp_14 rfl ?_
    refine aw_ialdj (j := a1.toNatClampNeg) X zs_92 n1 rfl dX7_sharp_15 ?_
    refine aw_iconst (v := 3) X dX7_sharp_16 (by decide) ?_
    refine aw_icmp_eq X 31 dX7_sharp_17 rfl (fun c3 => ?_) (fun c3 => ?_)
    · refine aw_iconst (v := 1) X dX7_sharp_31 (by decide) ?_
      refine aw_goto X 36 dX7_sharp_32 rfl ?_
      refine aw_perm (ks9 := [(0, vR 87), (1, vI a1)]) [0, 1] rfl ?_
      exact hJ12 _ ((if_pos c3).symm.trans (if_neg c2).symm)
    · refine aw_aload_n X 0 dX7_sharp_20 rfl ?_
      refine aw_getR X zf_RX7_23 rfl zs_87 zr_87_6 dX7_sharp_21 ?_
      refine aw_iload_n X 1 dX7_sharp_24 rfl ?_
      refine aw_ialdj (j := a1.toNatClampNeg) X zs_92 n1 rfl dX7_sharp_25 ?_
      refine aw_bipush (v := 6) X dX7_sharp_26 (by decide) ?_
      refine aw_icmp_ne X 35 dX7_sharp_28 rfl (fun c4 => ?_) (fun c4 => ?_)
      · refine aw_iconst (v := 0) X dX7_sharp_35 (by decide) ?_
        refine aw_perm (ks9 := [(0, vR 87), (1, vI a1)]) [0, 1] rfl ?_
        exact hJ12 _ (((if_neg c4).symm.trans (if_neg c3).symm).trans (if_neg c2).symm)
      · refine aw_iconst (v := 1) X dX7_sharp_31 (by decide) ?_
        refine aw_goto X 36 dX7_sharp_32 rfl ?_
        refine aw_perm (ks9 := [(0, vR 87), (1, vI a1)]) [0, 1] rfl ?_
        exact hJ12 _ (((if_pos c4).symm.trans (if_neg c3).symm).trans (if_neg c2).symm)
set_option maxRecDepth 100000 in
theorem s_X7_freeze_22 {k : zK} {g : zG} {Q : Option zv → zI → zL → Prop} {I : zI} {L : zL} {y1 : Int32} {y3 : Int32} {y4 : Int32} {y5 : Int32}  (X : zX k g cX7_freeze RX7 8 none 2) (E : zE k g Q) (h : if y5 < 16 then ((∀ u6 : Int32, u6 = (if y5 < 12 then (if 3 < y5 then 0 + ((jshr y3 (y5 - 4)) &&& 1) else (0 : Int32)) + ((jshr y3 (y5 + 4)) &&& 1) else if 3 < y5 then 0 + ((jshr y3 (y5 - 4)) &&& 1) else (0 : Int32)) → (∀ u11 : Int32, u11 = (if (jrem y5 4) < 3 then (if 0 < (jrem y5 4) then u6 + ((jshr y3 (y5 - 1)) &&& 1) else u6) + ((jshr y3 (y5 + 1)) &&& 1) else if 0 < (jrem y5 4) then u6 + ((jshr y3 (y5 - 1)) &&& 1) else u6) → (5 < (I 87 13) → (2 < u11 → vp_in y1 8)) ∧ ((∀ u20 : Int32, u20 = (if 5 < (I 87 13) then if 2 < u11 then if (I 92 y1.toNatClampNeg) = 6 then if y5 < 12 then 1 else (0 : Int32) else (1 : Int32) else (0 : Int32) else (0 : Int32)) → vp_in y1 8 ∧ ((∀ u26 : Int32, u26 = (if ((jshr (I 96 y1.toNatClampNeg) y5) &&& 1) = 1 then 0 else if ((jshr y3 y5) &&& 1) = 1 then y4 else if u20 = 0 then 0 else (y4 / 2)) → vp_in y5 16 ∧ (AW k g 8 (zs I 101 y5.toNatClampNeg u26) L 22 [(0, vR 87), (1, vI y1), (3, vI y3), (4, vI y4), (5, vI (y5 + 1))] [])))))))) else (Q none I L)) : AW k g 8 I L 22 [(0, vR 87), (1, vI y1), (3, vI y3), (4, vI y4), (5, vI y5)] [] := by
  refine aw_iload X 4 dX7_freeze_22 rfl ?_
  refine aw_bipush (v := 16) X dX7_freeze_24 (by decide) ?_
  refine aw_icmp_gen X 211 dX7_freeze_26 rfl (fun c1 => ?_) (fun c1 => ?_)
  · replace h := zifp c1 h
    refine aw_iconst (v := 0) X dX7_freeze_29 (by decide) ?_
    refine aw_istore X dX7_freeze_30 (by decide) rfl ?_
    refine aw_iload X 5 dX7_freeze_32 rfl ?_
    refine aw_iconst (v := 3) X dX7_freeze_34 (by decide) ?_
    have hJ3 : ∀ (w1 : Int32), w1 = (if 3 < y5 then 0 + ((jshr y3 (y5 - 4)) &&& 1) else (0 : Int32)) → AW k g 8 I L 51 [(0, vR 87), (1, vI y1), (3, vI y3), (4, vI y4), (5, vI y5), (6, vI w1)] [] := by
      intro w1 q1
      subst q1
      refine aw_iload X 4 dX7_freeze_51 rfl ?_
      refine aw_bipush (v := 12) X dX7_freeze_53 (by decide) ?_
      have hJ5 : ∀ (u6 : Int32), u6 = (if y5 < 12 then (if 3 < y5 then 0 + ((jshr y3 (y5 - 4)) &&& 1) else (0 : Int32)) + ((jshr y3 (y5 + 4)) &&& 1) else if 3 < y5 then 0 + ((jshr y3 (y5 - 4)) &&& 1) else (0 : Int32)) → AW k g 8 I L 71 [(0, vR 87), (1, vI y1), (3, vI y3), (4, vI y4), (5, vI y5), (6, vI u6)] [] := by
        intro u6 q1
        replace h := h u6 q1
        refine aw_iload X 4 dX7_freeze_71 rfl ?_
        refine aw_iconst (v := 4) X dX7_freeze_73 (by decide) ?_
        refine aw_irem X dX7_freeze_74 (by decide) ?_
        have hJ8 : ∀ (w1 : Int32), w1 = (if 0 < (jrem y5 4) then u6 + ((jshr y3 (y5 - 1)) &&& 1) else u6) → AW k g 8 I L 91 [(0, vR 87), (1, vI y1), (3, vI y3), (4, vI y4), (5, vI y5), (6, vI w1)] [] := by
          intro w1 q1
          subst q1
          refine aw_iload X 4 dX7_freeze_91 rfl ?_
          refine aw_iconst (v := 4) X dX7_freeze_93 (by decide) ?_
          refine aw_irem X dX7_freeze_94 (by decide) ?_
          refine aw_iconst (v := 3) X dX7_freeze_95 (by decide) ?_
          have hJ10 : ∀ (u11 : Int32), u11 = (if (jrem y5 4) < 3 then (if 0 < (jrem y5 4) then u6 + ((jshr y3 (y5 - 1)) &&& 1) else u6) + ((jshr y3 (y5 + 1)) &&& 1) else if 0 < (jrem y5 4) then u6 + ((jshr y3 (y5 - 1)) &&& 1) else u6) → AW k g 8 I L 112 [(0, vR 87), (1, vI y1), (3, vI y3), (4, vI y4), (5, vI y5), (6, vI u11)] [] := by
            intro u11 q1
            replace h := h u11 q1
            refine aw_aload_n X 0 dX7_freeze_112 rfl ?_
            refine aw_getI X zf_RX7_69 rfl zs_87 dX7_freeze_113 ?_
            refine aw_iconst (v := 5) X dX7_freeze_116 (by decide) ?_
            have n18 := h.1
            replace h := h.2
            have hJ19 : ∀ (u20 : Int32), u20 = (if 5 < (I 87 13) then if 2 < u11 then if (I 92 y1.toNatClampNeg) = 6 then if y5 < 12 then 1 else (0 : Int32) else (1 : Int32) else (0 : Int32) else (0 : Int32)) → AW k g 8 I L 149 [(0, vR 87), (1, vI y1), (3, vI y3), (4, vI y4), (5, vI y5)] [vI u20] := by
              intro u20 q1
              replace h := h u20 q1
              refine aw_istore X dX7_freeze_149 (by decide) rfl ?_
              refine aw_aload_n X 1 dX7_freeze_151 rfl ?_
              refine aw_getR X zf_RX7_50 rfl zs_87 zr_87_24 dX7_freeze_152 ?_
              refine aw_iload X 5 dX7_freeze_155 rfl ?_
              refine aw_aload_n X 1 dX7_freeze_157 rfl ?_
              refine aw_getR X zf_RX7_35 rfl zs_87 zr_87_10 dX7_freeze_158 ?_
              refine aw_iload_n X 2 dX7_freeze_161 rfl ?_
              have n21 := h.1
              replace h := h.2
              refine aw_ialdj (j := y1.toNatClampNeg) X zs_96 n21 rfl dX7_freeze_162 ?_
              refine aw_iload X 5 dX7_freeze_163 rfl ?_
              refine aw_ishr X dX7_freeze_165 ?_
              refine aw_iconst (v := 1) X dX7_freeze_166 (by decide) ?_
              refine aw_iand X dX7_freeze_167 ?_
              refine aw_iconst (v := 1) X dX7_freeze_168 (by decide) ?_
              have hJ25 : ∀ (u26 : Int32), u26 = (if ((jshr (I 96 y1.toNatClampNeg) y5) &&& 1) = 1 then 0 else if ((jshr y3 y5) &&& 1) = 1 then y4 else if u20 = 0 then 0 else (y4 / 2)) → AW k g 8 I L 204 [(0, vR 87), (1, vI y1), (3, vI y3), (4, vI y4), (5, vI y5)] [vI u26, vI y5, vR 101] := by
                intro u26 q1
                replace h := h u26 q1
                have n27 := h.1
                replace h := h.2
                refine aw_iastj (j := y5.toNatClampNeg) X zs_101 n27 rfl dX7_freeze_204 ?_
                refine aw_iinc (v := y5 + 1) X 4 dX7_freeze_205 rfl rfl (by decide) rfl ?_
                refine aw_goto X 22 dX7_freeze_208 rfl ?_
                refine aw_perm (ks9 := [(0, vR 87), (1, vI y1), (3, vI y3), (4, vI y4), (5, vI (y5 + 1))]) [1, 2, 3, 4, 0] rfl ?_
                exact h
              refine aw_icmp_ne X 176 dX7_freeze_169 rfl (fun c22 => ?_) (fun c22 => ?_)
              · refine aw_iload_n X 3 dX7_freeze_176 rfl ?_
                refine aw_iload X 5 dX7_freeze_177 rfl ?_
                refine aw_ishr X dX7_freeze_179 ?_
                refine aw_iconst (v := 1) X dX7_freeze_180 (by decide) ?_
                refine aw_iand X dX7_freeze_181 ?_
                refine aw_iconst (v := 1) X dX7_freeze_182 (by decide) ?_
                refine aw_icmp_ne X 191 dX7_freeze_183 rfl (fun c23 => ?_) (fun c23 => ?_)
                · refine aw_iload X 0 dX7_freeze_191 rfl ?_
                  refine aw_if_eq X 203 dX7_freeze_193 rfl (fun c24 => ?_) (fun c24 => ?_)
                  · refine aw_iconst (v := 0) X dX7_freeze_203 (by decide) ?_
                    refine aw_perm (ks9 := [(0, vR 87), (1, vI y1), (3, vI y3), (4, vI y4), (5, vI y5)]) [1, 2, 3, 4, 5] rfl ?_
                    exact hJ25 _ (((if_pos c24).symm.trans (if_neg c23).symm).trans (if_neg c22).symm)
                  · refine aw_iload X 4 dX7_freeze_196 rfl ?_
                    refine aw_iconst (v := 2) X dX7_freeze_198 (by decide) ?_
                    refine aw_idiv X dX7_freeze_199 (by decide) ?_
                    refine aw_goto X 204 dX7_freeze_200 rfl ?_
                    refine aw_perm (ks9 := [(0, vR 87), (1, vI y1), (3, vI y3), (4, vI y4), (5, vI y5)]) [1, 2, 3, 4, 5] rfl ?_
                    exact hJ25 _ (((if_neg c24).symm.trans (if_neg c23).symm).trans (if_neg c22).symm)
                · refine aw_iload X 4 dX7_freeze_186 rfl ?_
                  refine aw_goto X 204 dX7_freeze_188 rfl ?_
                  refine aw_perm (ks9 := [(0, vR 87), (1, vI y1), (3, vI y3), (4, vI y4), (5, vI y5)]) [1, 2, 3, 4, 5] rfl ?_
                  exact hJ25 _ ((if_pos c23).symm.trans (if_neg c22).symm)
              · refine aw_iconst (v := 0) X dX7_freeze_172 (by decide) ?_
                refine aw_goto X 204 dX7_freeze_173 rfl ?_
                refine aw_perm (ks9 := [(0, vR 87), (1, vI y1), (3, vI y3), (4, vI y4), (5, vI y5)]) [1, 2, 3, 4, 5] rfl ?_
                exact hJ25 _ (if_pos c22).symm
            refine aw_icmp_len X 148 dX7_freeze_117 rfl (fun c12 => ?_) (fun c12 => ?_)
            · have n17 := (n18 c12)
              refine aw_iload X 5 dX7_freeze_120 rfl ?_
              refine aw_iconst (v := 2) X dX7_freeze_122 (by decide) ?_
              refine aw_icmp_len X 148 dX7_freeze_123 rfl (fun c13 => ?_) (fun c13 => ?_)
              · have n14 := (n17 c13)
                refine aw_aload_n X 0 dX7_freeze_126 rfl ?_
                refine aw_getR X zf_RX7_23 rfl zs_87 zr_87_6 dX7_freeze_127 ?_
                refine aw_iload_n X 1 dX7_freeze_130 rfl ?_
                refine aw_ialdj (j := y1.toNatClampNeg) X zs_92 n14 rfl dX7_freeze_131 ?_
                refine aw_bipush (v := 6) X dX7_freeze_132 (by decide) ?_
                refine aw_icmp_ne X 144 dX7_freeze_134 rfl (fun c15 => ?_) (fun c15 => ?_)
                · refine aw_iconst (v := 1) X dX7_freeze_144 (by decide) ?_
                  refine aw_goto X 149 dX7_freeze_145 rfl ?_
                  refine aw_perm (ks9 := [(0, vR 87), (1, vI y1), (3, vI y3), (4, vI y4), (5, vI y5)]) [0, 1, 2, 3, 4] rfl ?_
                  exact hJ19 _ (((if_neg c15).symm.trans (if_pos c13).symm).trans (if_pos c12).symm)
                · refine aw_iload X 4 dX7_freeze_137 rfl ?_
                  refine aw_bipush (v := 12) X dX7_freeze_139 (by decide) ?_
                  refine aw_icmp_gen X 148 dX7_freeze_141 rfl (fun c16 => ?_) (fun c16 => ?_)
                  · refine aw_iconst (v := 1) X dX7_freeze_144 (by decide) ?_
                    refine aw_goto X 149 dX7_freeze_145 rfl ?_
                    refine aw_perm (ks9 := [(0, vR 87), (1, vI y1), (3, vI y3), (4, vI y4), (5, vI y5)]) [0, 1, 2, 3, 4] rfl ?_
                    exact hJ19 _ ((((if_pos c16).symm.trans (if_pos c15).symm).trans (if_pos c13).symm).trans (if_pos c12).symm)
                  · refine aw_iconst (v := 0) X dX7_freeze_148 (by decide) ?_
                    refine aw_perm (ks9 := [(0, vR 87), (1, vI y1), (3, vI y3), (4, vI y4), (5, vI y5)]) [0, 1, 2, 3, 4] rfl ?_
                    exact hJ19 _ ((((if_neg c16).symm.trans (if_pos c15).symm).trans (if_pos c13).symm).trans (if_pos c12).symm)
              · refine aw_iconst (v := 0) X dX7_freeze_148 (by decide) ?_
                refine aw_perm (ks9 := [(0, vR 87), (1, vI y1), (3, vI y3), (4, vI y4), (5, vI y5)]) [0, 1, 2, 3, 4] rfl ?_
                exact hJ19 _ ((if_neg c13).symm.trans (if_pos c12).symm)
            · refine aw_iconst (v := 0) X dX7_freeze_148 (by decide) ?_
              refine aw_perm (ks9 := [(0, vR 87), (1, vI y1), (3, vI y3), (4, vI y4), (5, vI y5)]) [0, 1, 2, 3, 4] rfl ?_
              exact hJ19 _ (if_neg c12).symm
          refine aw_icmp_gen X 112 dX7_freeze_96 rfl (fun c9 => ?_) (fun c9 => ?_)
          · refine aw_iload X 5 dX7_freeze_99 rfl ?_
            refine aw_iload_n X 2 dX7_freeze_101 rfl ?_
            refine aw_iload X 4 dX7_freeze_102 rfl ?_
            refine aw_iconst (v := 1) X dX7_freeze_104 (by decide) ?_
            refine aw_iadd X dX7_freeze_105 ?_
            refine aw_ishr X dX7_freeze_106 ?_
            refine aw_iconst (v := 1) X dX7_freeze_107 (by decide) ?_
            refine aw_iand X dX7_freeze_108 ?_
            refine aw_iadd X dX7_freeze_109 ?_
            refine aw_istore X dX7_freeze_110 (by decide) rfl ?_
            refine aw_perm (ks9 := [(0, vR 87), (1, vI y1), (3, vI y3), (4, vI y4), (5, vI y5), (6, vI ((if 0 < (jrem y5 4) then u6 + ((jshr y3 (y5 - 1)) &&& 1) else u6) + ((jshr y3 (y5 + 1)) &&& 1)))]) [1, 2, 3, 4, 5, 0] rfl ?_
            exact hJ10 _ (if_pos c9).symm
          · refine aw_perm (ks9 := [(0, vR 87), (1, vI y1), (3, vI y3), (4, vI y4), (5, vI y5), (6, vI (if 0 < (jrem y5 4) then u6 + ((jshr y3 (y5 - 1)) &&& 1) else u6))]) [0, 1, 2, 3, 4, 5] rfl ?_
            exact hJ10 _ (if_neg c9).symm
        refine aw_if_len X 91 dX7_freeze_75 rfl (fun c7 => ?_) (fun c7 => ?_)
        · refine aw_iload X 5 dX7_freeze_78 rfl ?_
          refine aw_iload_n X 2 dX7_freeze_80 rfl ?_
          refine aw_iload X 4 dX7_freeze_81 rfl ?_
          refine aw_iconst (v := 1) X dX7_freeze_83 (by decide) ?_
          refine aw_isub X dX7_freeze_84 ?_
          refine aw_ishr X dX7_freeze_85 ?_
          refine aw_iconst (v := 1) X dX7_freeze_86 (by decide) ?_
          refine aw_iand X dX7_freeze_87 ?_
          refine aw_iadd X dX7_freeze_88 ?_
          refine aw_istore X dX7_freeze_89 (by decide) rfl ?_
          refine aw_perm (ks9 := [(0, vR 87), (1, vI y1), (3, vI y3), (4, vI y4), (5, vI y5), (6, vI (u6 + ((jshr y3 (y5 - 1)) &&& 1)))]) [1, 2, 3, 4, 5, 0] rfl ?_
          exact hJ8 _ (if_pos c7).symm
        · refine aw_perm (ks9 := [(0, vR 87), (1, vI y1), (3, vI y3), (4, vI y4), (5, vI y5), (6, vI u6)]) [0, 1, 2, 3, 4, 5] rfl ?_
          exact hJ8 _ (if_neg c7).symm
      refine aw_icmp_gen X 71 dX7_freeze_55 rfl (fun c4 => ?_) (fun c4 => ?_)
      · refine aw_iload X 5 dX7_freeze_58 rfl ?_
        refine aw_iload_n X 2 dX7_freeze_60 rfl ?_
        refine aw_iload X 4 dX7_freeze_61 rfl ?_
        refine aw_iconst (v := 4) X dX7_freeze_63 (by decide) ?_
        refine aw_iadd X dX7_freeze_64 ?_
        refine aw_ishr X dX7_freeze_65 ?_
        refine aw_iconst (v := 1) X dX7_freeze_66 (by decide) ?_
        refine aw_iand X dX7_freeze_67 ?_
        refine aw_iadd X dX7_freeze_68 ?_
        refine aw_istore X dX7_freeze_69 (by decide) rfl ?_
        refine aw_perm (ks9 := [(0, vR 87), (1, vI y1), (3, vI y3), (4, vI y4), (5, vI y5), (6, vI ((if 3 < y5 then 0 + ((jshr y3 (y5 - 4)) &&& 1) else (0 : Int32)) + ((jshr y3 (y5 + 4)) &&& 1)))]) [1, 2, 3, 4, 5, 0] rfl ?_
        exact hJ5 _ (if_pos c4).symm
      · refine aw_perm (ks9 := [(0, vR 87), (1, vI y1), (3, vI y3), (4, vI y4), (5, vI y5), (6, vI (if 3 < y5 then 0 + ((jshr y3 (y5 - 4)) &&& 1) else (0 : Int32)))]) [0, 1, 2, 3, 4, 5] rfl ?_
        exact hJ5 _ (if_neg c4).symm
    refine aw_icmp_len X 51 dX7_freeze_35 rfl (fun c2 => ?_) (fun c2 => ?_)
    · refine aw_iload X 0 dX7_freeze_38 rfl ?_
      refine aw_iload_n X 3 dX7_freeze_40 rfl ?_
      refine aw_iload X 5 dX7_freeze_41 rfl ?_
      refine aw_iconst (v := 4) X dX7_freeze_43 (by decide) ?_
      refine aw_isub X dX7_freeze_44 ?_
      refine aw_ishr X dX7_freeze_45 ?_
      refine aw_iconst (v := 1) X dX7_freeze_46 (by decide) ?_
      refine aw_iand X dX7_freeze_47 ?_
      refine aw_iadd X dX7_freeze_48 ?_
      refine aw_istore X dX7_freeze_49 (by decide) rfl ?_
      refine aw_perm (ks9 := [(0, vR 87), (1, vI y1), (3, vI y3), (4, vI y4), (5, vI y5), (6, vI (0 + ((jshr y3 (y5 - 4)) &&& 1)))]) [1, 2, 3, 4, 5, 0] rfl ?_
      exact hJ3 _ (if_pos c2).symm
    · refine aw_perm (ks9 := [(0, vR 87), (1, vI y1), (3, vI y3), (4, vI y4), (5, vI y5), (6, vI 0)]) [1, 2, 3, 4, 5, 0] rfl ?_
      exact hJ3 _ (if_neg c2).symm
  · replace h := zifn c1 h
    exact aw_vret X E rfl dX7_freeze_211 h
set_option maxRecDepth 100000 in
theorem m_X7_freeze {l : Launch} {g : zG} {Q : Option zv → zI → zL → Prop} {I : zI} {L : zL} {a1 : Int32} {a2 : Int32}  (h : ∀ k : zK, kl k = l → zX k g cX7_freeze RX7 8 none 2 → zE k g Q → (k_X7_pattern I a1 a2 ∧ (k_X7_sharp I a1 ∧ (AW k g 8 I L 22 [(0, vR 87), (1, vI a1), (3, vI (v_X7_pattern I a1 a2)), (4, vI (jmin 20 (v_X7_sharp I a1))), (5, vI 0)] [])))) : Call l g 2 M_X7_freeze [vR 87, vI a1, vI a2] I L Q := by
  refine aw_entry (by decide) (Nat.le_of_ble_eq_true rfl) (fun k hk (X : zX k g cX7_freeze RX7 8 none 2) E => ?_)
  show AW k g 8 I L 0 [(0, vR 87), (1, vI a1), (2, vI a2)] []
  replace h := h k hk X E
  subst hk
  refine aw_aload_n X 0 dX7_freeze_0 rfl ?_
  refine aw_iload_n X 1 dX7_freeze_1 rfl ?_
  refine aw_iload_n X 2 dX7_freeze_2 rfl ?_
  have n1 := h.1
  replace h := h.2
  refine aw_pV X (as := [vI a1, vI a2]) mf_X7_pattern zw_1294 (p_X7_pattern n1) zs_87 rfl rfl (by decide) (Nat.le_of_ble_eq_true rfl) dX7_freeze_3 ?_
  refine aw_istore_n X dX7_freeze_6 (by decide) rfl ?_
  refine aw_bipush (v := 20) X dX7_freeze_7 (by decide) ?_
  refine aw_aload_n X 1 dX7_freeze_9 rfl ?_
  refine aw_iload_n X 2 dX7_freeze_10 rfl ?_
  have n2 := h.1
  replace h := h.2
  refine aw_pV X (as := [vI a1]) mf_X7_sharp zw_1183 (p_X7_sharp n2) zs_87 rfl rfl (by decide) (Nat.le_of_ble_eq_true rfl) dX7_freeze_11 ?_
  refine aw_min X (by decide) (Nat.le_of_ble_eq_true rfl) ⟨zw_1298, zw_683, zw_69, zw_684⟩ dX7_freeze_14 ?_
  refine aw_istore X dX7_freeze_17 (by decide) rfl ?_
  refine aw_iconst (v := 0) X dX7_freeze_19 (by decide) ?_
  refine aw_istore X dX7_freeze_20 (by decide) rfl ?_
  refine aw_perm (ks9 := [(0, vR 87), (1, vI a1), (3, vI (v_X7_pattern I a1 a2)), (4, vI (jmin 20 (v_X7_sharp I a1))), (5, vI 0)]) [3, 4, 2, 1, 0] rfl ?_
  exact h
def v_X7_isLetter (I : zI) (a1 : Int32) : Int32 := v_X7_within a1 0 ((I 87 3) - 1)
set_option maxRecDepth 100000 in
theorem p_X7_isLetter {l : Launch} {g : zG} {I : zI} {L : zL} {a1 : Int32}  : Call l g 2 M_X7_isLetter [vR 87, vI a1] I L (zp (some (vI (v_X7_isLetter I a1))) I L) := by
  refine aw_entry (by decide) (Nat.le_of_ble_eq_true rfl) (fun k hk (X : zX k g cX7_isLetter RX7 2 (some .boolean) 2) E => ?_)
  show AW k g 2 I L 0 [(0, vR 87), (1, vI a1)] []
  subst hk
  have hJ : ∀ w1 : Int32, w1 = (v_X7_within a1 0 ((I 87 3) - 1)) → zp (some (vI (v_X7_isLetter I a1))) I L (some (vI w1)) I L := fun w1 e1 => ⟨by rw [e1]; rfl, rfl, rfl⟩
  refine aw_iload_n X 1 dX7_isLetter_0 rfl ?_
  refine aw_iconst (v := 0) X dX7_isLetter_1 (by decide) ?_
  refine aw_aload_n X 0 dX7_isLetter_2 rfl ?_
  refine aw_getI X zf_RX7_91 rfl zs_87 dX7_isLetter_3 ?_
  refine aw_iconst (v := 1) X dX7_isLetter_6 (by decide) ?_
  refine aw_isub X dX7_isLetter_7 ?_
  refine aw_pS X (as := [vI a1, vI 0, vI ((I 87 3) - 1)]) mf_X7_within zw_1134 (p_X7_within) rfl rfl (by decide) (Nat.le_of_ble_eq_true rfl) dX7_isLetter_8 ?_
  exact aw_zret X E rfl (b_X7_within) dX7_isLetter_11 (hJ _ rfl)
theorem b_X7_isLetter {I : zI} {a1 : Int32} : v_X7_isLetter I a1 = 0 ∨ v_X7_isLetter I a1 = 1 := by unfold v_X7_isLetter; exact (b_X7_within)
def v_X7_melts (I : zI) (a1 : Int32) (a2 : Int32) : Int32 := if (I 92 a1.toNatClampNeg) = 4 then if a2 < (I 94 a1.toNatClampNeg) then (I 87 14) + (if (I 92 a1.toNatClampNeg) = 3 then I 93 a1.toNatClampNeg else if (I 92 a1.toNatClampNeg) = 6 then I 93 a1.toNatClampNeg else ((I 93 a1.toNatClampNeg) / 3)) else (((I 87 14) + (if (I 92 a1.toNatClampNeg) = 3 then I 93 a1.toNatClampNeg else if (I 92 a1.toNatClampNeg) = 6 then I 93 a1.toNatClampNeg else ((I 93 a1.toNatClampNeg) / 3))) + 3) else ((I 87 14) + (if (I 92 a1.toNatClampNeg) = 3 then I 93 a1.toNatClampNeg else if (I 92 a1.toNatClampNeg) = 6 then I 93 a1.toNatClampNeg else ((I 93 a1.toNatClampNeg) / 3)))
def k_X7_melts (I : zI) (a1 : Int32) (a2 : Int32) : Prop := vp_in a1 8
set_option maxRecDepth 100000 in
theorem p_X7_melts {l : Launch} {g : zG} {I : zI} {L : zL} {a1 : Int32} {a2 : Int32}  (hk0 : k_X7_melts I a1 a2) : Call l g 1 M_X7_melts [vR 87, vI a1, vI a2] I L (zp (some (vI (v_X7_melts I a1 a2))) I L) := by
  refine aw_entry (by decide) (Nat.le_of_ble_eq_true rfl) (fun k hk (X : zX k g cX7_melts RX7 4 (some .int) 1) E => ?_)
  show AW k g 4 I L 0 [(0, vR 87), (1, vI a1), (2, vI a2)] []
  subst hk
  have n1 : vp_in a1 8 := hk0
  have hJ : ∀ w1 : Int32, w1 = (if (I 92 a1.toNatClampNeg) = 4 then if a2 < (I 94 a1.toNatClampNeg) then (I 87 14) + (if (I 92 a1.toNatClampNeg) = 3 then I 93 a1.toNatClampNeg else if (I 92 a1.toNatClampNeg) = 6 then I 93 a1.toNatClampNeg else ((I 93 a1.toNatClampNeg) / 3)) else (((I 87 14) + (if (I 92 a1.toNatClampNeg) = 3 then I 93 a1.toNatClampNeg else if (I 92 a1.toNatClampNeg) = 6 then I 93 a1.toNatClampNeg else ((I 93 a1.toNatClampNeg) / 3))) + 3) else ((I 87 14) + (if (I 92 a1.toNatClampNeg) = 3 then I 93 a1.toNatClampNeg else if (I 92 a1.toNatClampNeg) = 6 then I 93 a1.toNatClampNeg else ((I 93 a1.toNatClampNeg) / 3)))) → zp (some (vI (v_X7_melts I a1 a2))) I L (some (vI w1)) I L := fun w1 e1 => ⟨by rw [e1]; rfl, rfl, rfl⟩
  refine aw_aload_n X 0 dX7_melts_0 rfl ?_
  refine aw_getI X zf_RX7_72 rfl zs_87 dX7_melts_1 ?_
  refine aw_aload_n X 0 dX7_melts_4 rfl ?_
  refine aw_getR X zf_RX7_23 rfl zs_87 zr_87_6 dX7_melts_5 ?_
  refine aw_iload_n X 1 dX7_melts_8 rfl ?_
  refine aw_ialdj (j := a1.toNatClampNeg) X zs_92 n1 rfl dX7_melts_9 ?_
  refine aw_iconst (v := 3) X dX7_melts_10 (by decide) ?_
  have hJ7 : ∀ (w1 : Int32), w1 = (if (I 92 a1.toNatClampNeg) = 3 then I 93 a1.toNatClampNeg else if (I 92 a1.toNatClampNeg) = 6 then I 93 a1.toNatClampNeg else ((I 93 a1.toNatClampNeg) / 3)) → AW k g 4 I L 42 [(0, vR 87), (1, vI a1), (2, vI a2)] [vI w1, vI (I 87 14)] := by
    intro w1 q1
    subst q1
    refine aw_iadd X dX7_melts_42 ?_
    refine aw_istore_n X dX7_melts_43 (by decide) rfl ?_
    refine aw_aload_n X 1 dX7_melts_44 rfl ?_
    refine aw_getR X zf_RX7_23 rfl zs_87 zr_87_6 dX7_melts_45 ?_
    refine aw_iload_n X 2 dX7_melts_48 rfl ?_
    refine aw_ialdj (j := a1.toNatClampNeg) X zs_92 n1 rfl dX7_melts_49 ?_
    refine aw_iconst (v := 4) X dX7_melts_50 (by decide) ?_
    have hJ6 : ∀ (w1 : Int32), w1 = (if (I 92 a1.toNatClampNeg) = 4 then if a2 < (I 94 a1.toNatClampNeg) then (I 87 14) + (if (I 92 a1.toNatClampNeg) = 3 then I 93 a1.toNatClampNeg else if (I 92 a1.toNatClampNeg) = 6 then I 93 a1.toNatClampNeg else ((I 93 a1.toNatClampNeg) / 3)) else (((I 87 14) + (if (I 92 a1.toNatClampNeg) = 3 then I 93 a1.toNatClampNeg else if (I 92 a1.toNatClampNeg) = 6 then I 93 a1.toNatClampNeg else ((I 93 a1.toNatClampNeg) / 3))) + 3) else ((I 87 14) + (if (I 92 a1.toNatClampNeg) = 3 then I 93 a1.toNatClampNeg else if (I 92 a1.toNatClampNeg) = 6 then I 93 a1.toNatClampNeg else ((I 93 a1.toNatClampNeg) / 3)))) → AW k g 4 I L 71 [] [vI w1] := by
      intro w1 q1
      subst q1
      exact aw_iret X E rfl dX7_melts_71 (hJ _ rfl)
    refine aw_icmp_ne X 70 dX7_melts_51 rfl (fun c4 => ?_) (fun c4 => ?_)
    · refine aw_iload_n X 0 dX7_melts_70 rfl ?_
      refine aw_perm (ks9 := []) [] rfl ?_
      exact hJ6 _ (if_neg c4).symm
    · refine aw_iload_n X 3 dX7_melts_54 rfl ?_
      refine aw_aload_n X 1 dX7_melts_55 rfl ?_
      refine aw_getR X zf_RX7_29 rfl zs_87 zr_87_8 dX7_melts_56 ?_
      refine aw_iload_n X 2 dX7_melts_59 rfl ?_
      refine aw_ialdj (j := a1.toNatClampNeg) X zs_94 n1 rfl dX7_melts_60 ?_
      refine aw_icmp_lt X 70 dX7_melts_61 rfl (fun c5 => ?_) (fun c5 => ?_)
      · refine aw_iload_n X 0 dX7_melts_70 rfl ?_
        refine aw_perm (ks9 := []) [] rfl ?_
        exact hJ6 _ ((if_pos c5).symm.trans (if_pos c4).symm)
      · refine aw_iload_n X 0 dX7_melts_64 rfl ?_
        refine aw_iconst (v := 3) X dX7_melts_65 (by decide) ?_
        refine aw_iadd X dX7_melts_66 ?_
        refine aw_goto X 71 dX7_melts_67 rfl ?_
        refine aw_perm (ks9 := []) [] rfl ?_
        exact hJ6 _ ((if_neg c5).symm.trans (if_pos c4).symm)
  refine aw_icmp_eq X 25 dX7_melts_11 rfl (fun c2 => ?_) (fun c2 => ?_)
  · refine aw_aload_n X 0 dX7_melts_25 rfl ?_
    refine aw_getR X zf_RX7_26 rfl zs_87 zr_87_7 dX7_melts_26 ?_
    refine aw_iload_n X 1 dX7_melts_29 rfl ?_
    refine aw_ialdj (j := a1.toNatClampNeg) X zs_93 n1 rfl dX7_melts_30 ?_
    refine aw_goto X 42 dX7_melts_31 rfl ?_
    refine aw_perm (ks9 := [(0, vR 87), (1, vI a1), (2, vI a2)]) [0, 1, 2] rfl ?_
    exact hJ7 _ (if_pos c2).symm
  · refine aw_aload_n X 0 dX7_melts_14 rfl ?_
    refine aw_getR X zf_RX7_23 rfl zs_87 zr_87_6 dX7_melts_15 ?_
    refine aw_iload_n X 1 dX7_melts_18 rfl ?_
    refine aw_ialdj (j := a1.toNatClampNeg) X zs_92 n1 rfl dX7_melts_19 ?_
    refine aw_bipush (v := 6) X dX7_melts_20 (by decide) ?_
    refine aw_icmp_ne X 34 dX7_melts_22 rfl (fun c3 => ?_) (fun c3 => ?_)
    · refine aw_aload_n X 0 dX7_melts_34 rfl ?_
      refine aw_getR X zf_RX7_26 rfl zs_87 zr_87_7 dX7_melts_35 ?_
      refine aw_iload_n X 1 dX7_melts_38 rfl ?_
      refine aw_ialdj (j := a1.toNatClampNeg) X zs_93 n1 rfl dX7_melts_39 ?_
      refine aw_iconst (v := 3) X dX7_melts_40 (by decide) ?_
      refine aw_idiv X dX7_melts_41 (by decide) ?_
      refine aw_perm (ks9 := [(0, vR 87), (1, vI a1), (2, vI a2)]) [0, 1, 2] rfl ?_
      exact hJ7 _ ((if_neg c3).symm.trans (if_neg c2).symm)
    · refine aw_aload_n X 0 dX7_melts_25 rfl ?_
      refine aw_getR X zf_RX7_26 rfl zs_87 zr_87_7 dX7_melts_26 ?_
      refine aw_iload_n X 1 dX7_melts_29 rfl ?_
      refine aw_ialdj (j := a1.toNatClampNeg) X zs_93 n1 rfl dX7_melts_30 ?_
      refine aw_goto X 42 dX7_melts_31 rfl ?_
      refine aw_perm (ks9 := [(0, vR 87), (1, vI a1), (2, vI a2)]) [0, 1, 2] rfl ?_
      exact hJ7 _ ((if_pos c3).symm.trans (if_neg c2).symm)
set_option maxRecDepth 100000 in
theorem s_X7_melting_10 {k : zK} {g : zG} {Q : Option zv → zI → zL → Prop} {I : zI} {L : zL} {y3 : Int32} {y4 : Int32}  (X : zX k g cX7_melting RX7 6 none 2) (E : zE k g Q) (h : if y4 < 16 then (vp_in y4 16 ∧ (AW k g 6 (zs I 102 y4.toNatClampNeg (I 101 y4.toNatClampNeg)) L 10 [(0, vR 87), (3, vI y3), (4, vI (y4 + 1))] [])) else (AW k g 6 I L 40 [(0, vR 87), (3, vI y3), (4, vI 0)] [])) : AW k g 6 I L 10 [(0, vR 87), (3, vI y3), (4, vI y4)] [] := by
  refine aw_iload X 2 dX7_melting_10 rfl ?_
  refine aw_bipush (v := 16) X dX7_melting_12 (by decide) ?_
  refine aw_icmp_gen X 37 dX7_melting_14 rfl (fun c1 => ?_) (fun c1 => ?_)
  · replace h := zifp c1 h
    refine aw_aload_n X 0 dX7_melting_17 rfl ?_
    refine aw_getR X zf_RX7_53 rfl zs_87 zr_87_25 dX7_melting_18 ?_
    refine aw_iload X 2 dX7_melting_21 rfl ?_
    refine aw_aload_n X 0 dX7_melting_23 rfl ?_
    refine aw_getR X zf_RX7_50 rfl zs_87 zr_87_24 dX7_melting_24 ?_
    refine aw_iload X 2 dX7_melting_27 rfl ?_
    have n2 := h.1
    replace h := h.2
    refine aw_ialdj (j := y4.toNatClampNeg) X zs_101 n2 rfl dX7_melting_29 ?_
    refine aw_iastj (j := y4.toNatClampNeg) X zs_102 n2 rfl dX7_melting_30 ?_
    refine aw_iinc (v := y4 + 1) X 2 dX7_melting_31 rfl rfl (by decide) rfl ?_
    refine aw_goto X 10 dX7_melting_34 rfl ?_
    refine aw_perm (ks9 := [(0, vR 87), (3, vI y3), (4, vI (y4 + 1))]) [1, 2, 0] rfl ?_
    exact h
  · replace h := zifn c1 h
    refine aw_iconst (v := 0) X dX7_melting_37 (by decide) ?_
    refine aw_istore X dX7_melting_38 (by decide) rfl ?_
    refine aw_perm (ks9 := [(0, vR 87), (3, vI y3), (4, vI 0)]) [1, 2, 0] rfl ?_
    exact h
set_option maxRecDepth 100000 in
theorem s_X7_melting_40 {k : zK} {g : zG} {Q : Option zv → zI → zL → Prop} {I : zI} {L : zL} {y3 : Int32} {y4 : Int32}  (X : zX k g cX7_melting RX7 6 none 2) (E : zE k g Q) (h : if y4 < 16 then ((¬ ((jrem y4 4) = 0) → (¬ ((jrem y4 4) = 3) → vp_in (y4 - 1) 16 ∧ (¬ ((I 102 ((y4 - 1).toNatClampNeg)) = 0) → vp_in (y4 + 1) 16))) ∧ ((∀ u12 : Int32, u12 = (if (jrem y4 4) = 0 then 1 else if (jrem y4 4) = 3 then 1 else if (I 102 ((y4 - 1).toNatClampNeg)) = 0 then 1 else if (I 102 ((y4 + 1).toNatClampNeg)) = 0 then 1 else (0 : Int32)) → vp_in y4 16 ∧ (AW k g 6 (zs I 101 y4.toNatClampNeg (jmax 0 (((I 102 y4.toNatClampNeg) - y3) - (if 0 < y3 then if u12 = 0 then 0 else (1 : Int32) else (0 : Int32))))) L 40 [(0, vR 87), (3, vI y3), (4, vI (y4 + 1))] [])))) else (Q none I L)) : AW k g 6 I L 40 [(0, vR 87), (3, vI y3), (4, vI y4)] [] := by
  refine aw_iload X 2 dX7_melting_40 rfl ?_
  refine aw_bipush (v := 16) X dX7_melting_42 (by decide) ?_
  refine aw_icmp_gen X 134 dX7_melting_44 rfl (fun c1 => ?_) (fun c1 => ?_)
  · replace h := zifp c1 h
    refine aw_iload X 2 dX7_melting_47 rfl ?_
    refine aw_iconst (v := 4) X dX7_melting_49 (by decide) ?_
    refine aw_irem X dX7_melting_50 (by decide) ?_
    have n10 := h.1
    replace h := h.2
    have hJ11 : ∀ (u12 : Int32), u12 = (if (jrem y4 4) = 0 then 1 else if (jrem y4 4) = 3 then 1 else if (I 102 ((y4 - 1).toNatClampNeg)) = 0 then 1 else if (I 102 ((y4 + 1).toNatClampNeg)) = 0 then 1 else (0 : Int32)) → AW k g 6 I L 91 [(0, vR 87), (3, vI y3), (4, vI y4)] [vI u12] := by
      intro u12 q1
      replace h := h u12 q1
      refine aw_istore X dX7_melting_91 (by decide) rfl ?_
      refine aw_aload_n X 1 dX7_melting_93 rfl ?_
      refine aw_getR X zf_RX7_50 rfl zs_87 zr_87_24 dX7_melting_94 ?_
      refine aw_iload X 3 dX7_melting_97 rfl ?_
      refine aw_iconst (v := 0) X dX7_melting_99 (by decide) ?_
      refine aw_aload_n X 1 dX7_melting_100 rfl ?_
      refine aw_getR X zf_RX7_53 rfl zs_87 zr_87_25 dX7_melting_101 ?_
      refine aw_iload X 3 dX7_melting_104 rfl ?_
      have n13 := h.1
      replace h := h.2
      refine aw_ialdj (j := y4.toNatClampNeg) X zs_102 n13 rfl dX7_melting_106 ?_
      refine aw_iload_n X 2 dX7_melting_107 rfl ?_
      refine aw_isub X dX7_melting_108 ?_
      refine aw_iload_n X 2 dX7_melting_109 rfl ?_
      have hJ16 : ∀ (w1 : Int32), w1 = (if 0 < y3 then if u12 = 0 then 0 else (1 : Int32) else (0 : Int32)) → AW k g 6 I L 123 [(0, vR 87), (3, vI y3), (4, vI y4)] [vI w1, vI ((I 102 y4.toNatClampNeg) - y3), vI 0, vI y4, vR 101] := by
        intro w1 q1
        subst q1
        refine aw_isub X dX7_melting_123 ?_
        refine aw_max X (by decide) (Nat.le_of_ble_eq_true rfl) ⟨zw_1187, zw_407, zw_69, zw_408⟩ dX7_melting_124 ?_
        refine aw_iastj (j := y4.toNatClampNeg) X zs_101 n13 rfl dX7_melting_127 ?_
        refine aw_iinc (v := y4 + 1) X 2 dX7_melting_128 rfl rfl (by decide) rfl ?_
        refine aw_goto X 40 dX7_melting_131 rfl ?_
        refine aw_perm (ks9 := [(0, vR 87), (3, vI y3), (4, vI (y4 + 1))]) [1, 2, 0] rfl ?_
        exact h
      refine aw_if_len X 122 dX7_melting_110 rfl (fun c14 => ?_) (fun c14 => ?_)
      · refine aw_iload X 0 dX7_melting_113 rfl ?_
        refine aw_if_eq X 122 dX7_melting_115 rfl (fun c15 => ?_) (fun c15 => ?_)
        · refine aw_iconst (v := 0) X dX7_melting_122 (by decide) ?_
          refine aw_perm (ks9 := [(0, vR 87), (3, vI y3), (4, vI y4)]) [1, 2, 3] rfl ?_
          exact hJ16 _ ((if_pos c15).symm.trans (if_pos c14).symm)
        · refine aw_iconst (v := 1) X dX7_melting_118 (by decide) ?_
          refine aw_goto X 123 dX7_melting_119 rfl ?_
          refine aw_perm (ks9 := [(0, vR 87), (3, vI y3), (4, vI y4)]) [1, 2, 3] rfl ?_
          exact hJ16 _ ((if_neg c15).symm.trans (if_pos c14).symm)
      · refine aw_iconst (v := 0) X dX7_melting_122 (by decide) ?_
        refine aw_perm (ks9 := [(0, vR 87), (3, vI y3), (4, vI y4)]) [1, 2, 3] rfl ?_
        exact hJ16 _ (if_neg c14).symm
    refine aw_if_eq X 86 dX7_melting_51 rfl (fun c2 => ?_) (fun c2 => ?_)
    · refine aw_iconst (v := 1) X dX7_melting_86 (by decide) ?_
      refine aw_goto X 91 dX7_melting_87 rfl ?_
      refine aw_perm (ks9 := [(0, vR 87), (3, vI y3), (4, vI y4)]) [0, 1, 2] rfl ?_
      exact hJ11 _ (if_pos c2).symm
    · have n9 := (n10 c2)
      refine aw_iload X 2 dX7_melting_54 rfl ?_
      refine aw_iconst (v := 4) X dX7_melting_56 (by decide) ?_
      refine aw_irem X dX7_melting_57 (by decide) ?_
      refine aw_iconst (v := 3) X dX7_melting_58 (by decide) ?_
      refine aw_icmp_eq X 86 dX7_melting_59 rfl (fun c3 => ?_) (fun c3 => ?_)
      · refine aw_iconst (v := 1) X dX7_melting_86 (by decide) ?_
        refine aw_goto X 91 dX7_melting_87 rfl ?_
        refine aw_perm (ks9 := [(0, vR 87), (3, vI y3), (4, vI y4)]) [0, 1, 2] rfl ?_
        exact hJ11 _ ((if_pos c3).symm.trans (if_neg c2).symm)
      · obtain ⟨n4, n8⟩ := (n9 c3)
        refine aw_aload_n X 0 dX7_melting_62 rfl ?_
        refine aw_getR X zf_RX7_53 rfl zs_87 zr_87_25 dX7_melting_63 ?_
        refine aw_iload X 2 dX7_melting_66 rfl ?_
        refine aw_iconst (v := 1) X dX7_melting_68 (by decide) ?_
        refine aw_isub X dX7_melting_69 ?_
        refine aw_ialdj (j := (y4 - 1).toNatClampNeg) X zs_102 n4 rfl dX7_melting_70 ?_
        refine aw_if_eq X 86 dX7_melting_71 rfl (fun c5 => ?_) (fun c5 => ?_)
        · refine aw_iconst (v := 1) X dX7_melting_86 (by decide) ?_
          refine aw_goto X 91 dX7_melting_87 rfl ?_
          refine aw_perm (ks9 := [(0, vR 87), (3, vI y3), (4, vI y4)]) [0, 1, 2] rfl ?_
          exact hJ11 _ (((if_pos c5).symm.trans (if_neg c3).symm).trans (if_neg c2).symm)
        · have n6 := (n8 c5)
          refine aw_aload_n X 0 dX7_melting_74 rfl ?_
          refine aw_getR X zf_RX7_53 rfl zs_87 zr_87_25 dX7_melting_75 ?_
          refine aw_iload X 2 dX7_melting_78 rfl ?_
          refine aw_iconst (v := 1) X dX7_melting_80 (by decide) ?_
          refine aw_iadd X dX7_melting_81 ?_
          refine aw_ialdj (j := (y4 + 1).toNatClampNeg) X zs_102 n6 rfl dX7_melting_82 ?_
          refine aw_if_ne X 90 dX7_melting_83 rfl (fun c7 => ?_) (fun c7 => ?_)
          · refine aw_iconst (v := 0) X dX7_melting_90 (by decide) ?_
            refine aw_perm (ks9 := [(0, vR 87), (3, vI y3), (4, vI y4)]) [0, 1, 2] rfl ?_
            exact hJ11 _ ((((if_neg c7).symm.trans (if_neg c5).symm).trans (if_neg c3).symm).trans (if_neg c2).symm)
          · refine aw_iconst (v := 1) X dX7_melting_86 (by decide) ?_
            refine aw_goto X 91 dX7_melting_87 rfl ?_
            refine aw_perm (ks9 := [(0, vR 87), (3, vI y3), (4, vI y4)]) [0, 1, 2] rfl ?_
            exact hJ11 _ ((((if_pos c7).symm.trans (if_neg c5).symm).trans (if_neg c3).symm).trans (if_neg c2).symm)
  · replace h := zifn c1 h
    exact aw_vret X E rfl dX7_melting_134 h
set_option maxRecDepth 100000 in
theorem m_X7_melting {l : Launch} {g : zG} {Q : Option zv → zI → zL → Prop} {I : zI} {L : zL} {a1 : Int32} {a2 : Int32}  (h : ∀ k : zK, kl k = l → zX k g cX7_melting RX7 6 none 2 → zE k g Q → (k_X7_melts I a1 a2 ∧ (AW k g 6 I L 10 [(0, vR 87), (3, vI (v_X7_melts I a1 a2)), (4, vI 0)] []))) : Call l g 2 M_X7_melting [vR 87, vI a1, vI a2] I L Q := by
  refine aw_entry (by decide) (Nat.le_of_ble_eq_true rfl) (fun k hk (X : zX k g cX7_melting RX7 6 none 2) E => ?_)
  show AW k g 6 I L 0 [(0, vR 87), (1, vI a1), (2, vI a2)] []
  replace h := h k hk X E
  subst hk
  refine aw_aload_n X 0 dX7_melting_0 rfl ?_
  refine aw_iload_n X 1 dX7_melting_1 rfl ?_
  refine aw_iload_n X 2 dX7_melting_2 rfl ?_
  have n1 := h.1
  replace h := h.2
  refine aw_pV X (as := [vI a1, vI a2]) mf_X7_melts zw_1188 (p_X7_melts n1) zs_87 rfl rfl (by decide) (Nat.le_of_ble_eq_true rfl) dX7_melting_3 ?_
  refine aw_istore_n X dX7_melting_6 (by decide) rfl ?_
  refine aw_iconst (v := 0) X dX7_melting_7 (by decide) ?_
  refine aw_istore X dX7_melting_8 (by decide) rfl ?_
  refine aw_perm (ks9 := [(0, vR 87), (3, vI (v_X7_melts I a1 a2)), (4, vI 0)]) [2, 1, 0] rfl ?_
  exact h
set_option maxRecDepth 100000 in
theorem s_X7_becomes_18 {k : zK} {g : zG} {Q : Option zv → zI → zL → Prop} {I : zI} {L : zL} {y1 : Int32} {y2 : Int32} {y3 : Int32}  (X : zX k g cX7_becomes RX7 6 (some .int) 3) (E : zE k g Q) (h : if y3 < (I 87 5) then (Call (kl k) g 2 M_X7_freeze [vR 87, vI y3, vI y1] I L (zn fun I2 L2 => AW k g 6 I2 L2 35 [(0, vR 87), (1, vI y1), (2, vI y2), (3, vI y3), (4, vI 0)] [])) else (Q (some (vI y2)) I L)) : AW k g 6 I L 18 [(0, vR 87), (1, vI y1), (2, vI y2), (3, vI y3)] [] := by
  refine aw_iload_n X 3 dX7_becomes_18 rfl ?_
  refine aw_aload_n X 0 dX7_becomes_19 rfl ?_
  refine aw_getI X zf_RX7_84 rfl zs_87 dX7_becomes_20 ?_
  refine aw_icmp_gen X 97 dX7_becomes_23 rfl (fun c1 => ?_) (fun c1 => ?_)
  · replace h := zifp c1 h
    refine aw_aload_n X 0 dX7_becomes_26 rfl ?_
    refine aw_iload_n X 3 dX7_becomes_27 rfl ?_
    refine aw_iload_n X 1 dX7_becomes_28 rfl ?_
    refine aw_callV X (as := [vI y3, vI y1]) mf_X7_freeze zw_1290 h zs_87 rfl rfl (by decide) (Nat.le_of_ble_eq_true rfl) dX7_becomes_29 (fun v I2 L2 h => ?_)
    obtain ⟨rfl, h⟩ := h
    refine aw_iconst (v := 0) X dX7_becomes_32 (by decide) ?_
    refine aw_istore X dX7_becomes_33 (by decide) rfl ?_
    refine aw_perm (ks9 := [(0, vR 87), (1, vI y1), (2, vI y2), (3, vI y3), (4, vI 0)]) [1, 2, 3, 4, 0] rfl ?_
    exact h
  · replace h := zifn c1 h
    refine aw_iload_n X 2 dX7_becomes_97 rfl ?_
    exact aw_iret X E rfl dX7_becomes_98 h
set_option maxRecDepth 100000 in
theorem s_X7_becomes_35 {k : zK} {g : zG} {Q : Option zv → zI → zL → Prop} {I : zI} {L : zL} {y1 : Int32} {y2 : Int32} {y3 : Int32} {y4 : Int32}  (X : zX k g cX7_becomes RX7 6 (some .int) 3) (E : zE k g Q) (h : if y4 < 25 then (k_X7_read I (v_X7_shapeNow I) ∧ ((∀ u6 : Int32, u6 = (if (v_X7_read I (v_X7_shapeNow I)) = (-1) then y2 else if (v_X7_read I (v_X7_shapeNow I)) = y1 then y2 else (y2 ||| (jshl 1 (v_X7_read I (v_X7_shapeNow I))))) → if y4 < 24 then (Call (kl k) g 2 M_X7_melting [vR 87, vI y3, vI y4] I L (zn fun I8 L8 => AW k g 6 I8 L8 35 [(0, vR 87), (1, vI y1), (2, vI u6), (3, vI y3), (4, vI (y4 + 1))] [])) else (AW k g 6 I L 35 [(0, vR 87), (1, vI y1), (2, vI u6), (3, vI y3), (4, vI (y4 + 1))] [])))) else (AW k g 6 I L 18 [(0, vR 87), (1, vI y1), (2, vI y2), (3, vI (y3 + 1))] [])) : AW k g 6 I L 35 [(0, vR 87), (1, vI y1), (2, vI y2), (3, vI y3), (4, vI y4)] [] := by
  refine aw_iload X 4 dX7_becomes_35 rfl ?_
  refine aw_bipush (v := 25) X dX7_becomes_37 (by decide) ?_
  refine aw_icmp_gen X 91 dX7_becomes_39 rfl (fun c1 => ?_) (fun c1 => ?_)
  · replace h := zifp c1 h
    refine aw_aload_n X 0 dX7_becomes_42 rfl ?_
    refine aw_aload_n X 0 dX7_becomes_43 rfl ?_
    refine aw_pV X (as := []) mf_X7_shapeNow zw_1303 (p_X7_shapeNow) zs_87 rfl rfl (by decide) (Nat.le_of_ble_eq_true rfl) dX7_becomes_44 ?_
    have n2 := h.1
    replace h := h.2
    refine aw_pV X (as := [vI (v_X7_shapeNow I)]) mf_X7_read zw_1315 (p_X7_read n2) zs_87 rfl rfl (by decide) (Nat.le_of_ble_eq_true rfl) dX7_becomes_47 ?_
    refine aw_istore X dX7_becomes_50 (by decide) rfl ?_
    refine aw_iload X 0 dX7_becomes_52 rfl ?_
    refine aw_iconst (v := (-1)) X dX7_becomes_54 (by decide) ?_
    have hJ5 : ∀ (u6 : Int32), u6 = (if (v_X7_read I (v_X7_shapeNow I)) = (-1) then y2 else if (v_X7_read I (v_X7_shapeNow I)) = y1 then y2 else (y2 ||| (jshl 1 (v_X7_read I (v_X7_shapeNow I))))) → AW k g 6 I L 71 [(0, vR 87), (1, vI y1), (2, vI u6), (3, vI y3), (4, vI y4)] [] := by
      intro u6 q1
      replace h := h u6 q1
      refine aw_iload X 4 dX7_becomes_71 rfl ?_
      refine aw_bipush (v := 24) X dX7_becomes_73 (by decide) ?_
      refine aw_icmp_gen X 85 dX7_becomes_75 rfl (fun c7 => ?_) (fun c7 => ?_)
      · replace h := zifp c7 h
        refine aw_aload_n X 0 dX7_becomes_78 rfl ?_
        refine aw_iload_n X 3 dX7_becomes_79 rfl ?_
        refine aw_iload X 4 dX7_becomes_80 rfl ?_
        refine aw_callV X (as := [vI y3, vI y4]) mf_X7_melting zw_1299 h zs_87 rfl rfl (by decide) (Nat.le_of_ble_eq_true rfl) dX7_becomes_82 (fun v I8 L8 h => ?_)
        obtain ⟨rfl, h⟩ := h
        refine aw_iinc (v := y4 + 1) X 4 dX7_becomes_85 rfl rfl (by decide) rfl ?_
        refine aw_goto X 35 dX7_becomes_88 rfl ?_
        refine aw_perm (ks9 := [(0, vR 87), (1, vI y1), (2, vI u6), (3, vI y3), (4, vI (y4 + 1))]) [1, 2, 3, 4, 0] rfl ?_
        exact h
      · replace h := zifn c7 h
        refine aw_iinc (v := y4 + 1) X 4 dX7_becomes_85 rfl rfl (by decide) rfl ?_
        refine aw_goto X 35 dX7_becomes_88 rfl ?_
        refine aw_perm (ks9 := [(0, vR 87), (1, vI y1), (2, vI u6), (3, vI y3), (4, vI (y4 + 1))]) [1, 2, 3, 4, 0] rfl ?_
        exact h
    refine aw_icmp_eq X 71 dX7_becomes_55 rfl (fun c3 => ?_) (fun c3 => ?_)
    · refine aw_perm (ks9 := [(0, vR 87), (1, vI y1), (2, vI y2), (3, vI y3), (4, vI y4)]) [1, 2, 3, 4, 5] rfl ?_
      exact hJ5 _ (if_pos c3).symm
    · refine aw_iload X 0 dX7_becomes_58 rfl ?_
      refine aw_iload_n X 2 dX7_becomes_60 rfl ?_
      refine aw_icmp_eq X 71 dX7_becomes_61 rfl (fun c4 => ?_) (fun c4 => ?_)
      · refine aw_perm (ks9 := [(0, vR 87), (1, vI y1), (2, vI y2), (3, vI y3), (4, vI y4)]) [1, 2, 3, 4, 5] rfl ?_
        exact hJ5 _ ((if_pos c4).symm.trans (if_neg c3).symm)
      · refine aw_iload_n X 3 dX7_becomes_64 rfl ?_
        refine aw_iconst (v := 1) X dX7_becomes_65 (by decide) ?_
        refine aw_iload X 0 dX7_becomes_66 rfl ?_
        refine aw_ishl X dX7_becomes_68 ?_
        refine aw_ior X dX7_becomes_69 ?_
        refine aw_istore_n X dX7_becomes_70 (by decide) rfl ?_
        refine aw_perm (ks9 := [(0, vR 87), (1, vI y1), (2, vI (y2 ||| (jshl 1 (v_X7_read I (v_X7_shapeNow I))))), (3, vI y3), (4, vI y4)]) [2, 3, 0, 4, 5] rfl ?_
        exact hJ5 _ ((if_neg c4).symm.trans (if_neg c3).symm)
  · replace h := zifn c1 h
    refine aw_iinc (v := y3 + 1) X 3 dX7_becomes_91 rfl rfl (by decide) rfl ?_
    refine aw_goto X 18 dX7_becomes_94 rfl ?_
    refine aw_perm (ks9 := [(0, vR 87), (1, vI y1), (2, vI y2), (3, vI (y3 + 1))]) [1, 2, 3, 0] rfl ?_
    exact h
set_option maxRecDepth 100000 in
theorem m_X7_becomes {l : Launch} {g : zG} {Q : Option zv → zI → zL → Prop} {I : zI} {L : zL} {a1 : Int32}  (h : ∀ k : zK, kl k = l → zX k g cX7_becomes RX7 6 (some .int) 3 → zE k g Q → (if (v_X7_isLetter I a1) = 0 then (Call (kl k) g 1 M_X7_no [vR 87, vI (-1)] I L (zi fun r2 I2 L2 => Q (some (vI r2)) I2 L2)) else (AW k g 6 I L 18 [(0, vR 87), (1, vI a1), (2, vI 0), (3, vI 0)] []))) : Call l g 3 M_X7_becomes [vR 87, vI a1] I L Q := by
  refine aw_entry (by decide) (Nat.le_of_ble_eq_true rfl) (fun k hk (X : zX k g cX7_becomes RX7 6 (some .int) 3) E => ?_)
  show AW k g 6 I L 0 [(0, vR 87), (1, vI a1)] []
  replace h := h k hk X E
  subst hk
  refine aw_aload_n X 0 dX7_becomes_0 rfl ?_
  refine aw_iload_n X 1 dX7_becomes_1 rfl ?_
  refine aw_pV X (as := [vI a1]) mf_X7_isLetter zw_1201 (p_X7_isLetter) zs_87 rfl rfl (by decide) (Nat.le_of_ble_eq_true rfl) dX7_becomes_2 ?_
  refine aw_if_ne X 14 dX7_becomes_5 rfl (fun c1 => ?_) (fun c1 => ?_)
  · replace h := zifn c1 h
    refine aw_iconst (v := 0) X dX7_becomes_14 (by decide) ?_
    refine aw_istore_n X dX7_becomes_15 (by decide) rfl ?_
    refine aw_iconst (v := 0) X dX7_becomes_16 (by decide) ?_
    refine aw_istore_n X dX7_becomes_17 (by decide) rfl ?_
    refine aw_perm (ks9 := [(0, vR 87), (1, vI a1), (2, vI 0), (3, vI 0)]) [2, 3, 1, 0] rfl ?_
    exact h
  · replace h := zifp c1 h
    refine aw_aload_n X 0 dX7_becomes_8 rfl ?_
    refine aw_iconst (v := (-1)) X dX7_becomes_9 (by decide) ?_
    refine aw_callV X (as := [vI (-1)]) mf_X7_no zw_1137 h zs_87 rfl rfl (by decide) (Nat.le_of_ble_eq_true rfl) dX7_becomes_10 (fun v I2 L2 h => ?_)
    obtain ⟨r2, rfl, h⟩ := h
    exact aw_iret X E rfl dX7_becomes_13 h
set_option maxRecDepth 100000 in
theorem s_X7_breath_36 {k : zK} {g : zG} {Q : Option zv → zI → zL → Prop} {I : zI} {L : zL} {y1 : Int32} {y2 : Int32} {y3 : Int32} {y4 : Int32}  (X : zX k g cX7_breath RX7 6 (some .int) 3) (E : zE k g Q) (h : if y4 < 16 then (if 1 < ((jabs ((y4 / 4) - (y2 / 4))) + (jabs ((jrem y4 4) - (jrem y2 4)))) then (AW k g 6 I L 36 [(0, vR 87), (1, vI y1), (2, vI y2), (3, vI y3), (4, vI (y4 + 1))] []) else (vp_in ((16 * y1) + y4) 128 ∧ (if (I 97 (((16 * y1) + y4).toNatClampNeg)) = 0 then (AW k g 6 I L 36 [(0, vR 87), (1, vI y1), (2, vI y2), (3, vI y3), (4, vI (y4 + 1))] []) else (AW k g 6 (zs I 97 (((16 * y1) + y4).toNatClampNeg) 0) L 36 [(0, vR 87), (1, vI y1), (2, vI y2), (3, vI (y3 + 1)), (4, vI (y4 + 1))] [])))) else (Q (some (vI y3)) I L)) : AW k g 6 I L 36 [(0, vR 87), (1, vI y1), (2, vI y2), (3, vI y3), (4, vI y4)] [] := by
  refine aw_iload X 4 dX7_breath_36 rfl ?_
  refine aw_bipush (v := 16) X dX7_breath_38 (by decide) ?_
  refine aw_icmp_gen X 114 dX7_breath_40 rfl (fun c1 => ?_) (fun c1 => ?_)
  · replace h := zifp c1 h
    refine aw_iload X 4 dX7_breath_43 rfl ?_
    refine aw_iconst (v := 4) X dX7_breath_45 (by decide) ?_
    refine aw_idiv X dX7_breath_46 (by decide) ?_
    refine aw_iload_n X 2 dX7_breath_47 rfl ?_
    refine aw_iconst (v := 4) X dX7_breath_48 (by decide) ?_
    refine aw_idiv X dX7_breath_49 (by decide) ?_
    refine aw_isub X dX7_breath_50 ?_
    refine aw_abs X (by decide) (Nat.le_of_ble_eq_true rfl) ⟨zw_1404, zw_1405, zw_69, zw_1406⟩ dX7_breath_51 ?_
    refine aw_iload X 4 dX7_breath_54 rfl ?_
    refine aw_iconst (v := 4) X dX7_breath_56 (by decide) ?_
    refine aw_irem X dX7_breath_57 (by decide) ?_
    refine aw_iload_n X 2 dX7_breath_58 rfl ?_
    refine aw_iconst (v := 4) X dX7_breath_59 (by decide) ?_
    refine aw_irem X dX7_breath_60 (by decide) ?_
    refine aw_isub X dX7_breath_61 ?_
    refine aw_abs X (by decide) (Nat.le_of_ble_eq_true rfl) ⟨zw_1404, zw_1405, zw_69, zw_1406⟩ dX7_breath_62 ?_
    refine aw_iadd X dX7_breath_65 ?_
    refine aw_istore X dX7_breath_66 (by decide) rfl ?_
    refine aw_iload X 0 dX7_breath_68 rfl ?_
    refine aw_iconst (v := 1) X dX7_breath_70 (by decide) ?_
    refine aw_icmp_gt X 108 dX7_breath_71 rfl (fun c2 => ?_) (fun c2 => ?_)
    · replace h := zifp c2 h
      refine aw_iinc (v := y4 + 1) X 5 dX7_breath_108 rfl rfl (by decide) rfl ?_
      refine aw_goto X 36 dX7_breath_111 rfl ?_
      refine aw_perm (ks9 := [(0, vR 87), (1, vI y1), (2, vI y2), (3, vI y3), (4, vI (y4 + 1))]) [2, 3, 4, 5, 0] rfl ?_
      exact h
    · replace h := zifn c2 h
      refine aw_aload_n X 1 dX7_breath_74 rfl ?_
      refine aw_getR X zf_RX7_38 rfl zs_87 zr_87_11 dX7_breath_75 ?_
      refine aw_bipush (v := 16) X dX7_breath_78 (by decide) ?_
      refine aw_iload_n X 2 dX7_breath_80 rfl ?_
      refine aw_imul X dX7_breath_81 ?_
      refine aw_iload X 5 dX7_breath_82 rfl ?_
      refine aw_iadd X dX7_breath_84 ?_
      have n3 := h.1
      replace h := h.2
      refine aw_ialdj (j := ((16 * y1) + y4).toNatClampNeg) X zs_97 n3 rfl dX7_breath_85 ?_
      refine aw_if_ne X 92 dX7_breath_86 rfl (fun c4 => ?_) (fun c4 => ?_)
      · replace h := zifn c4 h
        refine aw_aload_n X 1 dX7_breath_92 rfl ?_
        refine aw_getR X zf_RX7_38 rfl zs_87 zr_87_11 dX7_breath_93 ?_
        refine aw_bipush (v := 16) X dX7_breath_96 (by decide) ?_
        refine aw_iload_n X 2 dX7_breath_98 rfl ?_
        refine aw_imul X dX7_breath_99 ?_
        refine aw_iload X 5 dX7_breath_100 rfl ?_
        refine aw_iadd X dX7_breath_102 ?_
        refine aw_iconst (v := 0) X dX7_breath_103 (by decide) ?_
        refine aw_iastj (j := ((16 * y1) + y4).toNatClampNeg) X zs_97 n3 rfl dX7_breath_104 ?_
        refine aw_iinc (v := y3 + 1) X 4 dX7_breath_105 rfl rfl (by decide) rfl ?_
        refine aw_iinc (v := y4 + 1) X 5 dX7_breath_108 rfl rfl (by decide) rfl ?_
        refine aw_goto X 36 dX7_breath_111 rfl ?_
        refine aw_perm (ks9 := [(0, vR 87), (1, vI y1), (2, vI y2), (3, vI (y3 + 1)), (4, vI (y4 + 1))]) [3, 4, 5, 1, 0] rfl ?_
        exact h
      · replace h := zifp c4 h
        refine aw_goto X 108 dX7_breath_89 rfl ?_
        refine aw_iinc (v := y4 + 1) X 5 dX7_breath_108 rfl rfl (by decide) rfl ?_
        refine aw_goto X 36 dX7_breath_111 rfl ?_
        refine aw_perm (ks9 := [(0, vR 87), (1, vI y1), (2, vI y2), (3, vI y3), (4, vI (y4 + 1))]) [2, 3, 4, 5, 0] rfl ?_
        exact h
  · replace h := zifn c1 h
    refine aw_iload_n X 3 dX7_breath_114 rfl ?_
    exact aw_iret X E rfl dX7_breath_115 h
set_option maxRecDepth 100000 in
theorem m_X7_breath {l : Launch} {g : zG} {Q : Option zv → zI → zL → Prop} {I : zI} {L : zL} {a1 : Int32} {a2 : Int32}  (h : ∀ k : zK, kl k = l → zX k g cX7_breath RX7 6 (some .int) 3 → zE k g Q → (if (v_X7_isPane I a1) = 0 then (Call (kl k) g 1 M_X7_no [vR 87, vI (-1)] I L (zi fun r4 I4 L4 => Q (some (vI r4)) I4 L4)) else (if (v_X7_within a2 0 15) = 0 then (Call (kl k) g 1 M_X7_no [vR 87, vI (-5)] I L (zi fun r3 I3 L3 => Q (some (vI r3)) I3 L3)) else (AW k g 6 I L 36 [(0, vR 87), (1, vI a1), (2, vI a2), (3, vI 0), (4, vI 0)] [])))) : Call l g 3 M_X7_breath [vR 87, vI a1, vI a2] I L Q := by
  refine aw_entry (by decide) (Nat.le_of_ble_eq_true rfl) (fun k hk (X : zX k g cX7_breath RX7 6 (some .int) 3) E => ?_)
  show AW k g 6 I L 0 [(0, vR 87), (1, vI a1), (2, vI a2)] []
  replace h := h k hk X E
  subst hk
  refine aw_aload_n X 0 dX7_breath_0 rfl ?_
  refine aw_iload_n X 1 dX7_breath_1 rfl ?_
  refine aw_pV X (as := [vI a1]) mf_X7_isPane zw_1165 (p_X7_isPane) zs_87 rfl rfl (by decide) (Nat.le_of_ble_eq_true rfl) dX7_breath_2 ?_
  refine aw_if_ne X 14 dX7_breath_5 rfl (fun c1 => ?_) (fun c1 => ?_)
  · replace h := zifn c1 h
    refine aw_iload_n X 2 dX7_breath_14 rfl ?_
    refine aw_iconst (v := 0) X dX7_breath_15 (by decide) ?_
    refine aw_bipush (v := 15) X dX7_breath_16 (by decide) ?_
    refine aw_pS X (as := [vI a2, vI 0, vI 15]) mf_X7_within zw_1134 (p_X7_within) rfl rfl (by decide) (Nat.le_of_ble_eq_true rfl) dX7_breath_18 ?_
    refine aw_if_ne X 31 dX7_breath_21 rfl (fun c2 => ?_) (fun c2 => ?_)
    · replace h := zifn c2 h
      refine aw_iconst (v := 0) X dX7_breath_31 (by decide) ?_
      refine aw_istore_n X dX7_breath_32 (by decide) rfl ?_
      refine aw_iconst (v := 0) X dX7_breath_33 (by decide) ?_
      refine aw_istore X dX7_breath_34 (by decide) rfl ?_
      refine aw_perm (ks9 := [(0, vR 87), (1, vI a1), (2, vI a2), (3, vI 0), (4, vI 0)]) [2, 3, 4, 1, 0] rfl ?_
      exact h
    · replace h := zifp c2 h
      refine aw_aload_n X 0 dX7_breath_24 rfl ?_
      refine aw_bipush (v := (-5)) X dX7_breath_25 (by decide) ?_
      refine aw_callV X (as := [vI (-5)]) mf_X7_no zw_1137 h zs_87 rfl rfl (by decide) (Nat.le_of_ble_eq_true rfl) dX7_breath_27 (fun v I3 L3 h => ?_)
      obtain ⟨r3, rfl, h⟩ := h
      exact aw_iret X E rfl dX7_breath_30 h
  · replace h := zifp c1 h
    refine aw_aload_n X 0 dX7_breath_8 rfl ?_
    refine aw_iconst (v := (-1)) X dX7_breath_9 (by decide) ?_
    refine aw_callV X (as := [vI (-1)]) mf_X7_no zw_1137 h zs_87 rfl rfl (by decide) (Nat.le_of_ble_eq_true rfl) dX7_breath_10 (fun v I4 L4 h => ?_)
    obtain ⟨r4, rfl, h⟩ := h
    exact aw_iret X E rfl dX7_breath_13 h
set_option maxRecDepth 100000 in
theorem m_X7_no10 {l : Launch} {g : zG} {Q : Option zv → zI → zL → Prop} {I : zI} {L : zL} {a1 : Int32}  (h : vp_in (-a1) 8 ∧ (Q (some (vI (a1 - 10))) (zs I 98 ((-a1).toNatClampNeg) ((I 98 ((-a1).toNatClampNeg)) + 1)) L)) : Call l g 1 M_X7_no10 [vR 87, vI a1] I L Q := by
  refine aw_entry (by decide) (Nat.le_of_ble_eq_true rfl) (fun k hk (X : zX k g cX7_no10 RX7 2 (some .int) 1) E => ?_)
  show AW k g 2 I L 0 [(0, vR 87), (1, vI a1)] []
  subst hk
  refine aw_aload_n X 0 dX7_no10_0 rfl ?_
  refine aw_getR X zf_RX7_41 rfl zs_87 zr_87_19 dX7_no10_1 ?_
  refine aw_iload_n X 1 dX7_no10_4 rfl ?_
  refine aw_ineg X dX7_no10_5 ?_
  refine aw_dup2 X dX7_no10_6 rfl rfl ?_
  have n1 := h.1
  replace h := h.2
  refine aw_ialdj (j := (-a1).toNatClampNeg) X zs_98 n1 rfl dX7_no10_7 ?_
  refine aw_iconst (v := 1) X dX7_no10_8 (by decide) ?_
  refine aw_iadd X dX7_no10_9 ?_
  refine aw_iastj (j := (-a1).toNatClampNeg) X zs_98 n1 rfl dX7_no10_10 ?_
  refine aw_iload_n X 1 dX7_no10_11 rfl ?_
  refine aw_bipush (v := 10) X dX7_no10_12 (by decide) ?_
  refine aw_isub X dX7_no10_14 ?_
  exact aw_iret X E rfl dX7_no10_15 h
set_option maxRecDepth 100000 in
theorem s_X7_shapeAt_9 {k : zK} {g : zG} {Q : Option zv → zI → zL → Prop} {I : zI} {L : zL} {y1 : Int32} {y3 : Int32} {y4 : Int32}  (X : zX k g cX7_shapeAt RX7 5 (some .int) 3) (E : zE k g Q) (h : if y4 < y3 then (Call (kl k) g 2 M_X7_melting [vR 87, vI y1, vI y4] I L (zn fun I2 L2 => AW k g 5 I2 L2 9 [(0, vR 87), (1, vI y1), (3, vI y3), (4, vI (y4 + 1))] [])) else (Q (some (vI (v_X7_shapeNow I))) I L)) : AW k g 5 I L 9 [(0, vR 87), (1, vI y1), (3, vI y3), (4, vI y4)] [] := by
  refine aw_iload X 3 dX7_shapeAt_9 rfl ?_
  refine aw_iload_n X 2 dX7_shapeAt_11 rfl ?_
  refine aw_icmp_gen X 28 dX7_shapeAt_12 rfl (fun c1 => ?_) (fun c1 => ?_)
  · replace h := zifp c1 h
    refine aw_aload_n X 0 dX7_shapeAt_15 rfl ?_
    refine aw_iload_n X 1 dX7_shapeAt_16 rfl ?_
    refine aw_iload X 3 dX7_shapeAt_17 rfl ?_
    refine aw_callV X (as := [vI y1, vI y4]) mf_X7_melting zw_1299 h zs_87 rfl rfl (by decide) (Nat.le_of_ble_eq_true rfl) dX7_shapeAt_19 (fun v I2 L2 h => ?_)
    obtain ⟨rfl, h⟩ := h
    refine aw_iinc (v := y4 + 1) X 3 dX7_shapeAt_22 rfl rfl (by decide) rfl ?_
    refine aw_goto X 9 dX7_shapeAt_25 rfl ?_
    refine aw_perm (ks9 := [(0, vR 87), (1, vI y1), (3, vI y3), (4, vI (y4 + 1))]) [1, 2, 3, 0] rfl ?_
    exact h
  · replace h := zifn c1 h
    refine aw_aload_n X 0 dX7_shapeAt_28 rfl ?_
    refine aw_pV X (as := []) mf_X7_shapeNow zw_1303 (p_X7_shapeNow) zs_87 rfl rfl (by decide) (Nat.le_of_ble_eq_true rfl) dX7_shapeAt_29 ?_
    exact aw_iret X E rfl dX7_shapeAt_32 h
set_option maxRecDepth 100000 in
theorem m_X7_shapeAt {l : Launch} {g : zG} {Q : Option zv → zI → zL → Prop} {I : zI} {L : zL} {a1 : Int32} {a2 : Int32} {a3 : Int32}  (h : ∀ k : zK, kl k = l → zX k g cX7_shapeAt RX7 5 (some .int) 3 → zE k g Q → (Call (kl k) g 2 M_X7_freeze [vR 87, vI a1, vI a2] I L (zn fun I1 L1 => AW k g 5 I1 L1 9 [(0, vR 87), (1, vI a1), (3, vI a3), (4, vI 0)] []))) : Call l g 3 M_X7_shapeAt [vR 87, vI a1, vI a2, vI a3] I L Q := by
  refine aw_entry (by decide) (Nat.le_of_ble_eq_true rfl) (fun k hk (X : zX k g cX7_shapeAt RX7 5 (some .int) 3) E => ?_)
  show AW k g 5 I L 0 [(0, vR 87), (1, vI a1), (2, vI a2), (3, vI a3)] []
  replace h := h k hk X E
  subst hk
  refine aw_aload_n X 0 dX7_shapeAt_0 rfl ?_
  refine aw_iload_n X 1 dX7_shapeAt_1 rfl ?_
  refine aw_iload_n X 2 dX7_shapeAt_2 rfl ?_
  refine aw_callV X (as := [vI a1, vI a2]) mf_X7_freeze zw_1290 h zs_87 rfl rfl (by decide) (Nat.le_of_ble_eq_true rfl) dX7_shapeAt_3 (fun v I1 L1 h => ?_)
  obtain ⟨rfl, h⟩ := h
  refine aw_iconst (v := 0) X dX7_shapeAt_6 (by decide) ?_
  refine aw_istore X dX7_shapeAt_7 (by decide) rfl ?_
  refine aw_perm (ks9 := [(0, vR 87), (1, vI a1), (3, vI a3), (4, vI 0)]) [1, 2, 4, 0] rfl ?_
  exact h
set_option maxRecDepth 100000 in
theorem m_X7_readAt {l : Launch} {g : zG} {Q : Option zv → zI → zL → Prop} {I : zI} {L : zL} {a1 : Int32} {a2 : Int32} {a3 : Int32}  (h : Call l g 3 M_X7_shapeAt [vR 87, vI a1, vI a2, vI a3] I L (zi fun r1 I1 L1 => k_X7_read I1 r1 ∧ (Q (some (vI (v_X7_read I1 r1))) I1 L1))) : Call l g 4 M_X7_readAt [vR 87, vI a1, vI a2, vI a3] I L Q := by
  refine aw_entry (by decide) (Nat.le_of_ble_eq_true rfl) (fun k hk (X : zX k g cX7_readAt RX7 4 (some .int) 4) E => ?_)
  show AW k g 4 I L 0 [(0, vR 87), (1, vI a1), (2, vI a2), (3, vI a3)] []
  subst hk
  refine aw_aload_n X 0 dX7_readAt_0 rfl ?_
  refine aw_aload_n X 0 dX7_readAt_1 rfl ?_
  refine aw_iload_n X 1 dX7_readAt_2 rfl ?_
  refine aw_iload_n X 2 dX7_readAt_3 rfl ?_
  refine aw_iload_n X 3 dX7_readAt_4 rfl ?_
  refine aw_callV X (as := [vI a1, vI a2, vI a3]) mf_X7_shapeAt zw_1286 h zs_87 rfl rfl (by decide) (Nat.le_of_ble_eq_true rfl) dX7_readAt_5 (fun v I1 L1 h => ?_)
  obtain ⟨r1, rfl, h⟩ := h
  have n2 := h.1
  replace h := h.2
  refine aw_pV X (as := [vI r1]) mf_X7_read zw_1315 (p_X7_read n2) zs_87 rfl rfl (by decide) (Nat.le_of_ble_eq_true rfl) dX7_readAt_8 ?_
  exact aw_iret X E rfl dX7_readAt_11 h
set_option maxRecDepth 100000 in
theorem s_X7_chill_51 {k : zK} {g : zG} {Q : Option zv → zI → zL → Prop} {I : zI} {L : zL} {y1 : Int32} {y2 : Int32} {y3 : Int32} {y4 : Int32} {y5 : Int32} {y6 : Int32}  (X : zX k g cX7_chill RX7 7 (some .int) 5) (E : zE k g Q) (h : if y6 < 41 then (if y5 < 0 then ((∀ I3 : zI, I3 = (zs I 87 12 y6) → Call (kl k) g 4 M_X7_readAt [vR 87, vI y1, vI y2, vI y3] I3 L (zi fun r4 I4 L4 => AW k g 7 I4 L4 51 [(0, vR 87), (1, vI y1), (2, vI y2), (3, vI y3), (4, vI y4), (5, vI (if r4 = y2 then y6 else y5)), (6, vI (y6 + 1))] []))) else (Q (some (vI y5)) (zs I 87 12 y4) L)) else (Q (some (vI y5)) (zs I 87 12 y4) L)) : AW k g 7 I L 51 [(0, vR 87), (1, vI y1), (2, vI y2), (3, vI y3), (4, vI y4), (5, vI y5), (6, vI y6)] [] := by
  refine aw_iload X 6 dX7_chill_51 rfl ?_
  refine aw_bipush (v := 41) X dX7_chill_53 (by decide) ?_
  refine aw_icmp_gen X 90 dX7_chill_55 rfl (fun c1 => ?_) (fun c1 => ?_)
  · replace h := zifp c1 h
    refine aw_iload X 5 dX7_chill_58 rfl ?_
    refine aw_if_gen X 90 dX7_chill_60 rfl (fun c2 => ?_) (fun c2 => ?_)
    · replace h := zifp c2 h
      refine aw_aload_n X 0 dX7_chill_63 rfl ?_
      refine aw_iload X 6 dX7_chill_64 rfl ?_
      refine aw_putI X zf_RX7_65 rfl rfl rfl zs_87 dX7_chill_66 ?_
      refine aw_aload_n X 0 dX7_chill_69 rfl ?_
      refine aw_iload_n X 1 dX7_chill_70 rfl ?_
      refine aw_iload_n X 2 dX7_chill_71 rfl ?_
      refine aw_iload_n X 3 dX7_chill_72 rfl ?_
      refine aw_nameI (fun I3 e3 => ?_)
      replace h := h I3 e3
      refine aw_callV X (as := [vI y1, vI y2, vI y3]) mf_X7_readAt zw_1324 h zs_87 rfl rfl (by decide) (Nat.le_of_ble_eq_true rfl) dX7_chill_73 (fun v I4 L4 h => ?_)
      obtain ⟨r4, rfl, h⟩ := h
      refine aw_iload_n X 2 dX7_chill_76 rfl ?_
      have hJ6 : ∀ (w1 : Int32), w1 = (if r4 = y2 then y6 else y5) → AW k g 7 I4 L4 84 [(0, vR 87), (1, vI y1), (2, vI y2), (3, vI y3), (4, vI y4), (5, vI w1), (6, vI y6)] [] := by
        intro w1 q1
        subst q1
        refine aw_iinc (v := y6 + 1) X 6 dX7_chill_84 rfl rfl (by decide) rfl ?_
        refine aw_goto X 51 dX7_chill_87 rfl ?_
        refine aw_perm (ks9 := [(0, vR 87), (1, vI y1), (2, vI y2), (3, vI y3), (4, vI y4), (5, vI (if r4 = y2 then y6 else y5)), (6, vI (y6 + 1))]) [1, 2, 3, 4, 5, 6, 0] rfl ?_
        exact h
      refine aw_icmp_ne X 84 dX7_chill_77 rfl (fun c5 => ?_) (fun c5 => ?_)
      · refine aw_perm (ks9 := [(0, vR 87), (1, vI y1), (2, vI y2), (3, vI y3), (4, vI y4), (5, vI y5), (6, vI y6)]) [0, 1, 2, 3, 4, 5, 6] rfl ?_
        exact hJ6 _ (if_neg c5).symm
      · refine aw_iload X 6 dX7_chill_80 rfl ?_
        refine aw_istore X dX7_chill_82 (by decide) rfl ?_
        refine aw_perm (ks9 := [(0, vR 87), (1, vI y1), (2, vI y2), (3, vI y3), (4, vI y4), (5, vI y6), (6, vI y6)]) [1, 2, 3, 4, 5, 0, 6] rfl ?_
        exact hJ6 _ (if_pos c5).symm
    · replace h := zifn c2 h
      refine aw_aload_n X 0 dX7_chill_90 rfl ?_
      refine aw_iload X 4 dX7_chill_91 rfl ?_
      refine aw_putI X zf_RX7_65 rfl rfl rfl zs_87 dX7_chill_93 ?_
      refine aw_iload X 5 dX7_chill_96 rfl ?_
      exact aw_iret X E rfl dX7_chill_98 h
  · replace h := zifn c1 h
    refine aw_aload_n X 0 dX7_chill_90 rfl ?_
    refine aw_iload X 4 dX7_chill_91 rfl ?_
    refine aw_putI X zf_RX7_65 rfl rfl rfl zs_87 dX7_chill_93 ?_
    refine aw_iload X 5 dX7_chill_96 rfl ?_
    exact aw_iret X E rfl dX7_chill_98 h
set_option maxRecDepth 100000 in
theorem m_X7_chill {l : Launch} {g : zG} {Q : Option zv → zI → zL → Prop} {I : zI} {L : zL} {a1 : Int32} {a2 : Int32} {a3 : Int32}  (h : ∀ k : zK, kl k = l → zX k g cX7_chill RX7 7 (some .int) 5 → zE k g Q → (if (v_X7_isPane I a1) = 0 then (Call (kl k) g 1 M_X7_no10 [vR 87, vI (-1)] I L (zi fun r2 I2 L2 => Q (some (vI r2)) I2 L2)) else (if (v_X7_isLetter I a2) = 0 then (Call (kl k) g 1 M_X7_no10 [vR 87, vI (-1)] I L (zi fun r6 I6 L6 => Q (some (vI r6)) I6 L6)) else (if (v_X7_within a3 0 24) = 0 then (Call (kl k) g 1 M_X7_no10 [vR 87, vI (-6)] I L (zi fun r5 I5 L5 => Q (some (vI r5)) I5 L5)) else (AW k g 7 I L 51 [(0, vR 87), (1, vI a1), (2, vI a2), (3, vI a3), (4, vI (I 87 12)), (5, vI (-1)), (6, vI 0)] []))))) : Call l g 5 M_X7_chill [vR 87, vI a1, vI a2, vI a3] I L Q := by
  refine aw_entry (by decide) (Nat.le_of_ble_eq_true rfl) (fun k hk (X : zX k g cX7_chill RX7 7 (some .int) 5) E => ?_)
  show AW k g 7 I L 0 [(0, vR 87), (1, vI a1), (2, vI a2), (3, vI a3)] []
  replace h := h k hk X E
  subst hk
  refine aw_aload_n X 0 dX7_chill_0 rfl ?_
  refine aw_iload_n X 1 dX7_chill_1 rfl ?_
  refine aw_pV X (as := [vI a1]) mf_X7_isPane zw_1165 (p_X7_isPane) zs_87 rfl rfl (by decide) (Nat.le_of_ble_eq_true rfl) dX7_chill_2 ?_
  refine aw_if_eq X 16 dX7_chill_5 rfl (fun c1 => ?_) (fun c1 => ?_)
  · replace h := zifp c1 h
    refine aw_aload_n X 0 dX7_chill_16 rfl ?_
    refine aw_iconst (v := (-1)) X dX7_chill_17 (by decide) ?_
    refine aw_callV X (as := [vI (-1)]) mf_X7_no10 zw_1221 h zs_87 rfl rfl (by decide) (Nat.le_of_ble_eq_true rfl) dX7_chill_18 (fun v I2 L2 h => ?_)
    obtain ⟨r2, rfl, h⟩ := h
    exact aw_iret X E rfl dX7_chill_21 h
  · replace h := zifn c1 h
    refine aw_aload_n X 0 dX7_chill_8 rfl ?_
    refine aw_iload_n X 2 dX7_chill_9 rfl ?_
    refine aw_pV X (as := [vI a2]) mf_X7_isLetter zw_1201 (p_X7_isLetter) zs_87 rfl rfl (by decide) (Nat.le_of_ble_eq_true rfl) dX7_chill_10 ?_
    refine aw_if_ne X 22 dX7_chill_13 rfl (fun c3 => ?_) (fun c3 => ?_)
    · replace h := zifn c3 h
      refine aw_iload_n X 3 dX7_chill_22 rfl ?_
      refine aw_iconst (v := 0) X dX7_chill_23 (by decide) ?_
      refine aw_bipush (v := 24) X dX7_chill_24 (by decide) ?_
      refine aw_pS X (as := [vI a3, vI 0, vI 24]) mf_X7_within zw_1134 (p_X7_within) rfl rfl (by decide) (Nat.le_of_ble_eq_true rfl) dX7_chill_26 ?_
      refine aw_if_ne X 39 dX7_chill_29 rfl (fun c4 => ?_) (fun c4 => ?_)
      · replace h := zifn c4 h
        refine aw_aload_n X 0 dX7_chill_39 rfl ?_
        refine aw_getI X zf_RX7_65 rfl zs_87 dX7_chill_40 ?_
        refine aw_istore X dX7_chill_43 (by decide) rfl ?_
        refine aw_iconst (v := (-1)) X dX7_chill_45 (by decide) ?_
        refine aw_istore X dX7_chill_46 (by decide) rfl ?_
        refine aw_iconst (v := 0) X dX7_chill_48 (by decide) ?_
        refine aw_istore X dX7_chill_49 (by decide) rfl ?_
        refine aw_perm (ks9 := [(0, vR 87), (1, vI a1), (2, vI a2), (3, vI a3), (4, vI (I 87 12)), (5, vI (-1)), (6, vI 0)]) [3, 4, 5, 6, 2, 1, 0] rfl ?_
        exact h
      · replace h := zifp c4 h
        refine aw_aload_n X 0 dX7_chill_32 rfl ?_
        refine aw_bipush (v := (-6)) X dX7_chill_33 (by decide) ?_
        refine aw_callV X (as := [vI (-6)]) mf_X7_no10 zw_1221 h zs_87 rfl rfl (by decide) (Nat.le_of_ble_eq_true rfl) dX7_chill_35 (fun v I5 L5 h => ?_)
        obtain ⟨r5, rfl, h⟩ := h
        exact aw_iret X E rfl dX7_chill_38 h
    · replace h := zifp c3 h
      refine aw_aload_n X 0 dX7_chill_16 rfl ?_
      refine aw_iconst (v := (-1)) X dX7_chill_17 (by decide) ?_
      refine aw_callV X (as := [vI (-1)]) mf_X7_no10 zw_1221 h zs_87 rfl rfl (by decide) (Nat.le_of_ble_eq_true rfl) dX7_chill_18 (fun v I6 L6 h => ?_)
      obtain ⟨r6, rfl, h⟩ := h
      exact aw_iret X E rfl dX7_chill_21 h
set_option maxRecDepth 100000 in
theorem s_X7_closest_22 {k : zK} {g : zG} {Q : Option zv → zI → zL → Prop} {I : zI} {L : zL} {y1 : Int32} {y2 : Int32} {y3 : Int32}  (X : zX k g cX7_closest RX7 6 (some .int) 2) (E : zE k g Q) (h : if y3 < (I 87 3) then (AW k g 6 I L 35 [(0, vR 87), (1, vI y1), (2, vI y2), (3, vI y3), (4, vI (y3 + 1))] []) else (Q (some (vI y1)) I L)) : AW k g 6 I L 22 [(0, vR 87), (1, vI y1), (2, vI y2), (3, vI y3)] [] := by
  refine aw_iload_n X 3 dX7_closest_22 rfl ?_
  refine aw_aload_n X 0 dX7_closest_23 rfl ?_
  refine aw_getI X zf_RX7_91 rfl zs_87 dX7_closest_24 ?_
  refine aw_icmp_gen X 95 dX7_closest_27 rfl (fun c1 => ?_) (fun c1 => ?_)
  · replace h := zifp c1 h
    refine aw_iload_n X 3 dX7_closest_30 rfl ?_
    refine aw_iconst (v := 1) X dX7_closest_31 (by decide) ?_
    refine aw_iadd X dX7_closest_32 ?_
    refine aw_istore X dX7_closest_33 (by decide) rfl ?_
    refine aw_perm (ks9 := [(0, vR 87), (1, vI y1), (2, vI y2), (3, vI y3), (4, vI (y3 + 1))]) [1, 2, 3, 4, 0] rfl ?_
    exact h
  · replace h := zifn c1 h
    refine aw_iload_n X 1 dX7_closest_95 rfl ?_
    exact aw_iret X E rfl dX7_closest_96 h
set_option maxRecDepth 100000 in
theorem s_X7_closest_35 {k : zK} {g : zG} {Q : Option zv → zI → zL → Prop} {I : zI} {L : zL} {y1 : Int32} {y2 : Int32} {y3 : Int32} {y4 : Int32}  (X : zX k g cX7_closest RX7 6 (some .int) 2) (E : zE k g Q) (h : if y4 < (I 87 3) then (vp_in y3 8 ∧ (vp_in y4 8 ∧ ((∀ u6 : Int32, u6 = (if (v_J6_bitCount_0f7a4 ((I 91 y3.toNatClampNeg) ^^^ (I 91 y4.toNatClampNeg))) < y2 then (10 * y3) + y4 else y1) → ∀ u7 : Int32, u7 = (if (v_J6_bitCount_0f7a4 ((I 91 y3.toNatClampNeg) ^^^ (I 91 y4.toNatClampNeg))) < y2 then v_J6_bitCount_0f7a4 ((I 91 y3.toNatClampNeg) ^^^ (I 91 y4.toNatClampNeg)) else y2) → AW k g 6 I L 35 [(0, vR 87), (1, vI u6), (2, vI u7), (3, vI y3), (4, vI (y4 + 1))] [])))) else (AW k g 6 I L 22 [(0, vR 87), (1, vI y1), (2, vI y2), (3, vI (y3 + 1))] [])) : AW k g 6 I L 35 [(0, vR 87), (1, vI y1), (2, vI y2), (3, vI y3), (4, vI y4)] [] := by
  refine aw_iload X 4 dX7_closest_35 rfl ?_
  refine aw_aload_n X 0 dX7_closest_37 rfl ?_
  refine aw_getI X zf_RX7_91 rfl zs_87 dX7_closest_38 ?_
  refine aw_icmp_gen X 89 dX7_closest_41 rfl (fun c1 => ?_) (fun c1 => ?_)
  · replace h := zifp c1 h
    refine aw_aload_n X 0 dX7_closest_44 rfl ?_
    refine aw_getR X zf_RX7_20 rfl zs_87 zr_87_4 dX7_closest_45 ?_
    refine aw_iload_n X 3 dX7_closest_48 rfl ?_
    have n2 := h.1
    replace h := h.2
    refine aw_ialdj (j := y3.toNatClampNeg) X zs_91 n2 rfl dX7_closest_49 ?_
    refine aw_aload_n X 0 dX7_closest_50 rfl ?_
    refine aw_getR X zf_RX7_20 rfl zs_87 zr_87_4 dX7_closest_51 ?_
    refine aw_iload X 4 dX7_closest_54 rfl ?_
    have n3 := h.1
    replace h := h.2
    refine aw_ialdj (j := y4.toNatClampNeg) X zs_91 n3 rfl dX7_closest_56 ?_
    refine aw_ixor X dX7_closest_57 ?_
    refine aw_pS X (as := [vI ((I 91 y3.toNatClampNeg) ^^^ (I 91 y4.toNatClampNeg))]) mf_J6_bitCount_0f7a4 zw_1319 (p_J6_bitCount_0f7a4) rfl rfl (by decide) (Nat.le_of_ble_eq_true rfl) dX7_closest_58 ?_
    refine aw_istore X dX7_closest_61 (by decide) rfl ?_
    refine aw_iload X 0 dX7_closest_63 rfl ?_
    refine aw_iload_n X 3 dX7_closest_65 rfl ?_
    have hJ5 : ∀ (u6 : Int32) (u7 : Int32), u6 = (if (v_J6_bitCount_0f7a4 ((I 91 y3.toNatClampNeg) ^^^ (I 91 y4.toNatClampNeg))) < y2 then (10 * y3) + y4 else y1) → u7 = (if (v_J6_bitCount_0f7a4 ((I 91 y3.toNatClampNeg) ^^^ (I 91 y4.toNatClampNeg))) < y2 then v_J6_bitCount_0f7a4 ((I 91 y3.toNatClampNeg) ^^^ (I 91 y4.toNatClampNeg)) else y2) → AW k g 6 I L 83 [(0, vR 87), (1, vI u6), (2, vI u7), (3, vI y3), (4, vI y4)] [] := by
      intro u6 u7 q1 q2
      replace h := h u6 q1
      replace h := h u7 q2
      refine aw_iinc (v := y4 + 1) X 4 dX7_closest_83 rfl rfl (by decide) rfl ?_
      refine aw_goto X 35 dX7_closest_86 rfl ?_
      refine aw_perm (ks9 := [(0, vR 87), (1, vI u6), (2, vI u7), (3, vI y3), (4, vI (y4 + 1))]) [1, 2, 3, 4, 0] rfl ?_
      exact h
    refine aw_icmp_lt X 72 dX7_closest_66 rfl (fun c4 => ?_) (fun c4 => ?_)
    · refine aw_iload X 0 dX7_closest_72 rfl ?_
      refine aw_istore_n X dX7_closest_74 (by decide) rfl ?_
      refine aw_bipush (v := 10) X dX7_closest_75 (by decide) ?_
      refine aw_iload_n X 4 dX7_closest_77 rfl ?_
      refine aw_imul X dX7_closest_78 ?_
      refine aw_iload X 5 dX7_closest_79 rfl ?_
      refine aw_iadd X dX7_closest_81 ?_
      refine aw_istore_n X dX7_closest_82 (by decide) rfl ?_
      refine aw_perm (ks9 := [(0, vR 87), (1, vI ((10 * y3) + y4)), (2, vI (v_J6_bitCount_0f7a4 ((I 91 y3.toNatClampNeg) ^^^ (I 91 y4.toNatClampNeg)))), (3, vI y3), (4, vI y4)]) [3, 0, 1, 4, 5] rfl ?_
      exact hJ5 _ _ (if_pos c4).symm (if_pos c4).symm
    · refine aw_goto X 83 dX7_closest_69 rfl ?_
      refine aw_perm (ks9 := [(0, vR 87), (1, vI y1), (2, vI y2), (3, vI y3), (4, vI y4)]) [1, 2, 3, 4, 5] rfl ?_
      exact hJ5 _ _ (if_neg c4).symm (if_neg c4).symm
  · replace h := zifn c1 h
    refine aw_iinc (v := y3 + 1) X 3 dX7_closest_89 rfl rfl (by decide) rfl ?_
    refine aw_goto X 22 dX7_closest_92 rfl ?_
    refine aw_perm (ks9 := [(0, vR 87), (1, vI y1), (2, vI y2), (3, vI (y3 + 1))]) [1, 2, 3, 0] rfl ?_
    exact h
set_option maxRecDepth 100000 in
theorem m_X7_closest {l : Launch} {g : zG} {Q : Option zv → zI → zL → Prop} {I : zI} {L : zL}   (h : ∀ k : zK, kl k = l → zX k g cX7_closest RX7 6 (some .int) 2 → zE k g Q → (if (I 87 3) < 2 then (Call (kl k) g 1 M_X7_no [vR 87, vI (-5)] I L (zi fun r2 I2 L2 => Q (some (vI r2)) I2 L2)) else (AW k g 6 I L 22 [(0, vR 87), (1, vI (-1)), (2, vI 17), (3, vI 0)] []))) : Call l g 2 M_X7_closest [vR 87] I L Q := by
  refine aw_entry (by decide) (Nat.le_of_ble_eq_true rfl) (fun k hk (X : zX k g cX7_closest RX7 6 (some .int) 2) E => ?_)
  show AW k g 6 I L 0 [(0, vR 87)] []
  replace h := h k hk X E
  subst hk
  refine aw_aload_n X 0 dX7_closest_0 rfl ?_
  refine aw_getI X zf_RX7_91 rfl zs_87 dX7_closest_1 ?_
  refine aw_iconst (v := 2) X dX7_closest_4 (by decide) ?_
  refine aw_icmp_gen X 15 dX7_closest_5 rfl (fun c1 => ?_) (fun c1 => ?_)
  · replace h := zifp c1 h
    refine aw_aload_n X 0 dX7_closest_8 rfl ?_
    refine aw_bipush (v := (-5)) X dX7_closest_9 (by decide) ?_
    refine aw_callV X (as := [vI (-5)]) mf_X7_no zw_1137 h zs_87 rfl rfl (by decide) (Nat.le_of_ble_eq_true rfl) dX7_closest_11 (fun v I2 L2 h => ?_)
    obtain ⟨r2, rfl, h⟩ := h
    exact aw_iret X E rfl dX7_closest_14 h
  · replace h := zifn c1 h
    refine aw_iconst (v := (-1)) X dX7_closest_15 (by decide) ?_
    refine aw_istore_n X dX7_closest_16 (by decide) rfl ?_
    refine aw_bipush (v := 17) X dX7_closest_17 (by decide) ?_
    refine aw_istore_n X dX7_closest_19 (by decide) rfl ?_
    refine aw_iconst (v := 0) X dX7_closest_20 (by decide) ?_
    refine aw_istore_n X dX7_closest_21 (by decide) rfl ?_
    refine aw_perm (ks9 := [(0, vR 87), (1, vI (-1)), (2, vI 17), (3, vI 0)]) [3, 2, 1, 0] rfl ?_
    exact h
def v_X7_isRow (I : zI) (a1 : Int32) : Int32 := if (I 88 a1.toNatClampNeg) < 100 then 0 else (1 : Int32)
def k_X7_isRow (I : zI) (a1 : Int32) : Prop := vp_in a1 8
set_option maxRecDepth 100000 in
theorem p_X7_isRow {l : Launch} {g : zG} {I : zI} {L : zL} {a1 : Int32}  (hk0 : k_X7_isRow I a1) : Call l g 1 M_X7_isRow [vR 87, vI a1] I L (zp (some (vI (v_X7_isRow I a1))) I L) := by
  refine aw_entry (by decide) (Nat.le_of_ble_eq_true rfl) (fun k hk (X : zX k g cX7_isRow RX7 2 (some .boolean) 1) E => ?_)
  show AW k g 2 I L 0 [(0, vR 87), (1, vI a1)] []
  subst hk
  have n1 : vp_in a1 8 := hk0
  have hJ : ∀ w1 : Int32, w1 = (if (I 88 a1.toNatClampNeg) < 100 then 0 else (1 : Int32)) → zp (some (vI (v_X7_isRow I a1))) I L (some (vI w1)) I L := fun w1 e1 => ⟨by rw [e1]; rfl, rfl, rfl⟩
  refine aw_aload_n X 0 dX7_isRow_0 rfl ?_
  refine aw_getR X zf_RX7_7 rfl zs_87 zr_87_0 dX7_isRow_1 ?_
  refine aw_iload_n X 1 dX7_isRow_4 rfl ?_
  refine aw_ialdj (j := a1.toNatClampNeg) X zs_88 n1 rfl dX7_isRow_5 ?_
  refine aw_bipush (v := 100) X dX7_isRow_6 (by decide) ?_
  have hJ3 : ∀ (w1 : Int32), w1 = (if (I 88 a1.toNatClampNeg) < 100 then 0 else (1 : Int32)) → AW k g 2 I L 16 [] [vI w1] := by
    intro w1 q1
    subst q1
    exact aw_zret X E rfl (by (repeat' split) <;> first | exact Or.inl rfl | exact Or.inr rfl) dX7_isRow_16 (hJ _ rfl)
  refine aw_icmp_lt X 15 dX7_isRow_8 rfl (fun c2 => ?_) (fun c2 => ?_)
  · refine aw_iconst (v := 0) X dX7_isRow_15 (by decide) ?_
    refine aw_perm (ks9 := []) [] rfl ?_
    exact hJ3 _ (if_pos c2).symm
  · refine aw_iconst (v := 1) X dX7_isRow_11 (by decide) ?_
    refine aw_goto X 16 dX7_isRow_12 rfl ?_
    refine aw_perm (ks9 := []) [] rfl ?_
    exact hJ3 _ (if_neg c2).symm
theorem b_X7_isRow {I : zI} {a1 : Int32} (hk0 : k_X7_isRow I a1) : v_X7_isRow I a1 = 0 ∨ v_X7_isRow I a1 = 1 := by
  unfold v_X7_isRow
  repeat' split
  all_goals first | exact Or.inl rfl | exact Or.inr rfl | exact hk0 | exact hk0.1 | exact hk0.2
set_option maxRecDepth 100000 in
theorem s_X7_copy_203 {k : zK} {g : zG} {Q : Option zv → zI → zL → Prop} {I : zI} {L : zL} {y1 : Int32} {y2 : Int32} {y3 : Int32} {y4 : Int32} {y6 : Int32}  (X : zX k g cX7_copy RX7 7 (some .int) 2) (E : zE k g Q) (h : if y6 < 0 then (Q (some (vI 1)) I L) else (vp_in (((160 * y1) + y3) + y6) 1280 ∧ (vp_in (((160 * y2) + y4) + y6) 1280 ∧ (AW k g 7 I (zs L 90 ((((160 * y2) + y4) + y6).toNatClampNeg) (L 90 ((((160 * y1) + y3) + y6).toNatClampNeg))) 203 [(0, vR 87), (1, vI y1), (2, vI y2), (3, vI y3), (4, vI y4), (6, vI (y6 + (-1)))] [])))) : AW k g 7 I L 203 [(0, vR 87), (1, vI y1), (2, vI y2), (3, vI y3), (4, vI y4), (6, vI y6)] [] := by
  refine aw_iload X 5 dX7_copy_203 rfl ?_
  refine aw_if_lt X 245 dX7_copy_205 rfl (fun c1 => ?_) (fun c1 => ?_)
  · replace h := zifp c1 h
    refine aw_goto X 295 dX7_copy_245 rfl ?_
    refine aw_iconst (v := 1) X dX7_copy_295 (by decide) ?_
    exact aw_iret X E rfl dX7_copy_296 h
  · replace h := zifn c1 h
    refine aw_aload_n X 0 dX7_copy_208 rfl ?_
    refine aw_getR X zf_RX7_16 rfl zs_87 zr_87_2 dX7_copy_209 ?_
    refine aw_sipush (v := 160) X dX7_copy_212 (by decide) ?_
    refine aw_iload_n X 2 dX7_copy_215 rfl ?_
    refine aw_imul X dX7_copy_216 ?_
    refine aw_iload X 4 dX7_copy_217 rfl ?_
    refine aw_iadd X dX7_copy_219 ?_
    refine aw_iload X 5 dX7_copy_220 rfl ?_
    refine aw_iadd X dX7_copy_222 ?_
    refine aw_aload_n X 0 dX7_copy_223 rfl ?_
    refine aw_getR X zf_RX7_16 rfl zs_87 zr_87_2 dX7_copy_224 ?_
    refine aw_sipush (v := 160) X dX7_copy_227 (by decide) ?_
    refine aw_iload_n X 1 dX7_copy_230 rfl ?_
    refine aw_imul X dX7_copy_231 ?_
    refine aw_iload_n X 3 dX7_copy_232 rfl ?_
    refine aw_iadd X dX7_copy_233 ?_
    refine aw_iload X 5 dX7_copy_234 rfl ?_
    refine aw_iadd X dX7_copy_236 ?_
    have n2 := h.1
    replace h := h.2
    refine aw_laldj (j := (((160 * y1) + y3) + y6).toNatClampNeg) X zs_90 n2 rfl dX7_copy_237 ?_
    have n3 := h.1
    replace h := h.2
    refine aw_lastj (j := (((160 * y2) + y4) + y6).toNatClampNeg) X zs_90 n3 rfl dX7_copy_238 ?_
    refine aw_iinc (v := y6 + (-1)) X 5 dX7_copy_239 rfl rfl (by decide) rfl ?_
    refine aw_goto X 203 dX7_copy_242 rfl ?_
    refine aw_perm (ks9 := [(0, vR 87), (1, vI y1), (2, vI y2), (3, vI y3), (4, vI y4), (6, vI (y6 + (-1)))]) [1, 2, 3, 4, 5, 0] rfl ?_
    exact h
set_option maxRecDepth 100000 in
theorem s_X7_copy_251 {k : zK} {g : zG} {Q : Option zv → zI → zL → Prop} {I : zI} {L : zL} {y1 : Int32} {y2 : Int32} {y3 : Int32} {y4 : Int32} {y5 : Int32} {y6 : Int32}  (X : zX k g cX7_copy RX7 7 (some .int) 2) (E : zE k g Q) (h : if y6 < y5 then (vp_in (((160 * y1) + y3) + y6) 1280 ∧ (vp_in (((160 * y2) + y4) + y6) 1280 ∧ (AW k g 7 I (zs L 90 ((((160 * y2) + y4) + y6).toNatClampNeg) (L 90 ((((160 * y1) + y3) + y6).toNatClampNeg))) 251 [(0, vR 87), (1, vI y1), (2, vI y2), (3, vI y3), (4, vI y4), (5, vI y5), (6, vI (y6 + 1))] []))) else (Q (some (vI 1)) I L)) : AW k g 7 I L 251 [(0, vR 87), (1, vI y1), (2, vI y2), (3, vI y3), (4, vI y4), (5, vI y5), (6, vI y6)] [] := by
  refine aw_iload X 6 dX7_copy_251 rfl ?_
  refine aw_iload X 5 dX7_copy_253 rfl ?_
  refine aw_icmp_gen X 295 dX7_copy_255 rfl (fun c1 => ?_) (fun c1 => ?_)
  · replace h := zifp c1 h
    refine aw_aload_n X 0 dX7_copy_258 rfl ?_
    refine aw_getR X zf_RX7_16 rfl zs_87 zr_87_2 dX7_copy_259 ?_
    refine aw_sipush (v := 160) X dX7_copy_262 (by decide) ?_
    refine aw_iload_n X 2 dX7_copy_265 rfl ?_
    refine aw_imul X dX7_copy_266 ?_
    refine aw_iload X 4 dX7_copy_267 rfl ?_
    refine aw_iadd X dX7_copy_269 ?_
    refine aw_iload X 6 dX7_copy_270 rfl ?_
    refine aw_iadd X dX7_copy_272 ?_
    refine aw_aload_n X 0 dX7_copy_273 rfl ?_
    refine aw_getR X zf_RX7_16 rfl zs_87 zr_87_2 dX7_copy_274 ?_
    refine aw_sipush (v := 160) X dX7_copy_277 (by decide) ?_
    refine aw_iload_n X 1 dX7_copy_280 rfl ?_
    refine aw_imul X dX7_copy_281 ?_
    refine aw_iload_n X 3 dX7_copy_282 rfl ?_
    refine aw_iadd X dX7_copy_283 ?_
    refine aw_iload X 6 dX7_copy_284 rfl ?_
    refine aw_iadd X dX7_copy_286 ?_
    have n2 := h.1
    replace h := h.2
    refine aw_laldj (j := (((160 * y1) + y3) + y6).toNatClampNeg) X zs_90 n2 rfl dX7_copy_287 ?_
    have n3 := h.1
    replace h := h.2
    refine aw_lastj (j := (((160 * y2) + y4) + y6).toNatClampNeg) X zs_90 n3 rfl dX7_copy_288 ?_
    refine aw_iinc (v := y6 + 1) X 6 dX7_copy_289 rfl rfl (by decide) rfl ?_
    refine aw_goto X 251 dX7_copy_292 rfl ?_
    refine aw_perm (ks9 := [(0, vR 87), (1, vI y1), (2, vI y2), (3, vI y3), (4, vI y4), (5, vI y5), (6, vI (y6 + 1))]) [1, 2, 3, 4, 5, 6, 0] rfl ?_
    exact h
  · replace h := zifn c1 h
    refine aw_iconst (v := 1) X dX7_copy_295 (by decide) ?_
    exact aw_iret X E rfl dX7_copy_296 h
set_option maxRecDepth 100000 in
theorem m_X7_copy {l : Launch} {g : zG} {Q : Option zv → zI → zL → Prop} {I : zI} {L : zL} {a1 : Int32} {a2 : Int32} {a3 : Int32} {a4 : Int32} {a5 : Int32}  (h : ∀ k : zK, kl k = l → zX k g cX7_copy RX7 7 (some .int) 2 → zE k g Q → (if (v_X7_within a1 0 7) = 0 then (Call (kl k) g 1 M_X7_no [vR 87, vI (-1)] I L (zi fun r2 I2 L2 => Q (some (vI r2)) I2 L2)) else (if (v_X7_within a2 0 7) = 0 then (Call (kl k) g 1 M_X7_no [vR 87, vI (-1)] I L (zi fun r232 I232 L232 => Q (some (vI r232)) I232 L232)) else (if (I 88 a1.toNatClampNeg) < 0 then (if (I 88 a2.toNatClampNeg) < 0 then (k_X7_isRow I a1 ∧ (if (v_X7_isRow I a1) = 0 then (if (I 88 a1.toNatClampNeg) < 0 then (Call (kl k) g 1 M_X7_no [vR 87, vI (-3)] I L (zi fun r9 I9 L9 => Q (some (vI r9)) I9 L9)) else (if (I 88 a2.toNatClampNeg) < 0 then (Call (kl k) g 1 M_X7_no [vR 87, vI (-3)] I L (zi fun r11 I11 L11 => Q (some (vI r11)) I11 L11)) else (if a5 < 0 then (Call (kl k) g 1 M_X7_no [vR 87, vI (-4)] I L (zi fun r13 I13 L13 => Q (some (vI r13)) I13 L13)) else (if a3 < 0 then (Call (kl k) g 1 M_X7_no [vR 87, vI (-5)] I L (zi fun r15 I15 L15 => Q (some (vI r15)) I15 L15)) else (if a4 < 0 then (Call (kl k) g 1 M_X7_no [vR 87, vI (-5)] I L (zi fun r17 I17 L17 => Q (some (vI r17)) I17 L17)) else (if 0 < (lg_cmp (a3.toInt64 + a5.toInt64) ((I 89 a1.toNatClampNeg).toInt64)) then (Call (kl k) g 1 M_X7_no [vR 87, vI (-5)] I L (zi fun r19 I19 L19 => Q (some (vI r19)) I19 L19)) else (if 0 < (lg_cmp (a4.toInt64 + a5.toInt64) ((I 89 a2.toNatClampNeg).toInt64)) then (Call (kl k) g 1 M_X7_no [vR 87, vI (-5)] I L (zi fun r21 I21 L21 => Q (some (vI r21)) I21 L21)) else (if a1 = a2 then (if a3 < a4 then (AW k g 7 I L 203 [(0, vR 87), (1, vI a1), (2, vI a2), (3, vI a3), (4, vI a4), (6, vI (a5 - 1))] []) else (AW k g 7 I L 251 [(0, vR 87), (1, vI a1), (2, vI a2), (3, vI a3), (4, vI a4), (5, vI a5), (6, vI 0)] [])) else (AW k g 7 I L 251 [(0, vR 87), (1, vI a1), (2, vI a2), (3, vI a3), (4, vI a4), (5, vI a5), (6, vI 0)] []))))))))) else (k_X7_isRow I a2 ∧ (if (v_X7_isRow I a2) = 0 then (if (I 88 a1.toNatClampNeg) < 0 then (Call (kl k) g 1 M_X7_no [vR 87, vI (-3)] I L (zi fun r27 I27 L27 => Q (some (vI r27)) I27 L27)) else (if (I 88 a2.toNatClampNeg) < 0 then (Call (kl k) g 1 M_X7_no [vR 87, vI (-3)] I L (zi fun r29 I29 L29 => Q (some (vI r29)) I29 L29)) else (if a5 < 0 then (Call (kl k) g 1 M_X7_no [vR 87, vI (-4)] I L (zi fun r31 I31 L31 => Q (some (vI r31)) I31 L31)) else (if a3 < 0 then (Call (kl k) g 1 M_X7_no [vR 87, vI (-5)] I L (zi fun r33 I33 L33 => Q (some (vI r33)) I33 L33)) else (if a4 < 0 then (Call (kl k) g 1 M_X7_no [vR 87, vI (-5)] I L (zi fun r35 I35 L35 => Q (some (vI r35)) I35 L35)) else (if 0 < (lg_cmp (a3.toInt64 + a5.toInt64) ((I 89 a1.toNatClampNeg).toInt64)) then (Call (kl k) g 1 M_X7_no [vR 87, vI (-5)] I L (zi fun r37 I37 L37 => Q (some (vI r37)) I37 L37)) else (if 0 < (lg_cmp (a4.toInt64 + a5.toInt64) ((I 89 a2.toNatClampNeg).toInt64)) then (Call (kl k) g 1 M_X7_no [vR 87, vI (-5)] I L (zi fun r39 I39 L39 => Q (some (vI r39)) I39 L39)) else (if a1 = a2 then (if a3 < a4 then (AW k g 7 I L 203 [(0, vR 87), (1, vI a1), (2, vI a2), (3, vI a3), (4, vI a4), (6, vI (a5 - 1))] []) else (AW k g 7 I L 251 [(0, vR 87), (1, vI a1), (2, vI a2), (3, vI a3), (4, vI a4), (5, vI a5), (6, vI 0)] [])) else (AW k g 7 I L 251 [(0, vR 87), (1, vI a1), (2, vI a2), (3, vI a3), (4, vI a4), (5, vI a5), (6, vI 0)] []))))))))) else (if (I 88 a1.toNatClampNeg) = (I 88 a2.toNatClampNeg) then (if (I 88 a1.toNatClampNeg) < 0 then (Call (kl k) g 1 M_X7_no [vR 87, vI (-3)] I L (zi fun r44 I44 L44 => Q (some (vI r44)) I44 L44)) else (if (I 88 a2.toNatClampNeg) < 0 then (Call (kl k) g 1 M_X7_no [vR 87, vI (-3)] I L (zi fun r46 I46 L46 => Q (some (vI r46)) I46 L46)) else (if a5 < 0 then (Call (kl k) g 1 M_X7_no [vR 87, vI (-4)] I L (zi fun r48 I48 L48 => Q (some (vI r48)) I48 L48)) else (if a3 < 0 then (Call (kl k) g 1 M_X7_no [vR 87, vI (-5)] I L (zi fun r50 I50 L50 => Q (some (vI r50)) I50 L50)) else (if a4 < 0 then (Call (kl k) g 1 M_X7_no [vR 87, vI (-5)] I L (zi fun r52 I52 L52 => Q (some (vI r52)) I52 L52)) else (if 0 < (lg_cmp (a3.toInt64 + a5.toInt64) ((I 89 a1.toNatClampNeg).toInt64)) then (Call (kl k) g 1 M_X7_no [vR 87, vI (-5)] I L (zi fun r54 I54 L54 => Q (some (vI r54)) I54 L54)) else (if 0 < (lg_cmp (a4.toInt64 + a5.toInt64) ((I 89 a2.toNatClampNeg).toInt64)) then (Call (kl k) g 1 M_X7_no [vR 87, vI (-5)] I L (zi fun r56 I56 L56 => Q (some (vI r56)) I56 L56)) else (if a1 = a2 then (if a3 < a4 then (AW k g 7 I L 203 [(0, vR 87), (1, vI a1), (2, vI a2), (3, vI a3), (4, vI a4), (6, vI (a5 - 1))] []) else (AW k g 7 I L 251 [(0, vR 87), (1, vI a1), (2, vI a2), (3, vI a3), (4, vI a4), (5, vI a5), (6, vI 0)] [])) else (AW k g 7 I L 251 [(0, vR 87), (1, vI a1), (2, vI a2), (3, vI a3), (4, vI a4), (5, vI a5), (6, vI 0)] []))))))))) else (Call (kl k) g 1 M_X7_no [vR 87, vI (-2)] I L (zi fun r59 I59 L59 => Q (some (vI r59)) I59 L59))))))) else (k_X7_isRow I a2 ∧ (if (v_X7_isRow I a2) = 0 then (Call (kl k) g 1 M_X7_no [vR 87, vI (-2)] I L (zi fun r62 I62 L62 => Q (some (vI r62)) I62 L62)) else (k_X7_isRow I a1 ∧ (if (v_X7_isRow I a1) = 0 then (if (I 88 a1.toNatClampNeg) < 0 then (Call (kl k) g 1 M_X7_no [vR 87, vI (-3)] I L (zi fun r66 I66 L66 => Q (some (vI r66)) I66 L66)) else (if (I 88 a2.toNatClampNeg) < 0 then (Call (kl k) g 1 M_X7_no [vR 87, vI (-3)] I L (zi fun r68 I68 L68 => Q (some (vI r68)) I68 L68)) else (if a5 < 0 then (Call (kl k) g 1 M_X7_no [vR 87, vI (-4)] I L (zi fun r70 I70 L70 => Q (some (vI r70)) I70 L70)) else (if a3 < 0 then (Call (kl k) g 1 M_X7_no [vR 87, vI (-5)] I L (zi fun r72 I72 L72 => Q (some (vI r72)) I72 L72)) else (if a4 < 0 then (Call (kl k) g 1 M_X7_no [vR 87, vI (-5)] I L (zi fun r74 I74 L74 => Q (some (vI r74)) I74 L74)) else (if 0 < (lg_cmp (a3.toInt64 + a5.toInt64) ((I 89 a1.toNatClampNeg).toInt64)) then (Call (kl k) g 1 M_X7_no [vR 87, vI (-5)] I L (zi fun r76 I76 L76 => Q (some (vI r76)) I76 L76)) else (if 0 < (lg_cmp (a4.toInt64 + a5.toInt64) ((I 89 a2.toNatClampNeg).toInt64)) then (Call (kl k) g 1 M_X7_no [vR 87, vI (-5)] I L (zi fun r78 I78 L78 => Q (some (vI r78)) I78 L78)) else (if a1 = a2 then (if a3 < a4 then (AW k g 7 I L 203 [(0, vR 87), (1, vI a1), (2, vI a2), (3, vI a3), (4, vI a4), (6, vI (a5 - 1))] []) else (AW k g 7 I L 251 [(0, vR 87), (1, vI a1), (2, vI a2), (3, vI a3), (4, vI a4), (5, vI a5), (6, vI 0)] [])) else (AW k g 7 I L 251 [(0, vR 87), (1, vI a1), (2, vI a2), (3, vI a3), (4, vI a4), (5, vI a5), (6, vI 0)] []))))))))) else (k_X7_isRow I a2 ∧ (if (v_X7_isRow I a2) = 0 then (if (I 88 a1.toNatClampNeg) < 0 then (Call (kl k) g 1 M_X7_no [vR 87, vI (-3)] I L (zi fun r84 I84 L84 => Q (some (vI r84)) I84 L84)) else (if (I 88 a2.toNatClampNeg) < 0 then (Call (kl k) g 1 M_X7_no [vR 87, vI (-3)] I L (zi fun r86 I86 L86 => Q (some (vI r86)) I86 L86)) else (if a5 < 0 then (Call (kl k) g 1 M_X7_no [vR 87, vI (-4)] I L (zi fun r88 I88 L88 => Q (some (vI r88)) I88 L88)) else (if a3 < 0 then (Call (kl k) g 1 M_X7_no [vR 87, vI (-5)] I L (zi fun r90 I90 L90 => Q (some (vI r90)) I90 L90)) else (if a4 < 0 then (Call (kl k) g 1 M_X7_no [vR 87, vI (-5)] I L (zi fun r92 I92 L92 => Q (some (vI r92)) I92 L92)) else (if 0 < (lg_cmp (a3.toInt64 + a5.toInt64) ((I 89 a1.toNatClampNeg).toInt64)) then (Call (kl k) g 1 M_X7_no [vR 87, vI (-5)] I L (zi fun r94 I94 L94 => Q (some (vI r94)) I94 L94)) else (if 0 < (lg_cmp (a4.toInt64 + a5.toInt64) ((I 89 a2.toNatClampNeg).toInt64)) then (Call (kl k) g 1 M_X7_no [vR 87, vI (-5)] I L (zi fun r96 I96 L96 => Q (some (vI r96)) I96 L96)) else (if a1 = a2 then (if a3 < a4 then (AW k g 7 I L 203 [(0, vR 87), (1, vI a1), (2, vI a2), (3, vI a3), (4, vI a4), (6, vI (a5 - 1))] []) else (AW k g 7 I L 251 [(0, vR 87), (1, vI a1), (2, vI a2), (3, vI a3), (4, vI a4), (5, vI a5), (6, vI 0)] [])) else (AW k g 7 I L 251 [(0, vR 87), (1, vI a1), (2, vI a2), (3, vI a3), (4, vI a4), (5, vI a5), (6, vI 0)] []))))))))) else (if (I 88 a1.toNatClampNeg) = (I 88 a2.toNatClampNeg) then (if (I 88 a1.toNatClampNeg) < 0 then (Call (kl k) g 1 M_X7_no [vR 87, vI (-3)] I L (zi fun r101 I101 L101 => Q (some (vI r101)) I101 L101)) else (if (I 88 a2.toNatClampNeg) < 0 then (Call (kl k) g 1 M_X7_no [vR 87, vI (-3)] I L (zi fun r103 I103 L103 => Q (some (vI r103)) I103 L103)) else (if a5 < 0 then (Call (kl k) g 1 M_X7_no [vR 87, vI (-4)] I L (zi fun r105 I105 L105 => Q (some (vI r105)) I105 L105)) else (if a3 < 0 then (Call (kl k) g 1 M_X7_no [vR 87, vI (-5)] I L (zi fun r107 I107 L107 => Q (some (vI r107)) I107 L107)) else (if a4 < 0 then (Call (kl k) g 1 M_X7_no [vR 87, vI (-5)] I L (zi fun r109 I109 L109 => Q (some (vI r109)) I109 L109)) else (if 0 < (lg_cmp (a3.toInt64 + a5.toInt64) ((I 89 a1.toNatClampNeg).toInt64)) then (Call (kl k) g 1 M_X7_no [vR 87, vI (-5)] I L (zi fun r111 I111 L111 => Q (some (vI r111)) I111 L111)) else (if 0 < (lg_cmp (a4.toInt64 + a5.toInt64) ((I 89 a2.toNatClampNeg).toInt64)) then (Call (kl k) g 1 M_X7_no [vR 87, vI (-5)] I L (zi fun r113 I113 L113 => Q (some (vI r113)) I113 L113)) else (if a1 = a2 then (if a3 < a4 then (AW k g 7 I L 203 [(0, vR 87), (1, vI a1), (2, vI a2), (3, vI a3), (4, vI a4), (6, vI (a5 - 1))] []) else (AW k g 7 I L 251 [(0, vR 87), (1, vI a1), (2, vI a2), (3, vI a3), (4, vI a4), (5, vI a5), (6, vI 0)] [])) else (AW k g 7 I L 251 [(0, vR 87), (1, vI a1), (2, vI a2), (3, vI a3), (4, vI a4), (5, vI a5), (6, vI 0)] []))))))))) else (Call (kl k) g 1 M_X7_no [vR 87, vI (-2)] I L (zi fun r116 I116 L116 => Q (some (vI r116)) I116 L116)))))))))) else (k_X7_isRow I a1 ∧ (if (v_X7_isRow I a1) = 0 then (Call (kl k) g 1 M_X7_no [vR 87, vI (-2)] I L (zi fun r119 I119 L119 => Q (some (vI r119)) I119 L119)) else (if (I 88 a2.toNatClampNeg) < 0 then (k_X7_isRow I a1 ∧ (if (v_X7_isRow I a1) = 0 then (if (I 88 a1.toNatClampNeg) < 0 then (Call (kl k) g 1 M_X7_no [vR 87, vI (-3)] I L (zi fun r124 I124 L124 => Q (some (vI r124)) I124 L124)) else (if (I 88 a2.toNatClampNeg) < 0 then (Call (kl k) g 1 M_X7_no [vR 87, vI (-3)] I L (zi fun r126 I126 L126 => Q (some (vI r126)) I126 L126)) else (if a5 < 0 then (Call (kl k) g 1 M_X7_no [vR 87, vI (-4)] I L (zi fun r128 I128 L128 => Q (some (vI r128)) I128 L128)) else (if a3 < 0 then (Call (kl k) g 1 M_X7_no [vR 87, vI (-5)] I L (zi fun r130 I130 L130 => Q (some (vI r130)) I130 L130)) else (if a4 < 0 then (Call (kl k) g 1 M_X7_no [vR 87, vI (-5)] I L (zi fun r132 I132 L132 => Q (some (vI r132)) I132 L132)) else (if 0 < (lg_cmp (a3.toInt64 + a5.toInt64) ((I 89 a1.toNatClampNeg).toInt64)) then (Call (kl k) g 1 M_X7_no [vR 87, vI (-5)] I L (zi fun r134 I134 L134 => Q (some (vI r134)) I134 L134)) else (if 0 < (lg_cmp (a4.toInt64 + a5.toInt64) ((I 89 a2.toNatClampNeg).toInt64)) then (Call (kl k) g 1 M_X7_no [vR 87, vI (-5)] I L (zi fun r136 I136 L136 => Q (some (vI r136)) I136 L136)) else (if a1 = a2 then (if a3 < a4 then (AW k g 7 I L 203 [(0, vR 87), (1, vI a1), (2, vI a2), (3, vI a3), (4, vI a4), (6, vI (a5 - 1))] []) else (AW k g 7 I L 251 [(0, vR 87), (1, vI a1), (2, vI a2), (3, vI a3), (4, vI a4), (5, vI a5), (6, vI 0)] [])) else (AW k g 7 I L 251 [(0, vR 87), (1, vI a1), (2, vI a2), (3, vI a3), (4, vI a4), (5, vI a5), (6, vI 0)] []))))))))) else (k_X7_isRow I a2 ∧ (if (v_X7_isRow I a2) = 0 then (if (I 88 a1.toNatClampNeg) < 0 then (Call (kl k) g 1 M_X7_no [vR 87, vI (-3)] I L (zi fun r142 I142 L142 => Q (some (vI r142)) I142 L142)) else (if (I 88 a2.toNatClampNeg) < 0 then (Call (kl k) g 1 M_X7_no [vR 87, vI (-3)] I L (zi fun r144 I144 L144 => Q (some (vI r144)) I144 L144)) else (if a5 < 0 then (Call (kl k) g 1 M_X7_no [vR 87, vI (-4)] I L (zi fun r146 I146 L146 => Q (some (vI r146)) I146 L146)) else (if a3 < 0 then (Call (kl k) g 1 M_X7_no [vR 87, vI (-5)] I L (zi fun r148 I148 L148 => Q (some (vI r148)) I148 L148)) else (if a4 < 0 then (Call (kl k) g 1 M_X7_no [vR 87, vI (-5)] I L (zi fun r150 I150 L150 => Q (some (vI r150)) I150 L150)) else (if 0 < (lg_cmp (a3.toInt64 + a5.toInt64) ((I 89 a1.toNatClampNeg).toInt64)) then (Call (kl k) g 1 M_X7_no [vR 87, vI (-5)] I L (zi fun r152 I152 L152 => Q (some (vI r152)) I152 L152)) else (if 0 < (lg_cmp (a4.toInt64 + a5.toInt64) ((I 89 a2.toNatClampNeg).toInt64)) then (Call (kl k) g 1 M_X7_no [vR 87, vI (-5)] I L (zi fun r154 I154 L154 => Q (some (vI r154)) I154 L154)) else (if a1 = a2 then (if a3 < a4 then (AW k g 7 I L 203 [(0, vR 87), (1, vI a1), (2, vI a2), (3, vI a3), (4, vI a4), (6, vI (a5 - 1))] []) else (AW k g 7 I L 251 [(0, vR 87), (1, vI a1), (2, vI a2), (3, vI a3), (4, vI a4), (5, vI a5), (6, vI 0)] [])) else (AW k g 7 I L 251 [(0, vR 87), (1, vI a1), (2, vI a2), (3, vI a3), (4, vI a4), (5, vI a5), (6, vI 0)] []))))))))) else (if (I 88 a1.toNatClampNeg) = (I 88 a2.toNatClampNeg) then (if (I 88 a1.toNatClampNeg) < 0 then (Call (kl k) g 1 M_X7_no [vR 87, vI (-3)] I L (zi fun r159 I159 L159 => Q (some (vI r159)) I159 L159)) else (if (I 88 a2.toNatClampNeg) < 0 then (Call (kl k) g 1 M_X7_no [vR 87, vI (-3)] I L (zi fun r161 I161 L161 => Q (some (vI r161)) I161 L161)) else (if a5 < 0 then (Call (kl k) g 1 M_X7_no [vR 87, vI (-4)] I L (zi fun r163 I163 L163 => Q (some (vI r163)) I163 L163)) else (if a3 < 0 then (Call (kl k) g 1 M_X7_no [vR 87, vI (-5)] I L (zi fun r165 I165 L165 => Q (some (vI r165)) I165 L165)) else (if a4 < 0 then (Call (kl k) g 1 M_X7_no [vR 87, vI (-5)] I L (zi fun r167 I167 L167 => Q (some (vI r167)) I167 L167)) else (if 0 < (lg_cmp (a3.toInt64 + a5.toInt64) ((I 89 a1.toNatClampNeg).toInt64)) then (Call (kl k) g 1 M_X7_no [vR 87, vI (-5)] I L (zi fun r169 I169 L169 => Q (some (vI r169)) I169 L169)) else (if 0 < (lg_cmp (a4.toInt64 + a5.toInt64) ((I 89 a2.toNatClampNeg).toInt64)) then (Call (kl k) g 1 M_X7_no [vR 87, vI (-5)] I L (zi fun r171 I171 L171 => Q (some (vI r171)) I171 L171)) else (if a1 = a2 then (if a3 < a4 then (AW k g 7 I L 203 [(0, vR 87), (1, vI a1), (2, vI a2), (3, vI a3), (4, vI a4), (6, vI (a5 - 1))] []) else (AW k g 7 I L 251 [(0, vR 87), (1, vI a1), (2, vI a2), (3, vI a3), (4, vI a4), (5, vI a5), (6, vI 0)] [])) else (AW k g 7 I L 251 [(0, vR 87), (1, vI a1), (2, vI a2), (3, vI a3), (4, vI a4), (5, vI a5), (6, vI 0)] []))))))))) else (Call (kl k) g 1 M_X7_no [vR 87, vI (-2)] I L (zi fun r174 I174 L174 => Q (some (vI r174)) I174 L174))))))) else (k_X7_isRow I a2 ∧ (if (v_X7_isRow I a2) = 0 then (Call (kl k) g 1 M_X7_no [vR 87, vI (-2)] I L (zi fun r177 I177 L177 => Q (some (vI r177)) I177 L177)) else (k_X7_isRow I a1 ∧ (if (v_X7_isRow I a1) = 0 then (if (I 88 a1.toNatClampNeg) < 0 then (Call (kl k) g 1 M_X7_no [vR 87, vI (-3)] I L (zi fun r181 I181 L181 => Q (some (vI r181)) I181 L181)) else (if (I 88 a2.toNatClampNeg) < 0 then (Call (kl k) g 1 M_X7_no [vR 87, vI (-3)] I L (zi fun r183 I183 L183 => Q (some (vI r183)) I183 L183)) else (if a5 < 0 then (Call (kl k) g 1 M_X7_no [vR 87, vI (-4)] I L (zi fun r185 I185 L185 => Q (some (vI r185)) I185 L185)) else (if a3 < 0 then (Call (kl k) g 1 M_X7_no [vR 87, vI (-5)] I L (zi fun r187 I187 L187 => Q (some (vI r187)) I187 L187)) else (if a4 < 0 then (Call (kl k) g 1 M_X7_no [vR 87, vI (-5)] I L (zi fun r189 I189 L189 => Q (some (vI r189)) I189 L189)) else (if 0 < (lg_cmp (a3.toInt64 + a5.toInt64) ((I 89 a1.toNatClampNeg).toInt64)) then (Call (kl k) g 1 M_X7_no [vR 87, vI (-5)] I L (zi fun r191 I191 L191 => Q (some (vI r191)) I191 L191)) else (if 0 < (lg_cmp (a4.toInt64 + a5.toInt64) ((I 89 a2.toNatClampNeg).toInt64)) then (Call (kl k) g 1 M_X7_no [vR 87, vI (-5)] I L (zi fun r193 I193 L193 => Q (some (vI r193)) I193 L193)) else (if a1 = a2 then (if a3 < a4 then (AW k g 7 I L 203 [(0, vR 87), (1, vI a1), (2, vI a2), (3, vI a3), (4, vI a4), (6, vI (a5 - 1))] []) else (AW k g 7 I L 251 [(0, vR 87), (1, vI a1), (2, vI a2), (3, vI a3), (4, vI a4), (5, vI a5), (6, vI 0)] [])) else (AW k g 7 I L 251 [(0, vR 87), (1, vI a1), (2, vI a2), (3, vI a3), (4, vI a4), (5, vI a5), (6, vI 0)] []))))))))) else (k_X7_isRow I a2 ∧ (if (v_X7_isRow I a2) = 0 then (if (I 88 a1.toNatClampNeg) < 0 then (Call (kl k) g 1 M_X7_no [vR 87, vI (-3)] I L (zi fun r199 I199 L199 => Q (some (vI r199)) I199 L199)) else (if (I 88 a2.toNatClampNeg) < 0 then (Call (kl k) g 1 M_X7_no [vR 87, vI (-3)] I L (zi fun r201 I201 L201 => Q (some (vI r201)) I201 L201)) else (if a5 < 0 then (Call (kl k) g 1 M_X7_no [vR 87, vI (-4)] I L (zi fun r203 I203 L203 => Q (some (vI r203)) I203 L203)) else (if a3 < 0 then (Call (kl k) g 1 M_X7_no [vR 87, vI (-5)] I L (zi fun r205 I205 L205 => Q (some (vI r205)) I205 L205)) else (if a4 < 0 then (Call (kl k) g 1 M_X7_no [vR 87, vI (-5)] I L (zi fun r207 I207 L207 => Q (some (vI r207)) I207 L207)) else (if 0 < (lg_cmp (a3.toInt64 + a5.toInt64) ((I 89 a1.toNatClampNeg).toInt64)) then (Call (kl k) g 1 M_X7_no [vR 87, vI (-5)] I L (zi fun r209 I209 L209 => Q (some (vI r209)) I209 L209)) else (if 0 < (lg_cmp (a4.toInt64 + a5.toInt64) ((I 89 a2.toNatClampNeg).toInt64)) then (Call (kl k) g 1 M_X7_no [vR 87, vI (-5)] I L (zi fun r211 I211 L211 => Q (some (vI r211)) I211 L211)) else (if a1 = a2 then (if a3 < a4 then (AW k g 7 I L 203 [(0, vR 87), (1, vI a1), (2, vI a2), (3, vI a3), (4, vI a4), (6, vI (a5 - 1))] []) else (AW k g 7 I L 251 [(0, vR 87), (1, vI a1), (2, vI a2), (3, vI a3), (4, vI a4), (5, vI a5), (6, vI 0)] [])) else (AW k g 7 I L 251 [(0, vR 87), (1, vI a1), (2, vI a2), (3, vI a3), (4, vI a4), (5, vI a5), (6, vI 0)] []))))))))) else (if (I 88 a1.toNatClampNeg) = (I 88 a2.toNatClampNeg) then (if (I 88 a1.toNatClampNeg) < 0 then (Call (kl k) g 1 M_X7_no [vR 87, vI (-3)] I L (zi fun r216 I216 L216 => Q (some (vI r216)) I216 L216)) else (if (I 88 a2.toNatClampNeg) < 0 then (Call (kl k) g 1 M_X7_no [vR 87, vI (-3)] I L (zi fun r218 I218 L218 => Q (some (vI r218)) I218 L218)) else (if a5 < 0 then (Call (kl k) g 1 M_X7_no [vR 87, vI (-4)] I L (zi fun r220 I220 L220 => Q (some (vI r220)) I220 L220)) else (if a3 < 0 then (Call (kl k) g 1 M_X7_no [vR 87, vI (-5)] I L (zi fun r222 I222 L222 => Q (some (vI r222)) I222 L222)) else (if a4 < 0 then (Call (kl k) g 1 M_X7_no [vR 87, vI (-5)] I L (zi fun r224 I224 L224 => Q (some (vI r224)) I224 L224)) else (if 0 < (lg_cmp (a3.toInt64 + a5.toInt64) ((I 89 a1.toNatClampNeg).toInt64)) then (Call (kl k) g 1 M_X7_no [vR 87, vI (-5)] I L (zi fun r226 I226 L226 => Q (some (vI r226)) I226 L226)) else (if 0 < (lg_cmp (a4.toInt64 + a5.toInt64) ((I 89 a2.toNatClampNeg).toInt64)) then (Call (kl k) g 1 M_X7_no [vR 87, vI (-5)] I L (zi fun r228 I228 L228 => Q (some (vI r228)) I228 L228)) else (if a1 = a2 then (if a3 < a4 then (AW k g 7 I L 203 [(0, vR 87), (1, vI a1), (2, vI a2), (3, vI a3), (4, vI a4), (6, vI (a5 - 1))] []) else (AW k g 7 I L 251 [(0, vR 87), (1, vI a1), (2, vI a2), (3, vI a3), (4, vI a4), (5, vI a5), (6, vI 0)] [])) else (AW k g 7 I L 251 [(0, vR 87), (1, vI a1), (2, vI a2), (3, vI a3), (4, vI a4), (5, vI a5), (6, vI 0)] []))))))))) else (Call (kl k) g 1 M_X7_no [vR 87, vI (-2)] I L (zi fun r231 I231 L231 => Q (some (vI r231)) I231 L231)))))))))))))))) : Call l g 2 M_X7_copy [vR 87, vI a1, vI a2, vI a3, vI a4, vI a5] I L Q := by
  refine aw_entry (by decide) (Nat.le_of_ble_eq_true rfl) (fun k hk (X : zX k g cX7_copy RX7 7 (some .int) 2) E => ?_)
  show AW k g 7 I L 0 [(0, vR 87), (1, vI a1), (2, vI a2), (3, vI a3), (4, vI a4), (5, vI a5)] []
  replace h := h k hk X E
  subst hk
  refine aw_iload_n X 1 dX7_copy_0 rfl ?_
  refine aw_iconst (v := 0) X dX7_copy_1 (by decide) ?_
  refine aw_bipush (v := 7) X dX7_copy_2 (by decide) ?_
  refine aw_pS X (as := [vI a1, vI 0, vI 7]) mf_X7_within zw_1134 (p_X7_within) rfl rfl (by decide) (Nat.le_of_ble_eq_true rfl) dX7_copy_4 ?_
  refine aw_if_eq X 20 dX7_copy_7 rfl (fun c1 => ?_) (fun c1 => ?_)
  · replace h := zifp c1 h
    refine aw_aload_n X 0 dX7_copy_20 rfl ?_
    refine aw_iconst (v := (-1)) X dX7_copy_21 (by decide) ?_
    refine aw_callV X (as := [vI (-1)]) mf_X7_no zw_1137 h zs_87 rfl rfl (by decide) (Nat.le_of_ble_eq_true rfl) dX7_copy_22 (fun v I2 L2 h => ?_)
    obtain ⟨r2, rfl, h⟩ := h
    exact aw_iret X E rfl dX7_copy_25 h
  · replace h := zifn c1 h
    refine aw_iload_n X 2 dX7_copy_10 rfl ?_
    refine aw_iconst (v := 0) X dX7_copy_11 (by decide) ?_
    refine aw_bipush (v := 7) X dX7_copy_12 (by decide) ?_
    refine aw_pS X (as := [vI a2, vI 0, vI 7]) mf_X7_within zw_1134 (p_X7_within) rfl rfl (by decide) (Nat.le_of_ble_eq_true rfl) dX7_copy_14 ?_
    refine aw_if_ne X 26 dX7_copy_17 rfl (fun c3 => ?_) (fun c3 => ?_)
    · replace h := zifn c3 h
      refine aw_aload_n X 0 dX7_copy_26 rfl ?_
      refine aw_getR X zf_RX7_7 rfl zs_87 zr_87_0 dX7_copy_27 ?_
      refine aw_iload_n X 1 dX7_copy_30 rfl ?_
      refine aw_ialdj (j := a1.toNatClampNeg) X zs_88 (zin_within c1 (by decide)) rfl dX7_copy_31 ?_
      refine aw_if_lt X 43 dX7_copy_32 rfl (fun c4 => ?_) (fun c4 => ?_)
      · replace h := zifp c4 h
        refine aw_aload_n X 0 dX7_copy_43 rfl ?_
        refine aw_getR X zf_RX7_7 rfl zs_87 zr_87_0 dX7_copy_44 ?_
        refine aw_iload_n X 2 dX7_copy_47 rfl ?_
        refine aw_ialdj (j := a2.toNatClampNeg) X zs_88 (zin_within c3 (by decide)) rfl dX7_copy_48 ?_
        refine aw_if_lt X 60 dX7_copy_49 rfl (fun c5 => ?_) (fun c5 => ?_)
        · replace h := zifp c5 h
          refine aw_aload_n X 0 dX7_copy_60 rfl ?_
          refine aw_iload_n X 1 dX7_copy_61 rfl ?_
          have n6 := h.1
          replace h := h.2
          refine aw_pV X (as := [vI a1]) mf_X7_isRow zw_1149 (p_X7_isRow n6) zs_87 rfl rfl (by decide) (Nat.le_of_ble_eq_true rfl) dX7_copy_62 ?_
          refine aw_if_eq X 98 dX7_copy_65 rfl (fun c7 => ?_) (fun c7 => ?_)
          · replace h := zifp c7 h
            refine aw_aload_n X 0 dX7_copy_98 rfl ?_
            refine aw_getR X zf_RX7_7 rfl zs_87 zr_87_0 dX7_copy_99 ?_
            refine aw_iload_n X 1 dX7_copy_102 rfl ?_
            refine aw_ialdj (j := a1.toNatClampNeg) X zs_88 (zin_within c1 (by decide)) rfl dX7_copy_103 ?_
            refine aw_if_lt X 116 dX7_copy_104 rfl (fun c8 => ?_) (fun c8 => ?_)
            · replace h := zifp c8 h
              refine aw_aload_n X 0 dX7_copy_116 rfl ?_
              refine aw_bipush (v := (-3)) X dX7_copy_117 (by decide) ?_
              refine aw_callV X (as := [vI (-3)]) mf_X7_no zw_1137 h zs_87 rfl rfl (by decide) (Nat.le_of_ble_eq_true rfl) dX7_copy_119 (fun v I9 L9 h => ?_)
              obtain ⟨r9, rfl, h⟩ := h
              exact aw_iret X E rfl dX7_copy_122 h
            · replace h := zifn c8 h
              refine aw_aload_n X 0 dX7_copy_107 rfl ?_
              refine aw_getR X zf_RX7_7 rfl zs_87 zr_87_0 dX7_copy_108 ?_
              refine aw_iload_n X 2 dX7_copy_111 rfl ?_
              refine aw_ialdj (j := a2.toNatClampNeg) X zs_88 (zin_within c3 (by decide)) rfl dX7_copy_112 ?_
              refine aw_if_gen X 123 dX7_copy_113 rfl (fun c10 => ?_) (fun c10 => ?_)
              · replace h := zifp c10 h
                refine aw_aload_n X 0 dX7_copy_116 rfl ?_
                refine aw_bipush (v := (-3)) X dX7_copy_117 (by decide) ?_
                refine aw_callV X (as := [vI (-3)]) mf_X7_no zw_1137 h zs_87 rfl rfl (by decide) (Nat.le_of_ble_eq_true rfl) dX7_copy_119 (fun v I11 L11 h => ?_)
                obtain ⟨r11, rfl, h⟩ := h
                exact aw_iret X E rfl dX7_copy_122 h
              · replace h := zifn c10 h
                refine aw_iload X 5 dX7_copy_123 rfl ?_
                refine aw_if_gen X 135 dX7_copy_125 rfl (fun c12 => ?_) (fun c12 => ?_)
                · replace h := zifp c12 h
                  refine aw_aload_n X 0 dX7_copy_128 rfl ?_
                  refine aw_bipush (v := (-4)) X dX7_copy_129 (by decide) ?_
                  refine aw_callV X (as := [vI (-4)]) mf_X7_no zw_1137 h zs_87 rfl rfl (by decide) (Nat.le_of_ble_eq_true rfl) dX7_copy_131 (fun v I13 L13 h => ?_)
                  obtain ⟨r13, rfl, h⟩ := h
                  exact aw_iret X E rfl dX7_copy_134 h
                · replace h := zifn c12 h
                  refine aw_iload_n X 3 dX7_copy_135 rfl ?_
                  refine aw_if_lt X 179 dX7_copy_136 rfl (fun c14 => ?_) (fun c14 => ?_)
                  · replace h := zifp c14 h
                    refine aw_aload_n X 0 dX7_copy_179 rfl ?_
                    refine aw_bipush (v := (-5)) X dX7_copy_180 (by decide) ?_
                    refine aw_callV X (as := [vI (-5)]) mf_X7_no zw_1137 h zs_87 rfl rfl (by decide) (Nat.le_of_ble_eq_true rfl) dX7_copy_182 (fun v I15 L15 h => ?_)
                    obtain ⟨r15, rfl, h⟩ := h
                    exact aw_iret X E rfl dX7_copy_185 h
                  · replace h := zifn c14 h
                    refine aw_iload X 4 dX7_copy_139 rfl ?_
                    refine aw_if_lt X 179 dX7_copy_141 rfl (fun c16 => ?_) (fun c16 => ?_)
                    · replace h := zifp c16 h
                      refine aw_aload_n X 0 dX7_copy_179 rfl ?_
                      refine aw_bipush (v := (-5)) X dX7_copy_180 (by decide) ?_
                      refine aw_callV X (as := [vI (-5)]) mf_X7_no zw_1137 h zs_87 rfl rfl (by decide) (Nat.le_of_ble_eq_true rfl) dX7_copy_182 (fun v I17 L17 h => ?_)
                      obtain ⟨r17, rfl, h⟩ := h
                      exact aw_iret X E rfl dX7_copy_185 h
                    · replace h := zifn c16 h
                      refine aw_iload_n X 3 dX7_copy_144 rfl ?_
                      refine aw_i2l X dX7_copy_145 ?_
                      refine aw_iload X 5 dX7_copy_146 rfl ?_
                      refine aw_i2l X dX7_copy_148 ?_
                      refine aw_ladd X dX7_copy_149 ?_
                      refine aw_aload_n X 0 dX7_copy_150 rfl ?_
                      refine aw_getR X zf_RX7_13 rfl zs_87 zr_87_1 dX7_copy_151 ?_
                      refine aw_iload_n X 1 dX7_copy_154 rfl ?_
                      refine aw_ialdj (j := a1.toNatClampNeg) X zs_89 (zin_within c1 (by decide)) rfl dX7_copy_155 ?_
                      refine aw_i2l X dX7_copy_156 ?_
                      refine aw_lcmp X dX7_copy_157 ?_
                      refine aw_if_gt X 179 dX7_copy_158 rfl (fun c18 => ?_) (fun c18 => ?_)
                      · replace h := zifp c18 h
                        refine aw_aload_n X 0 dX7_copy_179 rfl ?_
                        refine aw_bipush (v := (-5)) X dX7_copy_180 (by decide) ?_
                        refine aw_callV X (as := [vI (-5)]) mf_X7_no zw_1137 h zs_87 rfl rfl (by decide) (Nat.le_of_ble_eq_true rfl) dX7_copy_182 (fun v I19 L19 h => ?_)
                        obtain ⟨r19, rfl, h⟩ := h
                        exact aw_iret X E rfl dX7_copy_185 h
                      · replace h := zifn c18 h
                        refine aw_iload X 4 dX7_copy_161 rfl ?_
                        refine aw_i2l X dX7_copy_163 ?_
                        refine aw_iload X 5 dX7_copy_164 rfl ?_
                        refine aw_i2l X dX7_copy_166 ?_
                        refine aw_ladd X dX7_copy_167 ?_
                        refine aw_aload_n X 0 dX7_copy_168 rfl ?_
                        refine aw_getR X zf_RX7_13 rfl zs_87 zr_87_1 dX7_copy_169 ?_
                        refine aw_iload_n X 2 dX7_copy_172 rfl ?_
                        refine aw_ialdj (j := a2.toNatClampNeg) X zs_89 (zin_within c3 (by decide)) rfl dX7_copy_173 ?_
                        refine aw_i2l X dX7_copy_174 ?_
                        refine aw_lcmp X dX7_copy_175 ?_
                        refine aw_if_len X 186 dX7_copy_176 rfl (fun c20 => ?_) (fun c20 => ?_)
                        · replace h := zifp c20 h
                          refine aw_aload_n X 0 dX7_copy_179 rfl ?_
                          refine aw_bipush (v := (-5)) X dX7_copy_180 (by decide) ?_
                          refine aw_callV X (as := [vI (-5)]) mf_X7_no zw_1137 h zs_87 rfl rfl (by decide) (Nat.le_of_ble_eq_true rfl) dX7_copy_182 (fun v I21 L21 h => ?_)
                          obtain ⟨r21, rfl, h⟩ := h
                          exact aw_iret X E rfl dX7_copy_185 h
                        · replace h := zifn c20 h
                          refine aw_iload_n X 1 dX7_copy_186 rfl ?_
                          refine aw_iload_n X 2 dX7_copy_187 rfl ?_
                          refine aw_icmp_ne X 248 dX7_copy_188 rfl (fun c22 => ?_) (fun c22 => ?_)
                          · replace h := zifn c22 h
                            refine aw_iconst (v := 0) X dX7_copy_248 (by decide) ?_
                            refine aw_istore X dX7_copy_249 (by decide) rfl ?_
                            refine aw_perm (ks9 := [(0, vR 87), (1, vI a1), (2, vI a2), (3, vI a3), (4, vI a4), (5, vI a5), (6, vI 0)]) [1, 2, 3, 4, 5, 6, 0] rfl ?_
                            exact h
                          · replace h := zifp c22 h
                            refine aw_iload_n X 3 dX7_copy_191 rfl ?_
                            refine aw_iload X 4 dX7_copy_192 rfl ?_
                            refine aw_icmp_gen X 248 dX7_copy_194 rfl (fun c23 => ?_) (fun c23 => ?_)
                            · replace h := zifp c23 h
                              refine aw_iload X 5 dX7_copy_197 rfl ?_
                              refine aw_iconst (v := 1) X dX7_copy_199 (by decide) ?_
                              refine aw_isub X dX7_copy_200 ?_
                              refine aw_istore X dX7_copy_201 (by decide) rfl ?_
                              refine aw_perm (ks9 := [(0, vR 87), (1, vI a1), (2, vI a2), (3, vI a3), (4, vI a4), (6, vI (a5 - 1))]) [1, 2, 3, 4, 5, 0] rfl ?_
                              exact h
                            · replace h := zifn c23 h
                              refine aw_iconst (v := 0) X dX7_copy_248 (by decide) ?_
                              refine aw_istore X dX7_copy_249 (by decide) rfl ?_
                              refine aw_perm (ks9 := [(0, vR 87), (1, vI a1), (2, vI a2), (3, vI a3), (4, vI a4), (5, vI a5), (6, vI 0)]) [1, 2, 3, 4, 5, 6, 0] rfl ?_
                              exact h
          · replace h := zifn c7 h
            refine aw_aload_n X 0 dX7_copy_68 rfl ?_
            refine aw_iload_n X 2 dX7_copy_69 rfl ?_
            have n24 := h.1
            replace h := h.2
            refine aw_pV X (as := [vI a2]) mf_X7_isRow zw_1149 (p_X7_isRow n24) zs_87 rfl rfl (by decide) (Nat.le_of_ble_eq_true rfl) dX7_copy_70 ?_
            refine aw_if_eq X 98 dX7_copy_73 rfl (fun c25 => ?_) (fun c25 => ?_)
            · replace h := zifp c25 h
              refine aw_aload_n X 0 dX7_copy_98 rfl ?_
              refine aw_getR X zf_RX7_7 rfl zs_87 zr_87_0 dX7_copy_99 ?_
              refine aw_iload_n X 1 dX7_copy_102 rfl ?_
              refine aw_ialdj (j := a1.toNatClampNeg) X zs_88 (zin_within c1 (by decide)) rfl dX7_copy_103 ?_
              refine aw_if_lt X 116 dX7_copy_104 rfl (fun c26 => ?_) (fun c26 => ?_)
              · replace h := zifp c26 h
                refine aw_aload_n X 0 dX7_copy_116 rfl ?_
                refine aw_bipush (v := (-3)) X dX7_copy_117 (by decide) ?_
                refine aw_callV X (as := [vI (-3)]) mf_X7_no zw_1137 h zs_87 rfl rfl (by decide) (Nat.le_of_ble_eq_true rfl) dX7_copy_119 (fun v I27 L27 h => ?_)
                obtain ⟨r27, rfl, h⟩ := h
                exact aw_iret X E rfl dX7_copy_122 h
              · replace h := zifn c26 h
                refine aw_aload_n X 0 dX7_copy_107 rfl ?_
                refine aw_getR X zf_RX7_7 rfl zs_87 zr_87_0 dX7_copy_108 ?_
                refine aw_iload_n X 2 dX7_copy_111 rfl ?_
                refine aw_ialdj (j := a2.toNatClampNeg) X zs_88 (zin_within c3 (by decide)) rfl dX7_copy_112 ?_
                refine aw_if_gen X 123 dX7_copy_113 rfl (fun c28 => ?_) (fun c28 => ?_)
                · replace h := zifp c28 h
                  refine aw_aload_n X 0 dX7_copy_116 rfl ?_
                  refine aw_bipush (v := (-3)) X dX7_copy_117 (by decide) ?_
                  refine aw_callV X (as := [vI (-3)]) mf_X7_no zw_1137 h zs_87 rfl rfl (by decide) (Nat.le_of_ble_eq_true rfl) dX7_copy_119 (fun v I29 L29 h => ?_)
                  obtain ⟨r29, rfl, h⟩ := h
                  exact aw_iret X E rfl dX7_copy_122 h
                · replace h := zifn c28 h
                  refine aw_iload X 5 dX7_copy_123 rfl ?_
                  refine aw_if_gen X 135 dX7_copy_125 rfl (fun c30 => ?_) (fun c30 => ?_)
                  · replace h := zifp c30 h
                    refine aw_aload_n X 0 dX7_copy_128 rfl ?_
                    refine aw_bipush (v := (-4)) X dX7_copy_129 (by decide) ?_
                    refine aw_callV X (as := [vI (-4)]) mf_X7_no zw_1137 h zs_87 rfl rfl (by decide) (Nat.le_of_ble_eq_true rfl) dX7_copy_131 (fun v I31 L31 h => ?_)
                    obtain ⟨r31, rfl, h⟩ := h
                    exact aw_iret X E rfl dX7_copy_134 h
                  · replace h := zifn c30 h
                    refine aw_iload_n X 3 dX7_copy_135 rfl ?_
                    refine aw_if_lt X 179 dX7_copy_136 rfl (fun c32 => ?_) (fun c32 => ?_)
                    · replace h := zifp c32 h
                      refine aw_aload_n X 0 dX7_copy_179 rfl ?_
                      refine aw_bipush (v := (-5)) X dX7_copy_180 (by decide) ?_
                      refine aw_callV X (as := [vI (-5)]) mf_X7_no zw_1137 h zs_87 rfl rfl (by decide) (Nat.le_of_ble_eq_true rfl) dX7_copy_182 (fun v I33 L33 h => ?_)
                      obtain ⟨r33, rfl, h⟩ := h
                      exact aw_iret X E rfl dX7_copy_185 h
                    · replace h := zifn c32 h
                      refine aw_iload X 4 dX7_copy_139 rfl ?_
                      refine aw_if_lt X 179 dX7_copy_141 rfl (fun c34 => ?_) (fun c34 => ?_)
                      · replace h := zifp c34 h
                        refine aw_aload_n X 0 dX7_copy_179 rfl ?_
                        refine aw_bipush (v := (-5)) X dX7_copy_180 (by decide) ?_
                        refine aw_callV X (as := [vI (-5)]) mf_X7_no zw_1137 h zs_87 rfl rfl (by decide) (Nat.le_of_ble_eq_true rfl) dX7_copy_182 (fun v I35 L35 h => ?_)
                        obtain ⟨r35, rfl, h⟩ := h
                        exact aw_iret X E rfl dX7_copy_185 h
                      · replace h := zifn c34 h
                        refine aw_iload_n X 3 dX7_copy_144 rfl ?_
                        refine aw_i2l X dX7_copy_145 ?_
                        refine aw_iload X 5 dX7_copy_146 rfl ?_
                        refine aw_i2l X dX7_copy_148 ?_
                        refine aw_ladd X dX7_copy_149 ?_
                        refine aw_aload_n X 0 dX7_copy_150 rfl ?_
                        refine aw_getR X zf_RX7_13 rfl zs_87 zr_87_1 dX7_copy_151 ?_
                        refine aw_iload_n X 1 dX7_copy_154 rfl ?_
                        refine aw_ialdj (j := a1.toNatClampNeg) X zs_89 (zin_within c1 (by decide)) rfl dX7_copy_155 ?_
                        refine aw_i2l X dX7_copy_156 ?_
                        refine aw_lcmp X dX7_copy_157 ?_
                        refine aw_if_gt X 179 dX7_copy_158 rfl (fun c36 => ?_) (fun c36 => ?_)
                        · replace h := zifp c36 h
                          refine aw_aload_n X 0 dX7_copy_179 rfl ?_
                          refine aw_bipush (v := (-5)) X dX7_copy_180 (by decide) ?_
                          refine aw_callV X (as := [vI (-5)]) mf_X7_no zw_1137 h zs_87 rfl rfl (by decide) (Nat.le_of_ble_eq_true rfl) dX7_copy_182 (fun v I37 L37 h => ?_)
                          obtain ⟨r37, rfl, h⟩ := h
                          exact aw_iret X E rfl dX7_copy_185 h
                        · replace h := zifn c36 h
                          refine aw_iload X 4 dX7_copy_161 rfl ?_
                          refine aw_i2l X dX7_copy_163 ?_
                          refine aw_iload X 5 dX7_copy_164 rfl ?_
                          refine aw_i2l X dX7_copy_166 ?_
                          refine aw_ladd X dX7_copy_167 ?_
                          refine aw_aload_n X 0 dX7_copy_168 rfl ?_
                          refine aw_getR X zf_RX7_13 rfl zs_87 zr_87_1 dX7_copy_169 ?_
                          refine aw_iload_n X 2 dX7_copy_172 rfl ?_
                          refine aw_ialdj (j := a2.toNatClampNeg) X zs_89 (zin_within c3 (by decide)) rfl dX7_copy_173 ?_
                          refine aw_i2l X dX7_copy_174 ?_
                          refine aw_lcmp X dX7_copy_175 ?_
                          refine aw_if_len X 186 dX7_copy_176 rfl (fun c38 => ?_) (fun c38 => ?_)
                          · replace h := zifp c38 h
                            refine aw_aload_n X 0 dX7_copy_179 rfl ?_
                            refine aw_bipush (v := (-5)) X dX7_copy_180 (by decide) ?_
                            refine aw_callV X (as := [vI (-5)]) mf_X7_no zw_1137 h zs_87 rfl rfl (by decide) (Nat.le_of_ble_eq_true rfl) dX7_copy_182 (fun v I39 L39 h => ?_)
                            obtain ⟨r39, rfl, h⟩ := h
                            exact aw_iret X E rfl dX7_copy_185 h
                          · replace h := zifn c38 h
                            refine aw_iload_n X 1 dX7_copy_186 rfl ?_
                            refine aw_iload_n X 2 dX7_copy_187 rfl ?_
                            refine aw_icmp_ne X 248 dX7_copy_188 rfl (fun c40 => ?_) (fun c40 => ?_)
                            · replace h := zifn c40 h
                              refine aw_iconst (v := 0) X dX7_copy_248 (by decide) ?_
                              refine aw_istore X dX7_copy_249 (by decide) rfl ?_
                              refine aw_perm (ks9 := [(0, vR 87), (1, vI a1), (2, vI a2), (3, vI a3), (4, vI a4), (5, vI a5), (6, vI 0)]) [1, 2, 3, 4, 5, 6, 0] rfl ?_
                              exact h
                            · replace h := zifp c40 h
                              refine aw_iload_n X 3 dX7_copy_191 rfl ?_
                              refine aw_iload X 4 dX7_copy_192 rfl ?_
                              refine aw_icmp_gen X 248 dX7_copy_194 rfl (fun c41 => ?_) (fun c41 => ?_)
                              · replace h := zifp c41 h
                                refine aw_iload X 5 dX7_copy_197 rfl ?_
                                refine aw_iconst (v := 1) X dX7_copy_199 (by decide) ?_
                                refine aw_isub X dX7_copy_200 ?_
                                refine aw_istore X dX7_copy_201 (by decide) rfl ?_
                                refine aw_perm (ks9 := [(0, vR 87), (1, vI a1), (2, vI a2), (3, vI a3), (4, vI a4), (6, vI (a5 - 1))]) [1, 2, 3, 4, 5, 0] rfl ?_
                                exact h
                              · replace h := zifn c41 h
                                refine aw_iconst (v := 0) X dX7_copy_248 (by decide) ?_
                                refine aw_istore X dX7_copy_249 (by decide) rfl ?_
                                refine aw_perm (ks9 := [(0, vR 87), (1, vI a1), (2, vI a2), (3, vI a3), (4, vI a4), (5, vI a5), (6, vI 0)]) [1, 2, 3, 4, 5, 6, 0] rfl ?_
                                exact h
            · replace h := zifn c25 h
              refine aw_aload_n X 0 dX7_copy_76 rfl ?_
              refine aw_getR X zf_RX7_7 rfl zs_87 zr_87_0 dX7_copy_77 ?_
              refine aw_iload_n X 1 dX7_copy_80 rfl ?_
              refine aw_ialdj (j := a1.toNatClampNeg) X zs_88 (zin_within c1 (by decide)) rfl dX7_copy_81 ?_
              refine aw_aload_n X 0 dX7_copy_82 rfl ?_
              refine aw_getR X zf_RX7_7 rfl zs_87 zr_87_0 dX7_copy_83 ?_
              refine aw_iload_n X 2 dX7_copy_86 rfl ?_
              refine aw_ialdj (j := a2.toNatClampNeg) X zs_88 (zin_within c3 (by decide)) rfl dX7_copy_87 ?_
              refine aw_icmp_eq X 98 dX7_copy_88 rfl (fun c42 => ?_) (fun c42 => ?_)
              · replace h := zifp c42 h
                refine aw_aload_n X 0 dX7_copy_98 rfl ?_
                refine aw_getR X zf_RX7_7 rfl zs_87 zr_87_0 dX7_copy_99 ?_
                refine aw_iload_n X 1 dX7_copy_102 rfl ?_
                refine aw_ialdj (j := a1.toNatClampNeg) X zs_88 (zin_within c1 (by decide)) rfl dX7_copy_103 ?_
                refine aw_if_lt X 116 dX7_copy_104 rfl (fun c43 => ?_) (fun c43 => ?_)
                · replace h := zifp c43 h
                  refine aw_aload_n X 0 dX7_copy_116 rfl ?_
                  refine aw_bipush (v := (-3)) X dX7_copy_117 (by decide) ?_
                  refine aw_callV X (as := [vI (-3)]) mf_X7_no zw_1137 h zs_87 rfl rfl (by decide) (Nat.le_of_ble_eq_true rfl) dX7_copy_119 (fun v I44 L44 h => ?_)
                  obtain ⟨r44, rfl, h⟩ := h
                  exact aw_iret X E rfl dX7_copy_122 h
                · replace h := zifn c43 h
                  refine aw_aload_n X 0 dX7_copy_107 rfl ?_
                  refine aw_getR X zf_RX7_7 rfl zs_87 zr_87_0 dX7_copy_108 ?_
                  refine aw_iload_n X 2 dX7_copy_111 rfl ?_
                  refine aw_ialdj (j := a2.toNatClampNeg) X zs_88 (zin_within c3 (by decide)) rfl dX7_copy_112 ?_
                  refine aw_if_gen X 123 dX7_copy_113 rfl (fun c45 => ?_) (fun c45 => ?_)
                  · replace h := zifp c45 h
                    refine aw_aload_n X 0 dX7_copy_116 rfl ?_
                    refine aw_bipush (v := (-3)) X dX7_copy_117 (by decide) ?_
                    refine aw_callV X (as := [vI (-3)]) mf_X7_no zw_1137 h zs_87 rfl rfl (by decide) (Nat.le_of_ble_eq_true rfl) dX7_copy_119 (fun v I46 L46 h => ?_)
                    obtain ⟨r46, rfl, h⟩ := h
                    exact aw_iret X E rfl dX7_copy_122 h
                  · replace h := zifn c45 h
                    refine aw_iload X 5 dX7_copy_123 rfl ?_
                    refine aw_if_gen X 135 dX7_copy_125 rfl (fun c47 => ?_) (fun c47 => ?_)
                    · replace h := zifp c47 h
                      refine aw_aload_n X 0 dX7_copy_128 rfl ?_
                      refine aw_bipush (v := (-4)) X dX7_copy_129 (by decide) ?_
                      refine aw_callV X (as := [vI (-4)]) mf_X7_no zw_1137 h zs_87 rfl rfl (by decide) (Nat.le_of_ble_eq_true rfl) dX7_copy_131 (fun v I48 L48 h => ?_)
                      obtain ⟨r48, rfl, h⟩ := h
                      exact aw_iret X E rfl dX7_copy_134 h
                    · replace h := zifn c47 h
                      refine aw_iload_n X 3 dX7_copy_135 rfl ?_
                      refine aw_if_lt X 179 dX7_copy_136 rfl (fun c49 => ?_) (fun c49 => ?_)
                      · replace h := zifp c49 h
                        refine aw_aload_n X 0 dX7_copy_179 rfl ?_
                        refine aw_bipush (v := (-5)) X dX7_copy_180 (by decide) ?_
                        refine aw_callV X (as := [vI (-5)]) mf_X7_no zw_1137 h zs_87 rfl rfl (by decide) (Nat.le_of_ble_eq_true rfl) dX7_copy_182 (fun v I50 L50 h => ?_)
                        obtain ⟨r50, rfl, h⟩ := h
                        exact aw_iret X E rfl dX7_copy_185 h
                      · replace h := zifn c49 h
                        refine aw_iload X 4 dX7_copy_139 rfl ?_
                        refine aw_if_lt X 179 dX7_copy_141 rfl (fun c51 => ?_) (fun c51 => ?_)
                        · replace h := zifp c51 h
                          refine aw_aload_n X 0 dX7_copy_179 rfl ?_
                          refine aw_bipush (v := (-5)) X dX7_copy_180 (by decide) ?_
                          refine aw_callV X (as := [vI (-5)]) mf_X7_no zw_1137 h zs_87 rfl rfl (by decide) (Nat.le_of_ble_eq_true rfl) dX7_copy_182 (fun v I52 L52 h => ?_)
                          obtain ⟨r52, rfl, h⟩ := h
                          exact aw_iret X E rfl dX7_copy_185 h
                        · replace h := zifn c51 h
                          refine aw_iload_n X 3 dX7_copy_144 rfl ?_
                          refine aw_i2l X dX7_copy_145 ?_
                          refine aw_iload X 5 dX7_copy_146 rfl ?_
                          refine aw_i2l X dX7_copy_148 ?_
                          refine aw_ladd X dX7_copy_149 ?_
                          refine aw_aload_n X 0 dX7_copy_150 rfl ?_
                          refine aw_getR X zf_RX7_13 rfl zs_87 zr_87_1 dX7_copy_151 ?_
                          refine aw_iload_n X 1 dX7_copy_154 rfl ?_
                          refine aw_ialdj (j := a1.toNatClampNeg) X zs_89 (zin_within c1 (by decide)) rfl dX7_copy_155 ?_
                          refine aw_i2l X dX7_copy_156 ?_
                          refine aw_lcmp X dX7_copy_157 ?_
                          refine aw_if_gt X 179 dX7_copy_158 rfl (fun c53 => ?_) (fun c53 => ?_)
                          · replace h := zifp c53 h
                            refine aw_aload_n X 0 dX7_copy_179 rfl ?_
                            refine aw_bipush (v := (-5)) X dX7_copy_180 (by decide) ?_
                            refine aw_callV X (as := [vI (-5)]) mf_X7_no zw_1137 h zs_87 rfl rfl (by decide) (Nat.le_of_ble_eq_true rfl) dX7_copy_182 (fun v I54 L54 h => ?_)
                            obtain ⟨r54, rfl, h⟩ := h
                            exact aw_iret X E rfl dX7_copy_185 h
                          · replace h := zifn c53 h
                            refine aw_iload X 4 dX7_copy_161 rfl ?_
                            refine aw_i2l X dX7_copy_163 ?_
                            refine aw_iload X 5 dX7_copy_164 rfl ?_
                            refine aw_i2l X dX7_copy_166 ?_
                            refine aw_ladd X dX7_copy_167 ?_
                            refine aw_aload_n X 0 dX7_copy_168 rfl ?_
                            refine aw_getR X zf_RX7_13 rfl zs_87 zr_87_1 dX7_copy_169 ?_
                            refine aw_iload_n X 2 dX7_copy_172 rfl ?_
                            refine aw_ialdj (j := a2.toNatClampNeg) X zs_89 (zin_within c3 (by decide)) rfl dX7_copy_173 ?_
                            refine aw_i2l X dX7_copy_174 ?_
                            refine aw_lcmp X dX7_copy_175 ?_
                            refine aw_if_len X 186 dX7_copy_176 rfl (fun c55 => ?_) (fun c55 => ?_)
                            · replace h := zifp c55 h
                              refine aw_aload_n X 0 dX7_copy_179 rfl ?_
                              refine aw_bipush (v := (-5)) X dX7_copy_180 (by decide) ?_
                              refine aw_callV X (as := [vI (-5)]) mf_X7_no zw_1137 h zs_87 rfl rfl (by decide) (Nat.le_of_ble_eq_true rfl) dX7_copy_182 (fun v I56 L56 h => ?_)
                              obtain ⟨r56, rfl, h⟩ := h
                              exact aw_iret X E rfl dX7_copy_185 h
                            · replace h := zifn c55 h
                              refine aw_iload_n X 1 dX7_copy_186 rfl ?_
                              refine aw_iload_n X 2 dX7_copy_187 rfl ?_
                              refine aw_icmp_ne X 248 dX7_copy_188 rfl (fun c57 => ?_) (fun c57 => ?_)
                              · replace h := zifn c57 h
                                refine aw_iconst (v := 0) X dX7_copy_248 (by decide) ?_
                                refine aw_istore X dX7_copy_249 (by decide) rfl ?_
                                refine aw_perm (ks9 := [(0, vR 87), (1, vI a1), (2, vI a2), (3, vI a3), (4, vI a4), (5, vI a5), (6, vI 0)]) [1, 2, 3, 4, 5, 6, 0] rfl ?_
                                exact h
                              · replace h := zifp c57 h
                                refine aw_iload_n X 3 dX7_copy_191 rfl ?_
                                refine aw_iload X 4 dX7_copy_192 rfl ?_
                                refine aw_icmp_gen X 248 dX7_copy_194 rfl (fun c58 => ?_) (fun c58 => ?_)
                                · replace h := zifp c58 h
                                  refine aw_iload X 5 dX7_copy_197 rfl ?_
                                  refine aw_iconst (v := 1) X dX7_copy_199 (by decide) ?_
                                  refine aw_isub X dX7_copy_200 ?_
                                  refine aw_istore X dX7_copy_201 (by decide) rfl ?_
                                  refine aw_perm (ks9 := [(0, vR 87), (1, vI a1), (2, vI a2), (3, vI a3), (4, vI a4), (6, vI (a5 - 1))]) [1, 2, 3, 4, 5, 0] rfl ?_
                                  exact h
                                · replace h := zifn c58 h
                                  refine aw_iconst (v := 0) X dX7_copy_248 (by decide) ?_
                                  refine aw_istore X dX7_copy_249 (by decide) rfl ?_
                                  refine aw_perm (ks9 := [(0, vR 87), (1, vI a1), (2, vI a2), (3, vI a3), (4, vI a4), (5, vI a5), (6, vI 0)]) [1, 2, 3, 4, 5, 6, 0] rfl ?_
                                  exact h
              · replace h := zifn c42 h
                refine aw_aload_n X 0 dX7_copy_91 rfl ?_
                refine aw_bipush (v := (-2)) X dX7_copy_92 (by decide) ?_
                refine aw_callV X (as := [vI (-2)]) mf_X7_no zw_1137 h zs_87 rfl rfl (by decide) (Nat.le_of_ble_eq_true rfl) dX7_copy_94 (fun v I59 L59 h => ?_)
                obtain ⟨r59, rfl, h⟩ := h
                exact aw_iret X E rfl dX7_copy_97 h
        · replace h := zifn c5 h
          refine aw_aload_n X 0 dX7_copy_52 rfl ?_
          refine aw_iload_n X 2 dX7_copy_53 rfl ?_
          have n60 := h.1
          replace h := h.2
          refine aw_pV X (as := [vI a2]) mf_X7_isRow zw_1149 (p_X7_isRow n60) zs_87 rfl rfl (by decide) (Nat.le_of_ble_eq_true rfl) dX7_copy_54 ?_
          refine aw_if_eq X 91 dX7_copy_57 rfl (fun c61 => ?_) (fun c61 => ?_)
          · replace h := zifp c61 h
            refine aw_aload_n X 0 dX7_copy_91 rfl ?_
            refine aw_bipush (v := (-2)) X dX7_copy_92 (by decide) ?_
            refine aw_callV X (as := [vI (-2)]) mf_X7_no zw_1137 h zs_87 rfl rfl (by decide) (Nat.le_of_ble_eq_true rfl) dX7_copy_94 (fun v I62 L62 h => ?_)
            obtain ⟨r62, rfl, h⟩ := h
            exact aw_iret X E rfl dX7_copy_97 h
          · replace h := zifn c61 h
            refine aw_aload_n X 0 dX7_copy_60 rfl ?_
            refine aw_iload_n X 1 dX7_copy_61 rfl ?_
            have n63 := h.1
            replace h := h.2
            refine aw_pV X (as := [vI a1]) mf_X7_isRow zw_1149 (p_X7_isRow n63) zs_87 rfl rfl (by decide) (Nat.le_of_ble_eq_true rfl) dX7_copy_62 ?_
            refine aw_if_eq X 98 dX7_copy_65 rfl (fun c64 => ?_) (fun c64 => ?_)
            · replace h := zifp c64 h
              refine aw_aload_n X 0 dX7_copy_98 rfl ?_
              refine aw_getR X zf_RX7_7 rfl zs_87 zr_87_0 dX7_copy_99 ?_
              refine aw_iload_n X 1 dX7_copy_102 rfl ?_
              refine aw_ialdj (j := a1.toNatClampNeg) X zs_88 (zin_within c1 (by decide)) rfl dX7_copy_103 ?_
              refine aw_if_lt X 116 dX7_copy_104 rfl (fun c65 => ?_) (fun c65 => ?_)
              · replace h := zifp c65 h
                refine aw_aload_n X 0 dX7_copy_116 rfl ?_
                refine aw_bipush (v := (-3)) X dX7_copy_117 (by decide) ?_
                refine aw_callV X (as := [vI (-3)]) mf_X7_no zw_1137 h zs_87 rfl rfl (by decide) (Nat.le_of_ble_eq_true rfl) dX7_copy_119 (fun v I66 L66 h => ?_)
                obtain ⟨r66, rfl, h⟩ := h
                exact aw_iret X E rfl dX7_copy_122 h
              · replace h := zifn c65 h
                refine aw_aload_n X 0 dX7_copy_107 rfl ?_
                refine aw_getR X zf_RX7_7 rfl zs_87 zr_87_0 dX7_copy_108 ?_
                refine aw_iload_n X 2 dX7_copy_111 rfl ?_
                refine aw_ialdj (j := a2.toNatClampNeg) X zs_88 (zin_within c3 (by decide)) rfl dX7_copy_112 ?_
                refine aw_if_gen X 123 dX7_copy_113 rfl (fun c67 => ?_) (fun c67 => ?_)
                · replace h := zifp c67 h
                  refine aw_aload_n X 0 dX7_copy_116 rfl ?_
                  refine aw_bipush (v := (-3)) X dX7_copy_117 (by decide) ?_
                  refine aw_callV X (as := [vI (-3)]) mf_X7_no zw_1137 h zs_87 rfl rfl (by decide) (Nat.le_of_ble_eq_true rfl) dX7_copy_119 (fun v I68 L68 h => ?_)
                  obtain ⟨r68, rfl, h⟩ := h
                  exact aw_iret X E rfl dX7_copy_122 h
                · replace h := zifn c67 h
                  refine aw_iload X 5 dX7_copy_123 rfl ?_
                  refine aw_if_gen X 135 dX7_copy_125 rfl (fun c69 => ?_) (fun c69 => ?_)
                  · replace h := zifp c69 h
                    refine aw_aload_n X 0 dX7_copy_128 rfl ?_
                    refine aw_bipush (v := (-4)) X dX7_copy_129 (by decide) ?_
                    refine aw_callV X (as := [vI (-4)]) mf_X7_no zw_1137 h zs_87 rfl rfl (by decide) (Nat.le_of_ble_eq_true rfl) dX7_copy_131 (fun v I70 L70 h => ?_)
                    obtain ⟨r70, rfl, h⟩ := h
                    exact aw_iret X E rfl dX7_copy_134 h
                  · replace h := zifn c69 h
                    refine aw_iload_n X 3 dX7_copy_135 rfl ?_
                    refine aw_if_lt X 179 dX7_copy_136 rfl (fun c71 => ?_) (fun c71 => ?_)
                    · replace h := zifp c71 h
                      refine aw_aload_n X 0 dX7_copy_179 rfl ?_
                      refine aw_bipush (v := (-5)) X dX7_copy_180 (by decide) ?_
                      refine aw_callV X (as := [vI (-5)]) mf_X7_no zw_1137 h zs_87 rfl rfl (by decide) (Nat.le_of_ble_eq_true rfl) dX7_copy_182 (fun v I72 L72 h => ?_)
                      obtain ⟨r72, rfl, h⟩ := h
                      exact aw_iret X E rfl dX7_copy_185 h
                    · replace h := zifn c71 h
                      refine aw_iload X 4 dX7_copy_139 rfl ?_
                      refine aw_if_lt X 179 dX7_copy_141 rfl (fun c73 => ?_) (fun c73 => ?_)
                      · replace h := zifp c73 h
                        refine aw_aload_n X 0 dX7_copy_179 rfl ?_
                        refine aw_bipush (v := (-5)) X dX7_copy_180 (by decide) ?_
                        refine aw_callV X (as := [vI (-5)]) mf_X7_no zw_1137 h zs_87 rfl rfl (by decide) (Nat.le_of_ble_eq_true rfl) dX7_copy_182 (fun v I74 L74 h => ?_)
                        obtain ⟨r74, rfl, h⟩ := h
                        exact aw_iret X E rfl dX7_copy_185 h
                      · replace h := zifn c73 h
                        refine aw_iload_n X 3 dX7_copy_144 rfl ?_
                        refine aw_i2l X dX7_copy_145 ?_
                        refine aw_iload X 5 dX7_copy_146 rfl ?_
                        refine aw_i2l X dX7_copy_148 ?_
                        refine aw_ladd X dX7_copy_149 ?_
                        refine aw_aload_n X 0 dX7_copy_150 rfl ?_
                        refine aw_getR X zf_RX7_13 rfl zs_87 zr_87_1 dX7_copy_151 ?_
                        refine aw_iload_n X 1 dX7_copy_154 rfl ?_
                        refine aw_ialdj (j := a1.toNatClampNeg) X zs_89 (zin_within c1 (by decide)) rfl dX7_copy_155 ?_
                        refine aw_i2l X dX7_copy_156 ?_
                        refine aw_lcmp X dX7_copy_157 ?_
                        refine aw_if_gt X 179 dX7_copy_158 rfl (fun c75 => ?_) (fun c75 => ?_)
                        · replace h := zifp c75 h
                          refine aw_aload_n X 0 dX7_copy_179 rfl ?_
                          refine aw_bipush (v := (-5)) X dX7_copy_180 (by decide) ?_
                          refine aw_callV X (as := [vI (-5)]) mf_X7_no zw_1137 h zs_87 rfl rfl (by decide) (Nat.le_of_ble_eq_true rfl) dX7_copy_182 (fun v I76 L76 h => ?_)
                          obtain ⟨r76, rfl, h⟩ := h
                          exact aw_iret X E rfl dX7_copy_185 h
                        · replace h := zifn c75 h
                          refine aw_iload X 4 dX7_copy_161 rfl ?_
                          refine aw_i2l X dX7_copy_163 ?_
                          refine aw_iload X 5 dX7_copy_164 rfl ?_
                          refine aw_i2l X dX7_copy_166 ?_
                          refine aw_ladd X dX7_copy_167 ?_
                          refine aw_aload_n X 0 dX7_copy_168 rfl ?_
                          refine aw_getR X zf_RX7_13 rfl zs_87 zr_87_1 dX7_copy_169 ?_
                          refine aw_iload_n X 2 dX7_copy_172 rfl ?_
                          refine aw_ialdj (j := a2.toNatClampNeg) X zs_89 (zin_within c3 (by decide)) rfl dX7_copy_173 ?_
                          refine aw_i2l X dX7_copy_174 ?_
                          refine aw_lcmp X dX7_copy_175 ?_
                          refine aw_if_len X 186 dX7_copy_176 rfl (fun c77 => ?_) (fun c77 => ?_)
                          · replace h := zifp c77 h
                            refine aw_aload_n X 0 dX7_copy_179 rfl ?_
                            refine aw_bipush (v := (-5)) X dX7_copy_180 (by decide) ?_
                            refine aw_callV X (as := [vI (-5)]) mf_X7_no zw_1137 h zs_87 rfl rfl (by decide) (Nat.le_of_ble_eq_true rfl) dX7_copy_182 (fun v I78 L78 h => ?_)
                            obtain ⟨r78, rfl, h⟩ := h
                            exact aw_iret X E rfl dX7_copy_185 h
                          · replace h := zifn c77 h
                            refine aw_iload_n X 1 dX7_copy_186 rfl ?_
                            refine aw_iload_n X 2 dX7_copy_187 rfl ?_
                            refine aw_icmp_ne X 248 dX7_copy_188 rfl (fun c79 => ?_) (fun c79 => ?_)
                            · replace h := zifn c79 h
                              refine aw_iconst (v := 0) X dX7_copy_248 (by decide) ?_
                              refine aw_istore X dX7_copy_249 (by decide) rfl ?_
                              refine aw_perm (ks9 := [(0, vR 87), (1, vI a1), (2, vI a2), (3, vI a3), (4, vI a4), (5, vI a5), (6, vI 0)]) [1, 2, 3, 4, 5, 6, 0] rfl ?_
                              exact h
                            · replace h := zifp c79 h
                              refine aw_iload_n X 3 dX7_copy_191 rfl ?_
                              refine aw_iload X 4 dX7_copy_192 rfl ?_
                              refine aw_icmp_gen X 248 dX7_copy_194 rfl (fun c80 => ?_) (fun c80 => ?_)
                              · replace h := zifp c80 h
                                refine aw_iload X 5 dX7_copy_197 rfl ?_
                                refine aw_iconst (v := 1) X dX7_copy_199 (by decide) ?_
                                refine aw_isub X dX7_copy_200 ?_
                                refine aw_istore X dX7_copy_201 (by decide) rfl ?_
                                refine aw_perm (ks9 := [(0, vR 87), (1, vI a1), (2, vI a2), (3, vI a3), (4, vI a4), (6, vI (a5 - 1))]) [1, 2, 3, 4, 5, 0] rfl ?_
                                exact h
                              · replace h := zifn c80 h
                                refine aw_iconst (v := 0) X dX7_copy_248 (by decide) ?_
                                refine aw_istore X dX7_copy_249 (by decide) rfl ?_
                                refine aw_perm (ks9 := [(0, vR 87), (1, vI a1), (2, vI a2), (3, vI a3), (4, vI a4), (5, vI a5), (6, vI 0)]) [1, 2, 3, 4, 5, 6, 0] rfl ?_
                                exact h
            · replace h := zifn c64 h
              refine aw_aload_n X 0 dX7_copy_68 rfl ?_
              refine aw_iload_n X 2 dX7_copy_69 rfl ?_
              have n81 := h.1
              replace h := h.2
              refine aw_pV X (as := [vI a2]) mf_X7_isRow zw_1149 (p_X7_isRow n81) zs_87 rfl rfl (by decide) (Nat.le_of_ble_eq_true rfl) dX7_copy_70 ?_
              refine aw_if_eq X 98 dX7_copy_73 rfl (fun c82 => ?_) (fun c82 => ?_)
              · replace h := zifp c82 h
                refine aw_aload_n X 0 dX7_copy_98 rfl ?_
                refine aw_getR X zf_RX7_7 rfl zs_87 zr_87_0 dX7_copy_99 ?_
                refine aw_iload_n X 1 dX7_copy_102 rfl ?_
                refine aw_ialdj (j := a1.toNatClampNeg) X zs_88 (zin_within c1 (by decide)) rfl dX7_copy_103 ?_
                refine aw_if_lt X 116 dX7_copy_104 rfl (fun c83 => ?_) (fun c83 => ?_)
                · replace h := zifp c83 h
                  refine aw_aload_n X 0 dX7_copy_116 rfl ?_
                  refine aw_bipush (v := (-3)) X dX7_copy_117 (by decide) ?_
                  refine aw_callV X (as := [vI (-3)]) mf_X7_no zw_1137 h zs_87 rfl rfl (by decide) (Nat.le_of_ble_eq_true rfl) dX7_copy_119 (fun v I84 L84 h => ?_)
                  obtain ⟨r84, rfl, h⟩ := h
                  exact aw_iret X E rfl dX7_copy_122 h
                · replace h := zifn c83 h
                  refine aw_aload_n X 0 dX7_copy_107 rfl ?_
                  refine aw_getR X zf_RX7_7 rfl zs_87 zr_87_0 dX7_copy_108 ?_
                  refine aw_iload_n X 2 dX7_copy_111 rfl ?_
                  refine aw_ialdj (j := a2.toNatClampNeg) X zs_88 (zin_within c3 (by decide)) rfl dX7_copy_112 ?_
                  refine aw_if_gen X 123 dX7_copy_113 rfl (fun c85 => ?_) (fun c85 => ?_)
                  · replace h := zifp c85 h
                    refine aw_aload_n X 0 dX7_copy_116 rfl ?_
                    refine aw_bipush (v := (-3)) X dX7_copy_117 (by decide) ?_
                    refine aw_callV X (as := [vI (-3)]) mf_X7_no zw_1137 h zs_87 rfl rfl (by decide) (Nat.le_of_ble_eq_true rfl) dX7_copy_119 (fun v I86 L86 h => ?_)
                    obtain ⟨r86, rfl, h⟩ := h
                    exact aw_iret X E rfl dX7_copy_122 h
                  · replace h := zifn c85 h
                    refine aw_iload X 5 dX7_copy_123 rfl ?_
                    refine aw_if_gen X 135 dX7_copy_125 rfl (fun c87 => ?_) (fun c87 => ?_)
                    · replace h := zifp c87 h
                      refine aw_aload_n X 0 dX7_copy_128 rfl ?_
                      refine aw_bipush (v := (-4)) X dX7_copy_129 (by decide) ?_
                      refine aw_callV X (as := [vI (-4)]) mf_X7_no zw_1137 h zs_87 rfl rfl (by decide) (Nat.le_of_ble_eq_true rfl) dX7_copy_131 (fun v I88 L88 h => ?_)
                      obtain ⟨r88, rfl, h⟩ := h
                      exact aw_iret X E rfl dX7_copy_134 h
                    · replace h := zifn c87 h
                      refine aw_iload_n X 3 dX7_copy_135 rfl ?_
                      refine aw_if_lt X 179 dX7_copy_136 rfl (fun c89 => ?_) (fun c89 => ?_)
                      · replace h := zifp c89 h
                        refine aw_aload_n X 0 dX7_copy_179 rfl ?_
                        refine aw_bipush (v := (-5)) X dX7_copy_180 (by decide) ?_
                        refine aw_callV X (as := [vI (-5)]) mf_X7_no zw_1137 h zs_87 rfl rfl (by decide) (Nat.le_of_ble_eq_true rfl) dX7_copy_182 (fun v I90 L90 h => ?_)
                        obtain ⟨r90, rfl, h⟩ := h
                        exact aw_iret X E rfl dX7_copy_185 h
                      · replace h := zifn c89 h
                        refine aw_iload X 4 dX7_copy_139 rfl ?_
                        refine aw_if_lt X 179 dX7_copy_141 rfl (fun c91 => ?_) (fun c91 => ?_)
                        · replace h := zifp c91 h
                          refine aw_aload_n X 0 dX7_copy_179 rfl ?_
                          refine aw_bipush (v := (-5)) X dX7_copy_180 (by decide) ?_
                          refine aw_callV X (as := [vI (-5)]) mf_X7_no zw_1137 h zs_87 rfl rfl (by decide) (Nat.le_of_ble_eq_true rfl) dX7_copy_182 (fun v I92 L92 h => ?_)
                          obtain ⟨r92, rfl, h⟩ := h
                          exact aw_iret X E rfl dX7_copy_185 h
                        · replace h := zifn c91 h
                          refine aw_iload_n X 3 dX7_copy_144 rfl ?_
                          refine aw_i2l X dX7_copy_145 ?_
                          refine aw_iload X 5 dX7_copy_146 rfl ?_
                          refine aw_i2l X dX7_copy_148 ?_
                          refine aw_ladd X dX7_copy_149 ?_
                          refine aw_aload_n X 0 dX7_copy_150 rfl ?_
                          refine aw_getR X zf_RX7_13 rfl zs_87 zr_87_1 dX7_copy_151 ?_
                          refine aw_iload_n X 1 dX7_copy_154 rfl ?_
                          refine aw_ialdj (j := a1.toNatClampNeg) X zs_89 (zin_within c1 (by decide)) rfl dX7_copy_155 ?_
                          refine aw_i2l X dX7_copy_156 ?_
                          refine aw_lcmp X dX7_copy_157 ?_
                          refine aw_if_gt X 179 dX7_copy_158 rfl (fun c93 => ?_) (fun c93 => ?_)
                          · replace h := zifp c93 h
                            refine aw_aload_n X 0 dX7_copy_179 rfl ?_
                            refine aw_bipush (v := (-5)) X dX7_copy_180 (by decide) ?_
                            refine aw_callV X (as := [vI (-5)]) mf_X7_no zw_1137 h zs_87 rfl rfl (by decide) (Nat.le_of_ble_eq_true rfl) dX7_copy_182 (fun v I94 L94 h => ?_)
                            obtain ⟨r94, rfl, h⟩ := h
                            exact aw_iret X E rfl dX7_copy_185 h
                          · replace h := zifn c93 h
                            refine aw_iload X 4 dX7_copy_161 rfl ?_
                            refine aw_i2l X dX7_copy_163 ?_
                            refine aw_iload X 5 dX7_copy_164 rfl ?_
                            refine aw_i2l X dX7_copy_166 ?_
                            refine aw_ladd X dX7_copy_167 ?_
                            refine aw_aload_n X 0 dX7_copy_168 rfl ?_
                            refine aw_getR X zf_RX7_13 rfl zs_87 zr_87_1 dX7_copy_169 ?_
                            refine aw_iload_n X 2 dX7_copy_172 rfl ?_
                            refine aw_ialdj (j := a2.toNatClampNeg) X zs_89 (zin_within c3 (by decide)) rfl dX7_copy_173 ?_
                            refine aw_i2l X dX7_copy_174 ?_
                            refine aw_lcmp X dX7_copy_175 ?_
                            refine aw_if_len X 186 dX7_copy_176 rfl (fun c95 => ?_) (fun c95 => ?_)
                            · replace h := zifp c95 h
                              refine aw_aload_n X 0 dX7_copy_179 rfl ?_
                              refine aw_bipush (v := (-5)) X dX7_copy_180 (by decide) ?_
                              refine aw_callV X (as := [vI (-5)]) mf_X7_no zw_1137 h zs_87 rfl rfl (by decide) (Nat.le_of_ble_eq_true rfl) dX7_copy_182 (fun v I96 L96 h => ?_)
                              obtain ⟨r96, rfl, h⟩ := h
                              exact aw_iret X E rfl dX7_copy_185 h
                            · replace h := zifn c95 h
                              refine aw_iload_n X 1 dX7_copy_186 rfl ?_
                              refine aw_iload_n X 2 dX7_copy_187 rfl ?_
                              refine aw_icmp_ne X 248 dX7_copy_188 rfl (fun c97 => ?_) (fun c97 => ?_)
                              · replace h := zifn c97 h
                                refine aw_iconst (v := 0) X dX7_copy_248 (by decide) ?_
                                refine aw_istore X dX7_copy_249 (by decide) rfl ?_
                                refine aw_perm (ks9 := [(0, vR 87), (1, vI a1), (2, vI a2), (3, vI a3), (4, vI a4), (5, vI a5), (6, vI 0)]) [1, 2, 3, 4, 5, 6, 0] rfl ?_
                                exact h
                              · replace h := zifp c97 h
                                refine aw_iload_n X 3 dX7_copy_191 rfl ?_
                                refine aw_iload X 4 dX7_copy_192 rfl ?_
                                refine aw_icmp_gen X 248 dX7_copy_194 rfl (fun c98 => ?_) (fun c98 => ?_)
                                · replace h := zifp c98 h
                                  refine aw_iload X 5 dX7_copy_197 rfl ?_
                                  refine aw_iconst (v := 1) X dX7_copy_199 (by decide) ?_
                                  refine aw_isub X dX7_copy_200 ?_
                                  refine aw_istore X dX7_copy_201 (by decide) rfl ?_
                                  refine aw_perm (ks9 := [(0, vR 87), (1, vI a1), (2, vI a2), (3, vI a3), (4, vI a4), (6, vI (a5 - 1))]) [1, 2, 3, 4, 5, 0] rfl ?_
                                  exact h
                                · replace h := zifn c98 h
                                  refine aw_iconst (v := 0) X dX7_copy_248 (by decide) ?_
                                  refine aw_istore X dX7_copy_249 (by decide) rfl ?_
                                  refine aw_perm (ks9 := [(0, vR 87), (1, vI a1), (2, vI a2), (3, vI a3), (4, vI a4), (5, vI a5), (6, vI 0)]) [1, 2, 3, 4, 5, 6, 0] rfl ?_
                                  exact h
              · replace h := zifn c82 h
                refine aw_aload_n X 0 dX7_copy_76 rfl ?_
                refine aw_getR X zf_RX7_7 rfl zs_87 zr_87_0 dX7_copy_77 ?_
                refine aw_iload_n X 1 dX7_copy_80 rfl ?_
                refine aw_ialdj (j := a1.toNatClampNeg) X zs_88 (zin_within c1 (by decide)) rfl dX7_copy_81 ?_
                refine aw_aload_n X 0 dX7_copy_82 rfl ?_
                refine aw_getR X zf_RX7_7 rfl zs_87 zr_87_0 dX7_copy_83 ?_
                refine aw_iload_n X 2 dX7_copy_86 rfl ?_
                refine aw_ialdj (j := a2.toNatClampNeg) X zs_88 (zin_within c3 (by decide)) rfl dX7_copy_87 ?_
                refine aw_icmp_eq X 98 dX7_copy_88 rfl (fun c99 => ?_) (fun c99 => ?_)
                · replace h := zifp c99 h
                  refine aw_aload_n X 0 dX7_copy_98 rfl ?_
                  refine aw_getR X zf_RX7_7 rfl zs_87 zr_87_0 dX7_copy_99 ?_
                  refine aw_iload_n X 1 dX7_copy_102 rfl ?_
                  refine aw_ialdj (j := a1.toNatClampNeg) X zs_88 (zin_within c1 (by decide)) rfl dX7_copy_103 ?_
                  refine aw_if_lt X 116 dX7_copy_104 rfl (fun c100 => ?_) (fun c100 => ?_)
                  · replace h := zifp c100 h
                    refine aw_aload_n X 0 dX7_copy_116 rfl ?_
                    refine aw_bipush (v := (-3)) X dX7_copy_117 (by decide) ?_
                    refine aw_callV X (as := [vI (-3)]) mf_X7_no zw_1137 h zs_87 rfl rfl (by decide) (Nat.le_of_ble_eq_true rfl) dX7_copy_119 (fun v I101 L101 h => ?_)
                    obtain ⟨r101, rfl, h⟩ := h
                    exact aw_iret X E rfl dX7_copy_122 h
                  · replace h := zifn c100 h
                    refine aw_aload_n X 0 dX7_copy_107 rfl ?_
                    refine aw_getR X zf_RX7_7 rfl zs_87 zr_87_0 dX7_copy_108 ?_
                    refine aw_iload_n X 2 dX7_copy_111 rfl ?_
                    refine aw_ialdj (j := a2.toNatClampNeg) X zs_88 (zin_within c3 (by decide)) rfl dX7_copy_112 ?_
                    refine aw_if_gen X 123 dX7_copy_113 rfl (fun c102 => ?_) (fun c102 => ?_)
                    · replace h := zifp c102 h
                      refine aw_aload_n X 0 dX7_copy_116 rfl ?_
                      refine aw_bipush (v := (-3)) X dX7_copy_117 (by decide) ?_
                      refine aw_callV X (as := [vI (-3)]) mf_X7_no zw_1137 h zs_87 rfl rfl (by decide) (Nat.le_of_ble_eq_true rfl) dX7_copy_119 (fun v I103 L103 h => ?_)
                      obtain ⟨r103, rfl, h⟩ := h
                      exact aw_iret X E rfl dX7_copy_122 h
                    · replace h := zifn c102 h
                      refine aw_iload X 5 dX7_copy_123 rfl ?_
                      refine aw_if_gen X 135 dX7_copy_125 rfl (fun c104 => ?_) (fun c104 => ?_)
                      · replace h := zifp c104 h
                        refine aw_aload_n X 0 dX7_copy_128 rfl ?_
                        refine aw_bipush (v := (-4)) X dX7_copy_129 (by decide) ?_
                        refine aw_callV X (as := [vI (-4)]) mf_X7_no zw_1137 h zs_87 rfl rfl (by decide) (Nat.le_of_ble_eq_true rfl) dX7_copy_131 (fun v I105 L105 h => ?_)
                        obtain ⟨r105, rfl, h⟩ := h
                        exact aw_iret X E rfl dX7_copy_134 h
                      · replace h := zifn c104 h
                        refine aw_iload_n X 3 dX7_copy_135 rfl ?_
                        refine aw_if_lt X 179 dX7_copy_136 rfl (fun c106 => ?_) (fun c106 => ?_)
                        · replace h := zifp c106 h
                          refine aw_aload_n X 0 dX7_copy_179 rfl ?_
                          refine aw_bipush (v := (-5)) X dX7_copy_180 (by decide) ?_
                          refine aw_callV X (as := [vI (-5)]) mf_X7_no zw_1137 h zs_87 rfl rfl (by decide) (Nat.le_of_ble_eq_true rfl) dX7_copy_182 (fun v I107 L107 h => ?_)
                          obtain ⟨r107, rfl, h⟩ := h
                          exact aw_iret X E rfl dX7_copy_185 h
                        · replace h := zifn c106 h
                          refine aw_iload X 4 dX7_copy_139 rfl ?_
                          refine aw_if_lt X 179 dX7_copy_141 rfl (fun c108 => ?_) (fun c108 => ?_)
                          · replace h := zifp c108 h
                            refine aw_aload_n X 0 dX7_copy_179 rfl ?_
                            refine aw_bipush (v := (-5)) X dX7_copy_180 (by decide) ?_
                            refine aw_callV X (as := [vI (-5)]) mf_X7_no zw_1137 h zs_87 rfl rfl (by decide) (Nat.le_of_ble_eq_true rfl) dX7_copy_182 (fun v I109 L109 h => ?_)
                            obtain ⟨r109, rfl, h⟩ := h
                            exact aw_iret X E rfl dX7_copy_185 h
                          · replace h := zifn c108 h
                            refine aw_iload_n X 3 dX7_copy_144 rfl ?_
                            refine aw_i2l X dX7_copy_145 ?_
                            refine aw_iload X 5 dX7_copy_146 rfl ?_
                            refine aw_i2l X dX7_copy_148 ?_
                            refine aw_ladd X dX7_copy_149 ?_
                            refine aw_aload_n X 0 dX7_copy_150 rfl ?_
                            refine aw_getR X zf_RX7_13 rfl zs_87 zr_87_1 dX7_copy_151 ?_
                            refine aw_iload_n X 1 dX7_copy_154 rfl ?_
                            refine aw_ialdj (j := a1.toNatClampNeg) X zs_89 (zin_within c1 (by decide)) rfl dX7_copy_155 ?_
                            refine aw_i2l X dX7_copy_156 ?_
                            refine aw_lcmp X dX7_copy_157 ?_
                            refine aw_if_gt X 179 dX7_copy_158 rfl (fun c110 => ?_) (fun c110 => ?_)
                            · replace h := zifp c110 h
                              refine aw_aload_n X 0 dX7_copy_179 rfl ?_
                              refine aw_bipush (v := (-5)) X dX7_copy_180 (by decide) ?_
                              refine aw_callV X (as := [vI (-5)]) mf_X7_no zw_1137 h zs_87 rfl rfl (by decide) (Nat.le_of_ble_eq_true rfl) dX7_copy_182 (fun v I111 L111 h => ?_)
                              obtain ⟨r111, rfl, h⟩ := h
                              exact aw_iret X E rfl dX7_copy_185 h
                            · replace h := zifn c110 h
                              refine aw_iload X 4 dX7_copy_161 rfl ?_
                              refine aw_i2l X dX7_copy_163 ?_
                              refine aw_iload X 5 dX7_copy_164 rfl ?_
                              refine aw_i2l X dX7_copy_166 ?_
                              refine aw_ladd X dX7_copy_167 ?_
                              refine aw_aload_n X 0 dX7_copy_168 rfl ?_
                              refine aw_getR X zf_RX7_13 rfl zs_87 zr_87_1 dX7_copy_169 ?_
                              refine aw_iload_n X 2 dX7_copy_172 rfl ?_
                              refine aw_ialdj (j := a2.toNatClampNeg) X zs_89 (zin_within c3 (by decide)) rfl dX7_copy_173 ?_
                              refine aw_i2l X dX7_copy_174 ?_
                              refine aw_lcmp X dX7_copy_175 ?_
                              refine aw_if_len X 186 dX7_copy_176 rfl (fun c112 => ?_) (fun c112 => ?_)
                              · replace h := zifp c112 h
                                refine aw_aload_n X 0 dX7_copy_179 rfl ?_
                                refine aw_bipush (v := (-5)) X dX7_copy_180 (by decide) ?_
                                refine aw_callV X (as := [vI (-5)]) mf_X7_no zw_1137 h zs_87 rfl rfl (by decide) (Nat.le_of_ble_eq_true rfl) dX7_copy_182 (fun v I113 L113 h => ?_)
                                obtain ⟨r113, rfl, h⟩ := h
                                exact aw_iret X E rfl dX7_copy_185 h
                              · replace h := zifn c112 h
                                refine aw_iload_n X 1 dX7_copy_186 rfl ?_
                                refine aw_iload_n X 2 dX7_copy_187 rfl ?_
                                refine aw_icmp_ne X 248 dX7_copy_188 rfl (fun c114 => ?_) (fun c114 => ?_)
                                · replace h := zifn c114 h
                                  refine aw_iconst (v := 0) X dX7_copy_248 (by decide) ?_
                                  refine aw_istore X dX7_copy_249 (by decide) rfl ?_
                                  refine aw_perm (ks9 := [(0, vR 87), (1, vI a1), (2, vI a2), (3, vI a3), (4, vI a4), (5, vI a5), (6, vI 0)]) [1, 2, 3, 4, 5, 6, 0] rfl ?_
                                  exact h
                                · replace h := zifp c114 h
                                  refine aw_iload_n X 3 dX7_copy_191 rfl ?_
                                  refine aw_iload X 4 dX7_copy_192 rfl ?_
                                  refine aw_icmp_gen X 248 dX7_copy_194 rfl (fun c115 => ?_) (fun c115 => ?_)
                                  · replace h := zifp c115 h
                                    refine aw_iload X 5 dX7_copy_197 rfl ?_
                                    refine aw_iconst (v := 1) X dX7_copy_199 (by decide) ?_
                                    refine aw_isub X dX7_copy_200 ?_
                                    refine aw_istore X dX7_copy_201 (by decide) rfl ?_
                                    refine aw_perm (ks9 := [(0, vR 87), (1, vI a1), (2, vI a2), (3, vI a3), (4, vI a4), (6, vI (a5 - 1))]) [1, 2, 3, 4, 5, 0] rfl ?_
                                    exact h
                                  · replace h := zifn c115 h
                                    refine aw_iconst (v := 0) X dX7_copy_248 (by decide) ?_
                                    refine aw_istore X dX7_copy_249 (by decide) rfl ?_
                                    refine aw_perm (ks9 := [(0, vR 87), (1, vI a1), (2, vI a2), (3, vI a3), (4, vI a4), (5, vI a5), (6, vI 0)]) [1, 2, 3, 4, 5, 6, 0] rfl ?_
                                    exact h
                · replace h := zifn c99 h
                  refine aw_aload_n X 0 dX7_copy_91 rfl ?_
                  refine aw_bipush (v := (-2)) X dX7_copy_92 (by decide) ?_
                  refine aw_callV X (as := [vI (-2)]) mf_X7_no zw_1137 h zs_87 rfl rfl (by decide) (Nat.le_of_ble_eq_true rfl) dX7_copy_94 (fun v I116 L116 h => ?_)
                  obtain ⟨r116, rfl, h⟩ := h
                  exact aw_iret X E rfl dX7_copy_97 h
      · replace h := zifn c4 h
        refine aw_aload_n X 0 dX7_copy_35 rfl ?_
        refine aw_iload_n X 1 dX7_copy_36 rfl ?_
        have n117 := h.1
        replace h := h.2
        refine aw_pV X (as := [vI a1]) mf_X7_isRow zw_1149 (p_X7_isRow n117) zs_87 rfl rfl (by decide) (Nat.le_of_ble_eq_true rfl) dX7_copy_37 ?_
        refine aw_if_eq X 91 dX7_copy_40 rfl (fun c118 => ?_) (fun c118 => ?_)
        · replace h := zifp c118 h
          refine aw_aload_n X 0 dX7_copy_91 rfl ?_
          refine aw_bipush (v := (-2)) X dX7_copy_92 (by decide) ?_
          refine aw_callV X (as := [vI (-2)]) mf_X7_no zw_1137 h zs_87 rfl rfl (by decide) (Nat.le_of_ble_eq_true rfl) dX7_copy_94 (fun v I119 L119 h => ?_)
          obtain ⟨r119, rfl, h⟩ := h
          exact aw_iret X E rfl dX7_copy_97 h
        · replace h := zifn c118 h
          refine aw_aload_n X 0 dX7_copy_43 rfl ?_
          refine aw_getR X zf_RX7_7 rfl zs_87 zr_87_0 dX7_copy_44 ?_
          refine aw_iload_n X 2 dX7_copy_47 rfl ?_
          refine aw_ialdj (j := a2.toNatClampNeg) X zs_88 (zin_within c3 (by decide)) rfl dX7_copy_48 ?_
          refine aw_if_lt X 60 dX7_copy_49 rfl (fun c120 => ?_) (fun c120 => ?_)
          · replace h := zifp c120 h
            refine aw_aload_n X 0 dX7_copy_60 rfl ?_
            refine aw_iload_n X 1 dX7_copy_61 rfl ?_
            have n121 := h.1
            replace h := h.2
            refine aw_pV X (as := [vI a1]) mf_X7_isRow zw_1149 (p_X7_isRow n121) zs_87 rfl rfl (by decide) (Nat.le_of_ble_eq_true rfl) dX7_copy_62 ?_
            refine aw_if_eq X 98 dX7_copy_65 rfl (fun c122 => ?_) (fun c122 => ?_)
            · replace h := zifp c122 h
              refine aw_aload_n X 0 dX7_copy_98 rfl ?_
              refine aw_getR X zf_RX7_7 rfl zs_87 zr_87_0 dX7_copy_99 ?_
              refine aw_iload_n X 1 dX7_copy_102 rfl ?_
              refine aw_ialdj (j := a1.toNatClampNeg) X zs_88 (zin_within c1 (by decide)) rfl dX7_copy_103 ?_
              refine aw_if_lt X 116 dX7_copy_104 rfl (fun c123 => ?_) (fun c123 => ?_)
              · replace h := zifp c123 h
                refine aw_aload_n X 0 dX7_copy_116 rfl ?_
                refine aw_bipush (v := (-3)) X dX7_copy_117 (by decide) ?_
                refine aw_callV X (as := [vI (-3)]) mf_X7_no zw_1137 h zs_87 rfl rfl (by decide) (Nat.le_of_ble_eq_true rfl) dX7_copy_119 (fun v I124 L124 h => ?_)
                obtain ⟨r124, rfl, h⟩ := h
                exact aw_iret X E rfl dX7_copy_122 h
              · replace h := zifn c123 h
                refine aw_aload_n X 0 dX7_copy_107 rfl ?_
                refine aw_getR X zf_RX7_7 rfl zs_87 zr_87_0 dX7_copy_108 ?_
                refine aw_iload_n X 2 dX7_copy_111 rfl ?_
                refine aw_ialdj (j := a2.toNatClampNeg) X zs_88 (zin_within c3 (by decide)) rfl dX7_copy_112 ?_
                refine aw_if_gen X 123 dX7_copy_113 rfl (fun c125 => ?_) (fun c125 => ?_)
                · replace h := zifp c125 h
                  refine aw_aload_n X 0 dX7_copy_116 rfl ?_
                  refine aw_bipush (v := (-3)) X dX7_copy_117 (by decide) ?_
                  refine aw_callV X (as := [vI (-3)]) mf_X7_no zw_1137 h zs_87 rfl rfl (by decide) (Nat.le_of_ble_eq_true rfl) dX7_copy_119 (fun v I126 L126 h => ?_)
                  obtain ⟨r126, rfl, h⟩ := h
                  exact aw_iret X E rfl dX7_copy_122 h
                · replace h := zifn c125 h
                  refine aw_iload X 5 dX7_copy_123 rfl ?_
                  refine aw_if_gen X 135 dX7_copy_125 rfl (fun c127 => ?_) (fun c127 => ?_)
                  · replace h := zifp c127 h
                    refine aw_aload_n X 0 dX7_copy_128 rfl ?_
                    refine aw_bipush (v := (-4)) X dX7_copy_129 (by decide) ?_
                    refine aw_callV X (as := [vI (-4)]) mf_X7_no zw_1137 h zs_87 rfl rfl (by decide) (Nat.le_of_ble_eq_true rfl) dX7_copy_131 (fun v I128 L128 h => ?_)
                    obtain ⟨r128, rfl, h⟩ := h
                    exact aw_iret X E rfl dX7_copy_134 h
                  · replace h := zifn c127 h
                    refine aw_iload_n X 3 dX7_copy_135 rfl ?_
                    refine aw_if_lt X 179 dX7_copy_136 rfl (fun c129 => ?_) (fun c129 => ?_)
                    · replace h := zifp c129 h
                      refine aw_aload_n X 0 dX7_copy_179 rfl ?_
                      refine aw_bipush (v := (-5)) X dX7_copy_180 (by decide) ?_
                      refine aw_callV X (as := [vI (-5)]) mf_X7_no zw_1137 h zs_87 rfl rfl (by decide) (Nat.le_of_ble_eq_true rfl) dX7_copy_182 (fun v I130 L130 h => ?_)
                      obtain ⟨r130, rfl, h⟩ := h
                      exact aw_iret X E rfl dX7_copy_185 h
                    · replace h := zifn c129 h
                      refine aw_iload X 4 dX7_copy_139 rfl ?_
                      refine aw_if_lt X 179 dX7_copy_141 rfl (fun c131 => ?_) (fun c131 => ?_)
                      · replace h := zifp c131 h
                        refine aw_aload_n X 0 dX7_copy_179 rfl ?_
                        refine aw_bipush (v := (-5)) X dX7_copy_180 (by decide) ?_
                        refine aw_callV X (as := [vI (-5)]) mf_X7_no zw_1137 h zs_87 rfl rfl (by decide) (Nat.le_of_ble_eq_true rfl) dX7_copy_182 (fun v I132 L132 h => ?_)
                        obtain ⟨r132, rfl, h⟩ := h
                        exact aw_iret X E rfl dX7_copy_185 h
                      · replace h := zifn c131 h
                        refine aw_iload_n X 3 dX7_copy_144 rfl ?_
                        refine aw_i2l X dX7_copy_145 ?_
                        refine aw_iload X 5 dX7_copy_146 rfl ?_
                        refine aw_i2l X dX7_copy_148 ?_
                        refine aw_ladd X dX7_copy_149 ?_
                        refine aw_aload_n X 0 dX7_copy_150 rfl ?_
                        refine aw_getR X zf_RX7_13 rfl zs_87 zr_87_1 dX7_copy_151 ?_
                        refine aw_iload_n X 1 dX7_copy_154 rfl ?_
                        refine aw_ialdj (j := a1.toNatClampNeg) X zs_89 (zin_within c1 (by decide)) rfl dX7_copy_155 ?_
                        refine aw_i2l X dX7_copy_156 ?_
                        refine aw_lcmp X dX7_copy_157 ?_
                        refine aw_if_gt X 179 dX7_copy_158 rfl (fun c133 => ?_) (fun c133 => ?_)
                        · replace h := zifp c133 h
                          refine aw_aload_n X 0 dX7_copy_179 rfl ?_
                          refine aw_bipush (v := (-5)) X dX7_copy_180 (by decide) ?_
                          refine aw_callV X (as := [vI (-5)]) mf_X7_no zw_1137 h zs_87 rfl rfl (by decide) (Nat.le_of_ble_eq_true rfl) dX7_copy_182 (fun v I134 L134 h => ?_)
                          obtain ⟨r134, rfl, h⟩ := h
                          exact aw_iret X E rfl dX7_copy_185 h
                        · replace h := zifn c133 h
                          refine aw_iload X 4 dX7_copy_161 rfl ?_
                          refine aw_i2l X dX7_copy_163 ?_
                          refine aw_iload X 5 dX7_copy_164 rfl ?_
                          refine aw_i2l X dX7_copy_166 ?_
                          refine aw_ladd X dX7_copy_167 ?_
                          refine aw_aload_n X 0 dX7_copy_168 rfl ?_
                          refine aw_getR X zf_RX7_13 rfl zs_87 zr_87_1 dX7_copy_169 ?_
                          refine aw_iload_n X 2 dX7_copy_172 rfl ?_
                          refine aw_ialdj (j := a2.toNatClampNeg) X zs_89 (zin_within c3 (by decide)) rfl dX7_copy_173 ?_
                          refine aw_i2l X dX7_copy_174 ?_
                          refine aw_lcmp X dX7_copy_175 ?_
                          refine aw_if_len X 186 dX7_copy_176 rfl (fun c135 => ?_) (fun c135 => ?_)
                          · replace h := zifp c135 h
                            refine aw_aload_n X 0 dX7_copy_179 rfl ?_
                            refine aw_bipush (v := (-5)) X dX7_copy_180 (by decide) ?_
                            refine aw_callV X (as := [vI (-5)]) mf_X7_no zw_1137 h zs_87 rfl rfl (by decide) (Nat.le_of_ble_eq_true rfl) dX7_copy_182 (fun v I136 L136 h => ?_)
                            obtain ⟨r136, rfl, h⟩ := h
                            exact aw_iret X E rfl dX7_copy_185 h
                          · replace h := zifn c135 h
                            refine aw_iload_n X 1 dX7_copy_186 rfl ?_
                            refine aw_iload_n X 2 dX7_copy_187 rfl ?_
                            refine aw_icmp_ne X 248 dX7_copy_188 rfl (fun c137 => ?_) (fun c137 => ?_)
                            · replace h := zifn c137 h
                              refine aw_iconst (v := 0) X dX7_copy_248 (by decide) ?_
                              refine aw_istore X dX7_copy_249 (by decide) rfl ?_
                              refine aw_perm (ks9 := [(0, vR 87), (1, vI a1), (2, vI a2), (3, vI a3), (4, vI a4), (5, vI a5), (6, vI 0)]) [1, 2, 3, 4, 5, 6, 0] rfl ?_
                              exact h
                            · replace h := zifp c137 h
                              refine aw_iload_n X 3 dX7_copy_191 rfl ?_
                              refine aw_iload X 4 dX7_copy_192 rfl ?_
                              refine aw_icmp_gen X 248 dX7_copy_194 rfl (fun c138 => ?_) (fun c138 => ?_)
                              · replace h := zifp c138 h
                                refine aw_iload X 5 dX7_copy_197 rfl ?_
                                refine aw_iconst (v := 1) X dX7_copy_199 (by decide) ?_
                                refine aw_isub X dX7_copy_200 ?_
                                refine aw_istore X dX7_copy_201 (by decide) rfl ?_
                                refine aw_perm (ks9 := [(0, vR 87), (1, vI a1), (2, vI a2), (3, vI a3), (4, vI a4), (6, vI (a5 - 1))]) [1, 2, 3, 4, 5, 0] rfl ?_
                                exact h
                              · replace h := zifn c138 h
                                refine aw_iconst (v := 0) X dX7_copy_248 (by decide) ?_
                                refine aw_istore X dX7_copy_249 (by decide) rfl ?_
                                refine aw_perm (ks9 := [(0, vR 87), (1, vI a1), (2, vI a2), (3, vI a3), (4, vI a4), (5, vI a5), (6, vI 0)]) [1, 2, 3, 4, 5, 6, 0] rfl ?_
                                exact h
            · replace h := zifn c122 h
              refine aw_aload_n X 0 dX7_copy_68 rfl ?_
              refine aw_iload_n X 2 dX7_copy_69 rfl ?_
              have n139 := h.1
              replace h := h.2
              refine aw_pV X (as := [vI a2]) mf_X7_isRow zw_1149 (p_X7_isRow n139) zs_87 rfl rfl (by decide) (Nat.le_of_ble_eq_true rfl) dX7_copy_70 ?_
              refine aw_if_eq X 98 dX7_copy_73 rfl (fun c140 => ?_) (fun c140 => ?_)
              · replace h := zifp c140 h
                refine aw_aload_n X 0 dX7_copy_98 rfl ?_
                refine aw_getR X zf_RX7_7 rfl zs_87 zr_87_0 dX7_copy_99 ?_
                refine aw_iload_n X 1 dX7_copy_102 rfl ?_
                refine aw_ialdj (j := a1.toNatClampNeg) X zs_88 (zin_within c1 (by decide)) rfl dX7_copy_103 ?_
                refine aw_if_lt X 116 dX7_copy_104 rfl (fun c141 => ?_) (fun c141 => ?_)
                · replace h := zifp c141 h
                  refine aw_aload_n X 0 dX7_copy_116 rfl ?_
                  refine aw_bipush (v := (-3)) X dX7_copy_117 (by decide) ?_
                  refine aw_callV X (as := [vI (-3)]) mf_X7_no zw_1137 h zs_87 rfl rfl (by decide) (Nat.le_of_ble_eq_true rfl) dX7_copy_119 (fun v I142 L142 h => ?_)
                  obtain ⟨r142, rfl, h⟩ := h
                  exact aw_iret X E rfl dX7_copy_122 h
                · replace h := zifn c141 h
                  refine aw_aload_n X 0 dX7_copy_107 rfl ?_
                  refine aw_getR X zf_RX7_7 rfl zs_87 zr_87_0 dX7_copy_108 ?_
                  refine aw_iload_n X 2 dX7_copy_111 rfl ?_
                  refine aw_ialdj (j := a2.toNatClampNeg) X zs_88 (zin_within c3 (by decide)) rfl dX7_copy_112 ?_
                  refine aw_if_gen X 123 dX7_copy_113 rfl (fun c143 => ?_) (fun c143 => ?_)
                  · replace h := zifp c143 h
                    refine aw_aload_n X 0 dX7_copy_116 rfl ?_
                    refine aw_bipush (v := (-3)) X dX7_copy_117 (by decide) ?_
                    refine aw_callV X (as := [vI (-3)]) mf_X7_no zw_1137 h zs_87 rfl rfl (by decide) (Nat.le_of_ble_eq_true rfl) dX7_copy_119 (fun v I144 L144 h => ?_)
                    obtain ⟨r144, rfl, h⟩ := h
                    exact aw_iret X E rfl dX7_copy_122 h
                  · replace h := zifn c143 h
                    refine aw_iload X 5 dX7_copy_123 rfl ?_
                    refine aw_if_gen X 135 dX7_copy_125 rfl (fun c145 => ?_) (fun c145 => ?_)
                    · replace h := zifp c145 h
                      refine aw_aload_n X 0 dX7_copy_128 rfl ?_
                      refine aw_bipush (v := (-4)) X dX7_copy_129 (by decide) ?_
                      refine aw_callV X (as := [vI (-4)]) mf_X7_no zw_1137 h zs_87 rfl rfl (by decide) (Nat.le_of_ble_eq_true rfl) dX7_copy_131 (fun v I146 L146 h => ?_)
                      obtain ⟨r146, rfl, h⟩ := h
                      exact aw_iret X E rfl dX7_copy_134 h
                    · replace h := zifn c145 h
                      refine aw_iload_n X 3 dX7_copy_135 rfl ?_
                      refine aw_if_lt X 179 dX7_copy_136 rfl (fun c147 => ?_) (fun c147 => ?_)
                      · replace h := zifp c147 h
                        refine aw_aload_n X 0 dX7_copy_179 rfl ?_
                        refine aw_bipush (v := (-5)) X dX7_copy_180 (by decide) ?_
                        refine aw_callV X (as := [vI (-5)]) mf_X7_no zw_1137 h zs_87 rfl rfl (by decide) (Nat.le_of_ble_eq_true rfl) dX7_copy_182 (fun v I148 L148 h => ?_)
                        obtain ⟨r148, rfl, h⟩ := h
                        exact aw_iret X E rfl dX7_copy_185 h
                      · replace h := zifn c147 h
                        refine aw_iload X 4 dX7_copy_139 rfl ?_
                        refine aw_if_lt X 179 dX7_copy_141 rfl (fun c149 => ?_) (fun c149 => ?_)
                        · replace h := zifp c149 h
                          refine aw_aload_n X 0 dX7_copy_179 rfl ?_
                          refine aw_bipush (v := (-5)) X dX7_copy_180 (by decide) ?_
                          refine aw_callV X (as := [vI (-5)]) mf_X7_no zw_1137 h zs_87 rfl rfl (by decide) (Nat.le_of_ble_eq_true rfl) dX7_copy_182 (fun v I150 L150 h => ?_)
                          obtain ⟨r150, rfl, h⟩ := h
                          exact aw_iret X E rfl dX7_copy_185 h
                        · replace h := zifn c149 h
                          refine aw_iload_n X 3 dX7_copy_144 rfl ?_
                          refine aw_i2l X dX7_copy_145 ?_
                          refine aw_iload X 5 dX7_copy_146 rfl ?_
                          refine aw_i2l X dX7_copy_148 ?_
                          refine aw_ladd X dX7_copy_149 ?_
                          refine aw_aload_n X 0 dX7_copy_150 rfl ?_
                          refine aw_getR X zf_RX7_13 rfl zs_87 zr_87_1 dX7_copy_151 ?_
                          refine aw_iload_n X 1 dX7_copy_154 rfl ?_
                          refine aw_ialdj (j := a1.toNatClampNeg) X zs_89 (zin_within c1 (by decide)) rfl dX7_copy_155 ?_
                          refine aw_i2l X dX7_copy_156 ?_
                          refine aw_lcmp X dX7_copy_157 ?_
                          refine aw_if_gt X 179 dX7_copy_158 rfl (fun c151 => ?_) (fun c151 => ?_)
                          · replace h := zifp c151 h
                            refine aw_aload_n X 0 dX7_copy_179 rfl ?_
                            refine aw_bipush (v := (-5)) X dX7_copy_180 (by decide) ?_
                            refine aw_callV X (as := [vI (-5)]) mf_X7_no zw_1137 h zs_87 rfl rfl (by decide) (Nat.le_of_ble_eq_true rfl) dX7_copy_182 (fun v I152 L152 h => ?_)
                            obtain ⟨r152, rfl, h⟩ := h
                            exact aw_iret X E rfl dX7_copy_185 h
                          · replace h := zifn c151 h
                            refine aw_iload X 4 dX7_copy_161 rfl ?_
                            refine aw_i2l X dX7_copy_163 ?_
                            refine aw_iload X 5 dX7_copy_164 rfl ?_
                            refine aw_i2l X dX7_copy_166 ?_
                            refine aw_ladd X dX7_copy_167 ?_
                            refine aw_aload_n X 0 dX7_copy_168 rfl ?_
                            refine aw_getR X zf_RX7_13 rfl zs_87 zr_87_1 dX7_copy_169 ?_
                            refine aw_iload_n X 2 dX7_copy_172 rfl ?_
                            refine aw_ialdj (j := a2.toNatClampNeg) X zs_89 (zin_within c3 (by decide)) rfl dX7_copy_173 ?_
                            refine aw_i2l X dX7_copy_174 ?_
                            refine aw_lcmp X dX7_copy_175 ?_
                            refine aw_if_len X 186 dX7_copy_176 rfl (fun c153 => ?_) (fun c153 => ?_)
                            · replace h := zifp c153 h
                              refine aw_aload_n X 0 dX7_copy_179 rfl ?_
                              refine aw_bipush (v := (-5)) X dX7_copy_180 (by decide) ?_
                              refine aw_callV X (as := [vI (-5)]) mf_X7_no zw_1137 h zs_87 rfl rfl (by decide) (Nat.le_of_ble_eq_true rfl) dX7_copy_182 (fun v I154 L154 h => ?_)
                              obtain ⟨r154, rfl, h⟩ := h
                              exact aw_iret X E rfl dX7_copy_185 h
                            · replace h := zifn c153 h
                              refine aw_iload_n X 1 dX7_copy_186 rfl ?_
                              refine aw_iload_n X 2 dX7_copy_187 rfl ?_
                              refine aw_icmp_ne X 248 dX7_copy_188 rfl (fun c155 => ?_) (fun c155 => ?_)
                              · replace h := zifn c155 h
                                refine aw_iconst (v := 0) X dX7_copy_248 (by decide) ?_
                                refine aw_istore X dX7_copy_249 (by decide) rfl ?_
                                refine aw_perm (ks9 := [(0, vR 87), (1, vI a1), (2, vI a2), (3, vI a3), (4, vI a4), (5, vI a5), (6, vI 0)]) [1, 2, 3, 4, 5, 6, 0] rfl ?_
                                exact h
                              · replace h := zifp c155 h
                                refine aw_iload_n X 3 dX7_copy_191 rfl ?_
                                refine aw_iload X 4 dX7_copy_192 rfl ?_
                                refine aw_icmp_gen X 248 dX7_copy_194 rfl (fun c156 => ?_) (fun c156 => ?_)
                                · replace h := zifp c156 h
                                  refine aw_iload X 5 dX7_copy_197 rfl ?_
                                  refine aw_iconst (v := 1) X dX7_copy_199 (by decide) ?_
                                  refine aw_isub X dX7_copy_200 ?_
                                  refine aw_istore X dX7_copy_201 (by decide) rfl ?_
                                  refine aw_perm (ks9 := [(0, vR 87), (1, vI a1), (2, vI a2), (3, vI a3), (4, vI a4), (6, vI (a5 - 1))]) [1, 2, 3, 4, 5, 0] rfl ?_
                                  exact h
                                · replace h := zifn c156 h
                                  refine aw_iconst (v := 0) X dX7_copy_248 (by decide) ?_
                                  refine aw_istore X dX7_copy_249 (by decide) rfl ?_
                                  refine aw_perm (ks9 := [(0, vR 87), (1, vI a1), (2, vI a2), (3, vI a3), (4, vI a4), (5, vI a5), (6, vI 0)]) [1, 2, 3, 4, 5, 6, 0] rfl ?_
                                  exact h
              · replace h := zifn c140 h
                refine aw_aload_n X 0 dX7_copy_76 rfl ?_
                refine aw_getR X zf_RX7_7 rfl zs_87 zr_87_0 dX7_copy_77 ?_
                refine aw_iload_n X 1 dX7_copy_80 rfl ?_
                refine aw_ialdj (j := a1.toNatClampNeg) X zs_88 (zin_within c1 (by decide)) rfl dX7_copy_81 ?_
                refine aw_aload_n X 0 dX7_copy_82 rfl ?_
                refine aw_getR X zf_RX7_7 rfl zs_87 zr_87_0 dX7_copy_83 ?_
                refine aw_iload_n X 2 dX7_copy_86 rfl ?_
                refine aw_ialdj (j := a2.toNatClampNeg) X zs_88 (zin_within c3 (by decide)) rfl dX7_copy_87 ?_
                refine aw_icmp_eq X 98 dX7_copy_88 rfl (fun c157 => ?_) (fun c157 => ?_)
                · replace h := zifp c157 h
                  refine aw_aload_n X 0 dX7_copy_98 rfl ?_
                  refine aw_getR X zf_RX7_7 rfl zs_87 zr_87_0 dX7_copy_99 ?_
                  refine aw_iload_n X 1 dX7_copy_102 rfl ?_
                  refine aw_ialdj (j := a1.toNatClampNeg) X zs_88 (zin_within c1 (by decide)) rfl dX7_copy_103 ?_
                  refine aw_if_lt X 116 dX7_copy_104 rfl (fun c158 => ?_) (fun c158 => ?_)
                  · replace h := zifp c158 h
                    refine aw_aload_n X 0 dX7_copy_116 rfl ?_
                    refine aw_bipush (v := (-3)) X dX7_copy_117 (by decide) ?_
                    refine aw_callV X (as := [vI (-3)]) mf_X7_no zw_1137 h zs_87 rfl rfl (by decide) (Nat.le_of_ble_eq_true rfl) dX7_copy_119 (fun v I159 L159 h => ?_)
                    obtain ⟨r159, rfl, h⟩ := h
                    exact aw_iret X E rfl dX7_copy_122 h
                  · replace h := zifn c158 h
                    refine aw_aload_n X 0 dX7_copy_107 rfl ?_
                    refine aw_getR X zf_RX7_7 rfl zs_87 zr_87_0 dX7_copy_108 ?_
                    refine aw_iload_n X 2 dX7_copy_111 rfl ?_
                    refine aw_ialdj (j := a2.toNatClampNeg) X zs_88 (zin_within c3 (by decide)) rfl dX7_copy_112 ?_
                    refine aw_if_gen X 123 dX7_copy_113 rfl (fun c160 => ?_) (fun c160 => ?_)
                    · replace h := zifp c160 h
                      refine aw_aload_n X 0 dX7_copy_116 rfl ?_
                      refine aw_bipush (v := (-3)) X dX7_copy_117 (by decide) ?_
                      refine aw_callV X (as := [vI (-3)]) mf_X7_no zw_1137 h zs_87 rfl rfl (by decide) (Nat.le_of_ble_eq_true rfl) dX7_copy_119 (fun v I161 L161 h => ?_)
                      obtain ⟨r161, rfl, h⟩ := h
                      exact aw_iret X E rfl dX7_copy_122 h
                    · replace h := zifn c160 h
                      refine aw_iload X 5 dX7_copy_123 rfl ?_
                      refine aw_if_gen X 135 dX7_copy_125 rfl (fun c162 => ?_) (fun c162 => ?_)
                      · replace h := zifp c162 h
                        refine aw_aload_n X 0 dX7_copy_128 rfl ?_
                        refine aw_bipush (v := (-4)) X dX7_copy_129 (by decide) ?_
                        refine aw_callV X (as := [vI (-4)]) mf_X7_no zw_1137 h zs_87 rfl rfl (by decide) (Nat.le_of_ble_eq_true rfl) dX7_copy_131 (fun v I163 L163 h => ?_)
                        obtain ⟨r163, rfl, h⟩ := h
                        exact aw_iret X E rfl dX7_copy_134 h
                      · replace h := zifn c162 h
                        refine aw_iload_n X 3 dX7_copy_135 rfl ?_
                        refine aw_if_lt X 179 dX7_copy_136 rfl (fun c164 => ?_) (fun c164 => ?_)
                        · replace h := zifp c164 h
                          refine aw_aload_n X 0 dX7_copy_179 rfl ?_
                          refine aw_bipush (v := (-5)) X dX7_copy_180 (by decide) ?_
                          refine aw_callV X (as := [vI (-5)]) mf_X7_no zw_1137 h zs_87 rfl rfl (by decide) (Nat.le_of_ble_eq_true rfl) dX7_copy_182 (fun v I165 L165 h => ?_)
                          obtain ⟨r165, rfl, h⟩ := h
                          exact aw_iret X E rfl dX7_copy_185 h
                        · replace h := zifn c164 h
                          refine aw_iload X 4 dX7_copy_139 rfl ?_
                          refine aw_if_lt X 179 dX7_copy_141 rfl (fun c166 => ?_) (fun c166 => ?_)
                          · replace h := zifp c166 h
                            refine aw_aload_n X 0 dX7_copy_179 rfl ?_
                            refine aw_bipush (v := (-5)) X dX7_copy_180 (by decide) ?_
                            refine aw_callV X (as := [vI (-5)]) mf_X7_no zw_1137 h zs_87 rfl rfl (by decide) (Nat.le_of_ble_eq_true rfl) dX7_copy_182 (fun v I167 L167 h => ?_)
                            obtain ⟨r167, rfl, h⟩ := h
                            exact aw_iret X E rfl dX7_copy_185 h
                          · replace h := zifn c166 h
                            refine aw_iload_n X 3 dX7_copy_144 rfl ?_
                            refine aw_i2l X dX7_copy_145 ?_
                            refine aw_iload X 5 dX7_copy_146 rfl ?_
                            refine aw_i2l X dX7_copy_148 ?_
                            refine aw_ladd X dX7_copy_149 ?_
                            refine aw_aload_n X 0 dX7_copy_150 rfl ?_
                            refine aw_getR X zf_RX7_13 rfl zs_87 zr_87_1 dX7_copy_151 ?_
                            refine aw_iload_n X 1 dX7_copy_154 rfl ?_
                            refine aw_ialdj (j := a1.toNatClampNeg) X zs_89 (zin_within c1 (by decide)) rfl dX7_copy_155 ?_
                            refine aw_i2l X dX7_copy_156 ?_
                            refine aw_lcmp X dX7_copy_157 ?_
                            refine aw_if_gt X 179 dX7_copy_158 rfl (fun c168 => ?_) (fun c168 => ?_)
                            · replace h := zifp c168 h
                              refine aw_aload_n X 0 dX7_copy_179 rfl ?_
                              refine aw_bipush (v := (-5)) X dX7_copy_180 (by decide) ?_
                              refine aw_callV X (as := [vI (-5)]) mf_X7_no zw_1137 h zs_87 rfl rfl (by decide) (Nat.le_of_ble_eq_true rfl) dX7_copy_182 (fun v I169 L169 h => ?_)
                              obtain ⟨r169, rfl, h⟩ := h
                              exact aw_iret X E rfl dX7_copy_185 h
                            · replace h := zifn c168 h
                              refine aw_iload X 4 dX7_copy_161 rfl ?_
                              refine aw_i2l X dX7_copy_163 ?_
                              refine aw_iload X 5 dX7_copy_164 rfl ?_
                              refine aw_i2l X dX7_copy_166 ?_
                              refine aw_ladd X dX7_copy_167 ?_
                              refine aw_aload_n X 0 dX7_copy_168 rfl ?_
                              refine aw_getR X zf_RX7_13 rfl zs_87 zr_87_1 dX7_copy_169 ?_
                              refine aw_iload_n X 2 dX7_copy_172 rfl ?_
                              refine aw_ialdj (j := a2.toNatClampNeg) X zs_89 (zin_within c3 (by decide)) rfl dX7_copy_173 ?_
                              refine aw_i2l X dX7_copy_174 ?_
                              refine aw_lcmp X dX7_copy_175 ?_
                              refine aw_if_len X 186 dX7_copy_176 rfl (fun c170 => ?_) (fun c170 => ?_)
                              · replace h := zifp c170 h
                                refine aw_aload_n X 0 dX7_copy_179 rfl ?_
                                refine aw_bipush (v := (-5)) X dX7_copy_180 (by decide) ?_
                                refine aw_callV X (as := [vI (-5)]) mf_X7_no zw_1137 h zs_87 rfl rfl (by decide) (Nat.le_of_ble_eq_true rfl) dX7_copy_182 (fun v I171 L171 h => ?_)
                                obtain ⟨r171, rfl, h⟩ := h
                                exact aw_iret X E rfl dX7_copy_185 h
                              · replace h := zifn c170 h
                                refine aw_iload_n X 1 dX7_copy_186 rfl ?_
                                refine aw_iload_n X 2 dX7_copy_187 rfl ?_
                                refine aw_icmp_ne X 248 dX7_copy_188 rfl (fun c172 => ?_) (fun c172 => ?_)
                                · replace h := zifn c172 h
                                  refine aw_iconst (v := 0) X dX7_copy_248 (by decide) ?_
                                  refine aw_istore X dX7_copy_249 (by decide) rfl ?_
                                  refine aw_perm (ks9 := [(0, vR 87), (1, vI a1), (2, vI a2), (3, vI a3), (4, vI a4), (5, vI a5), (6, vI 0)]) [1, 2, 3, 4, 5, 6, 0] rfl ?_
                                  exact h
                                · replace h := zifp c172 h
                                  refine aw_iload_n X 3 dX7_copy_191 rfl ?_
                                  refine aw_iload X 4 dX7_copy_192 rfl ?_
                                  refine aw_icmp_gen X 248 dX7_copy_194 rfl (fun c173 => ?_) (fun c173 => ?_)
                                  · replace h := zifp c173 h
                                    refine aw_iload X 5 dX7_copy_197 rfl ?_
                                    refine aw_iconst (v := 1) X dX7_copy_199 (by decide) ?_
                                    refine aw_isub X dX7_copy_200 ?_
                                    refine aw_istore X dX7_copy_201 (by decide) rfl ?_
                                    refine aw_perm (ks9 := [(0, vR 87), (1, vI a1), (2, vI a2), (3, vI a3), (4, vI a4), (6, vI (a5 - 1))]) [1, 2, 3, 4, 5, 0] rfl ?_
                                    exact h
                                  · replace h := zifn c173 h
                                    refine aw_iconst (v := 0) X dX7_copy_248 (by decide) ?_
                                    refine aw_istore X dX7_copy_249 (by decide) rfl ?_
                                    refine aw_perm (ks9 := [(0, vR 87), (1, vI a1), (2, vI a2), (3, vI a3), (4, vI a4), (5, vI a5), (6, vI 0)]) [1, 2, 3, 4, 5, 6, 0] rfl ?_
                                    exact h
                · replace h := zifn c157 h
                  refine aw_aload_n X 0 dX7_copy_91 rfl ?_
                  refine aw_bipush (v := (-2)) X dX7_copy_92 (by decide) ?_
                  refine aw_callV X (as := [vI (-2)]) mf_X7_no zw_1137 h zs_87 rfl rfl (by decide) (Nat.le_of_ble_eq_true rfl) dX7_copy_94 (fun v I174 L174 h => ?_)
                  obtain ⟨r174, rfl, h⟩ := h
                  exact aw_iret X E rfl dX7_copy_97 h
          · replace h := zifn c120 h
            refine aw_aload_n X 0 dX7_copy_52 rfl ?_
            refine aw_iload_n X 2 dX7_copy_53 rfl ?_
            have n175 := h.1
            replace h := h.2
            refine aw_pV X (as := [vI a2]) mf_X7_isRow zw_1149 (p_X7_isRow n175) zs_87 rfl rfl (by decide) (Nat.le_of_ble_eq_true rfl) dX7_copy_54 ?_
            refine aw_if_eq X 91 dX7_copy_57 rfl (fun c176 => ?_) (fun c176 => ?_)
            · replace h := zifp c176 h
              refine aw_aload_n X 0 dX7_copy_91 rfl ?_
              refine aw_bipush (v := (-2)) X dX7_copy_92 (by decide) ?_
              refine aw_callV X (as := [vI (-2)]) mf_X7_no zw_1137 h zs_87 rfl rfl (by decide) (Nat.le_of_ble_eq_true rfl) dX7_copy_94 (fun v I177 L177 h => ?_)
              obtain ⟨r177, rfl, h⟩ := h
              exact aw_iret X E rfl dX7_copy_97 h
            · replace h := zifn c176 h
              refine aw_aload_n X 0 dX7_copy_60 rfl ?_
              refine aw_iload_n X 1 dX7_copy_61 rfl ?_
              have n178 := h.1
              replace h := h.2
              refine aw_pV X (as := [vI a1]) mf_X7_isRow zw_1149 (p_X7_isRow n178) zs_87 rfl rfl (by decide) (Nat.le_of_ble_eq_true rfl) dX7_copy_62 ?_
              refine aw_if_eq X 98 dX7_copy_65 rfl (fun c179 => ?_) (fun c179 => ?_)
              · replace h := zifp c179 h
                refine aw_aload_n X 0 dX7_copy_98 rfl ?_
                refine aw_getR X zf_RX7_7 rfl zs_87 zr_87_0 dX7_copy_99 ?_
                refine aw_iload_n X 1 dX7_copy_102 rfl ?_
                refine aw_ialdj (j := a1.toNatClampNeg) X zs_88 (zin_within c1 (by decide)) rfl dX7_copy_103 ?_
                refine aw_if_lt X 116 dX7_copy_104 rfl (fun c180 => ?_) (fun c180 => ?_)
                · replace h := zifp c180 h
                  refine aw_aload_n X 0 dX7_copy_116 rfl ?_
                  refine aw_bipush (v := (-3)) X dX7_copy_117 (by decide) ?_
                  refine aw_callV X (as := [vI (-3)]) mf_X7_no zw_1137 h zs_87 rfl rfl (by decide) (Nat.le_of_ble_eq_true rfl) dX7_copy_119 (fun v I181 L181 h => ?_)
                  obtain ⟨r181, rfl, h⟩ := h
                  exact aw_iret X E rfl dX7_copy_122 h
                · replace h := zifn c180 h
                  refine aw_aload_n X 0 dX7_copy_107 rfl ?_
                  refine aw_getR X zf_RX7_7 rfl zs_87 zr_87_0 dX7_copy_108 ?_
                  refine aw_iload_n X 2 dX7_copy_111 rfl ?_
                  refine aw_ialdj (j := a2.toNatClampNeg) X zs_88 (zin_within c3 (by decide)) rfl dX7_copy_112 ?_
                  refine aw_if_gen X 123 dX7_copy_113 rfl (fun c182 => ?_) (fun c182 => ?_)
                  · replace h := zifp c182 h
                    refine aw_aload_n X 0 dX7_copy_116 rfl ?_
                    refine aw_bipush (v := (-3)) X dX7_copy_117 (by decide) ?_
                    refine aw_callV X (as := [vI (-3)]) mf_X7_no zw_1137 h zs_87 rfl rfl (by decide) (Nat.le_of_ble_eq_true rfl) dX7_copy_119 (fun v I183 L183 h => ?_)
                    obtain ⟨r183, rfl, h⟩ := h
                    exact aw_iret X E rfl dX7_copy_122 h
                  · replace h := zifn c182 h
                    refine aw_iload X 5 dX7_copy_123 rfl ?_
                    refine aw_if_gen X 135 dX7_copy_125 rfl (fun c184 => ?_) (fun c184 => ?_)
                    · replace h := zifp c184 h
                      refine aw_aload_n X 0 dX7_copy_128 rfl ?_
                      refine aw_bipush (v := (-4)) X dX7_copy_129 (by decide) ?_
                      refine aw_callV X (as := [vI (-4)]) mf_X7_no zw_1137 h zs_87 rfl rfl (by decide) (Nat.le_of_ble_eq_true rfl) dX7_copy_131 (fun v I185 L185 h => ?_)
                      obtain ⟨r185, rfl, h⟩ := h
                      exact aw_iret X E rfl dX7_copy_134 h
                    · replace h := zifn c184 h
                      refine aw_iload_n X 3 dX7_copy_135 rfl ?_
                      refine aw_if_lt X 179 dX7_copy_136 rfl (fun c186 => ?_) (fun c186 => ?_)
                      · replace h := zifp c186 h
                        refine aw_aload_n X 0 dX7_copy_179 rfl ?_
                        refine aw_bipush (v := (-5)) X dX7_copy_180 (by decide) ?_
                        refine aw_callV X (as := [vI (-5)]) mf_X7_no zw_1137 h zs_87 rfl rfl (by decide) (Nat.le_of_ble_eq_true rfl) dX7_copy_182 (fun v I187 L187 h => ?_)
                        obtain ⟨r187, rfl, h⟩ := h
                        exact aw_iret X E rfl dX7_copy_185 h
                      · replace h := zifn c186 h
                        refine aw_iload X 4 dX7_copy_139 rfl ?_
                        refine aw_if_lt X 179 dX7_copy_141 rfl (fun c188 => ?_) (fun c188 => ?_)
                        · replace h := zifp c188 h
                          refine aw_aload_n X 0 dX7_copy_179 rfl ?_
                          refine aw_bipush (v := (-5)) X dX7_copy_180 (by decide) ?_
                          refine aw_callV X (as := [vI (-5)]) mf_X7_no zw_1137 h zs_87 rfl rfl (by decide) (Nat.le_of_ble_eq_true rfl) dX7_copy_182 (fun v I189 L189 h => ?_)
                          obtain ⟨r189, rfl, h⟩ := h
                          exact aw_iret X E rfl dX7_copy_185 h
                        · replace h := zifn c188 h
                          refine aw_iload_n X 3 dX7_copy_144 rfl ?_
                          refine aw_i2l X dX7_copy_145 ?_
                          refine aw_iload X 5 dX7_copy_146 rfl ?_
                          refine aw_i2l X dX7_copy_148 ?_
                          refine aw_ladd X dX7_copy_149 ?_
                          refine aw_aload_n X 0 dX7_copy_150 rfl ?_
                          refine aw_getR X zf_RX7_13 rfl zs_87 zr_87_1 dX7_copy_151 ?_
                          refine aw_iload_n X 1 dX7_copy_154 rfl ?_
                          refine aw_ialdj (j := a1.toNatClampNeg) X zs_89 (zin_within c1 (by decide)) rfl dX7_copy_155 ?_
                          refine aw_i2l X dX7_copy_156 ?_
                          refine aw_lcmp X dX7_copy_157 ?_
                          refine aw_if_gt X 179 dX7_copy_158 rfl (fun c190 => ?_) (fun c190 => ?_)
                          · replace h := zifp c190 h
                            refine aw_aload_n X 0 dX7_copy_179 rfl ?_
                            refine aw_bipush (v := (-5)) X dX7_copy_180 (by decide) ?_
                            refine aw_callV X (as := [vI (-5)]) mf_X7_no zw_1137 h zs_87 rfl rfl (by decide) (Nat.le_of_ble_eq_true rfl) dX7_copy_182 (fun v I191 L191 h => ?_)
                            obtain ⟨r191, rfl, h⟩ := h
                            exact aw_iret X E rfl dX7_copy_185 h
                          · replace h := zifn c190 h
                            refine aw_iload X 4 dX7_copy_161 rfl ?_
                            refine aw_i2l X dX7_copy_163 ?_
                            refine aw_iload X 5 dX7_copy_164 rfl ?_
                            refine aw_i2l X dX7_copy_166 ?_
                            refine aw_ladd X dX7_copy_167 ?_
                            refine aw_aload_n X 0 dX7_copy_168 rfl ?_
                            refine aw_getR X zf_RX7_13 rfl zs_87 zr_87_1 dX7_copy_169 ?_
                            refine aw_iload_n X 2 dX7_copy_172 rfl ?_
                            refine aw_ialdj (j := a2.toNatClampNeg) X zs_89 (zin_within c3 (by decide)) rfl dX7_copy_173 ?_
                            refine aw_i2l X dX7_copy_174 ?_
                            refine aw_lcmp X dX7_copy_175 ?_
                            refine aw_if_len X 186 dX7_copy_176 rfl (fun c192 => ?_) (fun c192 => ?_)
                            · replace h := zifp c192 h
                              refine aw_aload_n X 0 dX7_copy_179 rfl ?_
                              refine aw_bipush (v := (-5)) X dX7_copy_180 (by decide) ?_
                              refine aw_callV X (as := [vI (-5)]) mf_X7_no zw_1137 h zs_87 rfl rfl (by decide) (Nat.le_of_ble_eq_true rfl) dX7_copy_182 (fun v I193 L193 h => ?_)
                              obtain ⟨r193, rfl, h⟩ := h
                              exact aw_iret X E rfl dX7_copy_185 h
                            · replace h := zifn c192 h
                              refine aw_iload_n X 1 dX7_copy_186 rfl ?_
                              refine aw_iload_n X 2 dX7_copy_187 rfl ?_
                              refine aw_icmp_ne X 248 dX7_copy_188 rfl (fun c194 => ?_) (fun c194 => ?_)
                              · replace h := zifn c194 h
                                refine aw_iconst (v := 0) X dX7_copy_248 (by decide) ?_
                                refine aw_istore X dX7_copy_249 (by decide) rfl ?_
                                refine aw_perm (ks9 := [(0, vR 87), (1, vI a1), (2, vI a2), (3, vI a3), (4, vI a4), (5, vI a5), (6, vI 0)]) [1, 2, 3, 4, 5, 6, 0] rfl ?_
                                exact h
                              · replace h := zifp c194 h
                                refine aw_iload_n X 3 dX7_copy_191 rfl ?_
                                refine aw_iload X 4 dX7_copy_192 rfl ?_
                                refine aw_icmp_gen X 248 dX7_copy_194 rfl (fun c195 => ?_) (fun c195 => ?_)
                                · replace h := zifp c195 h
                                  refine aw_iload X 5 dX7_copy_197 rfl ?_
                                  refine aw_iconst (v := 1) X dX7_copy_199 (by decide) ?_
                                  refine aw_isub X dX7_copy_200 ?_
                                  refine aw_istore X dX7_copy_201 (by decide) rfl ?_
                                  refine aw_perm (ks9 := [(0, vR 87), (1, vI a1), (2, vI a2), (3, vI a3), (4, vI a4), (6, vI (a5 - 1))]) [1, 2, 3, 4, 5, 0] rfl ?_
                                  exact h
                                · replace h := zifn c195 h
                                  refine aw_iconst (v := 0) X dX7_copy_248 (by decide) ?_
                                  refine aw_istore X dX7_copy_249 (by decide) rfl ?_
                                  refine aw_perm (ks9 := [(0, vR 87), (1, vI a1), (2, vI a2), (3, vI a3), (4, vI a4), (5, vI a5), (6, vI 0)]) [1, 2, 3, 4, 5, 6, 0] rfl ?_
                                  exact h
              · replace h := zifn c179 h
                refine aw_aload_n X 0 dX7_copy_68 rfl ?_
                refine aw_iload_n X 2 dX7_copy_69 rfl ?_
                have n196 := h.1
                replace h := h.2
                refine aw_pV X (as := [vI a2]) mf_X7_isRow zw_1149 (p_X7_isRow n196) zs_87 rfl rfl (by decide) (Nat.le_of_ble_eq_true rfl) dX7_copy_70 ?_
                refine aw_if_eq X 98 dX7_copy_73 rfl (fun c197 => ?_) (fun c197 => ?_)
                · replace h := zifp c197 h
                  refine aw_aload_n X 0 dX7_copy_98 rfl ?_
                  refine aw_getR X zf_RX7_7 rfl zs_87 zr_87_0 dX7_copy_99 ?_
                  refine aw_iload_n X 1 dX7_copy_102 rfl ?_
                  refine aw_ialdj (j := a1.toNatClampNeg) X zs_88 (zin_within c1 (by decide)) rfl dX7_copy_103 ?_
                  refine aw_if_lt X 116 dX7_copy_104 rfl (fun c198 => ?_) (fun c198 => ?_)
                  · replace h := zifp c198 h
                    refine aw_aload_n X 0 dX7_copy_116 rfl ?_
                    refine aw_bipush (v := (-3)) X dX7_copy_117 (by decide) ?_
                    refine aw_callV X (as := [vI (-3)]) mf_X7_no zw_1137 h zs_87 rfl rfl (by decide) (Nat.le_of_ble_eq_true rfl) dX7_copy_119 (fun v I199 L199 h => ?_)
                    obtain ⟨r199, rfl, h⟩ := h
                    exact aw_iret X E rfl dX7_copy_122 h
                  · replace h := zifn c198 h
                    refine aw_aload_n X 0 dX7_copy_107 rfl ?_
                    refine aw_getR X zf_RX7_7 rfl zs_87 zr_87_0 dX7_copy_108 ?_
                    refine aw_iload_n X 2 dX7_copy_111 rfl ?_
                    refine aw_ialdj (j := a2.toNatClampNeg) X zs_88 (zin_within c3 (by decide)) rfl dX7_copy_112 ?_
                    refine aw_if_gen X 123 dX7_copy_113 rfl (fun c200 => ?_) (fun c200 => ?_)
                    · replace h := zifp c200 h
                      refine aw_aload_n X 0 dX7_copy_116 rfl ?_
                      refine aw_bipush (v := (-3)) X dX7_copy_117 (by decide) ?_
                      refine aw_callV X (as := [vI (-3)]) mf_X7_no zw_1137 h zs_87 rfl rfl (by decide) (Nat.le_of_ble_eq_true rfl) dX7_copy_119 (fun v I201 L201 h => ?_)
                      obtain ⟨r201, rfl, h⟩ := h
                      exact aw_iret X E rfl dX7_copy_122 h
                    · replace h := zifn c200 h
                      refine aw_iload X 5 dX7_copy_123 rfl ?_
                      refine aw_if_gen X 135 dX7_copy_125 rfl (fun c202 => ?_) (fun c202 => ?_)
                      · replace h := zifp c202 h
                        refine aw_aload_n X 0 dX7_copy_128 rfl ?_
                        refine aw_bipush (v := (-4)) X dX7_copy_129 (by decide) ?_
                        refine aw_callV X (as := [vI (-4)]) mf_X7_no zw_1137 h zs_87 rfl rfl (by decide) (Nat.le_of_ble_eq_true rfl) dX7_copy_131 (fun v I203 L203 h => ?_)
                        obtain ⟨r203, rfl, h⟩ := h
                        exact aw_iret X E rfl dX7_copy_134 h
                      · replace h := zifn c202 h
                        refine aw_iload_n X 3 dX7_copy_135 rfl ?_
                        refine aw_if_lt X 179 dX7_copy_136 rfl (fun c204 => ?_) (fun c204 => ?_)
                        · replace h := zifp c204 h
                          refine aw_aload_n X 0 dX7_copy_179 rfl ?_
                          refine aw_bipush (v := (-5)) X dX7_copy_180 (by decide) ?_
                          refine aw_callV X (as := [vI (-5)]) mf_X7_no zw_1137 h zs_87 rfl rfl (by decide) (Nat.le_of_ble_eq_true rfl) dX7_copy_182 (fun v I205 L205 h => ?_)
                          obtain ⟨r205, rfl, h⟩ := h
                          exact aw_iret X E rfl dX7_copy_185 h
                        · replace h := zifn c204 h
                          refine aw_iload X 4 dX7_copy_139 rfl ?_
                          refine aw_if_lt X 179 dX7_copy_141 rfl (fun c206 => ?_) (fun c206 => ?_)
                          · replace h := zifp c206 h
                            refine aw_aload_n X 0 dX7_copy_179 rfl ?_
                            refine aw_bipush (v := (-5)) X dX7_copy_180 (by decide) ?_
                            refine aw_callV X (as := [vI (-5)]) mf_X7_no zw_1137 h zs_87 rfl rfl (by decide) (Nat.le_of_ble_eq_true rfl) dX7_copy_182 (fun v I207 L207 h => ?_)
                            obtain ⟨r207, rfl, h⟩ := h
                            exact aw_iret X E rfl dX7_copy_185 h
                          · replace h := zifn c206 h
                            refine aw_iload_n X 3 dX7_copy_144 rfl ?_
                            refine aw_i2l X dX7_copy_145 ?_
                            refine aw_iload X 5 dX7_copy_146 rfl ?_
                            refine aw_i2l X dX7_copy_148 ?_
                            refine aw_ladd X dX7_copy_149 ?_
                            refine aw_aload_n X 0 dX7_copy_150 rfl ?_
                            refine aw_getR X zf_RX7_13 rfl zs_87 zr_87_1 dX7_copy_151 ?_
                            refine aw_iload_n X 1 dX7_copy_154 rfl ?_
                            refine aw_ialdj (j := a1.toNatClampNeg) X zs_89 (zin_within c1 (by decide)) rfl dX7_copy_155 ?_
                            refine aw_i2l X dX7_copy_156 ?_
                            refine aw_lcmp X dX7_copy_157 ?_
                            refine aw_if_gt X 179 dX7_copy_158 rfl (fun c208 => ?_) (fun c208 => ?_)
                            · replace h := zifp c208 h
                              refine aw_aload_n X 0 dX7_copy_179 rfl ?_
                              refine aw_bipush (v := (-5)) X dX7_copy_180 (by decide) ?_
                              refine aw_callV X (as := [vI (-5)]) mf_X7_no zw_1137 h zs_87 rfl rfl (by decide) (Nat.le_of_ble_eq_true rfl) dX7_copy_182 (fun v I209 L209 h => ?_)
                              obtain ⟨r209, rfl, h⟩ := h
                              exact aw_iret X E rfl dX7_copy_185 h
                            · replace h := zifn c208 h
                              refine aw_iload X 4 dX7_copy_161 rfl ?_
                              refine aw_i2l X dX7_copy_163 ?_
                              refine aw_iload X 5 dX7_copy_164 rfl ?_
                              refine aw_i2l X dX7_copy_166 ?_
                              refine aw_ladd X dX7_copy_167 ?_
                              refine aw_aload_n X 0 dX7_copy_168 rfl ?_
                              refine aw_getR X zf_RX7_13 rfl zs_87 zr_87_1 dX7_copy_169 ?_
                              refine aw_iload_n X 2 dX7_copy_172 rfl ?_
                              refine aw_ialdj (j := a2.toNatClampNeg) X zs_89 (zin_within c3 (by decide)) rfl dX7_copy_173 ?_
                              refine aw_i2l X dX7_copy_174 ?_
                              refine aw_lcmp X dX7_copy_175 ?_
                              refine aw_if_len X 186 dX7_copy_176 rfl (fun c210 => ?_) (fun c210 => ?_)
                              · replace h := zifp c210 h
                                refine aw_aload_n X 0 dX7_copy_179 rfl ?_
                                refine aw_bipush (v := (-5)) X dX7_copy_180 (by decide) ?_
                                refine aw_callV X (as := [vI (-5)]) mf_X7_no zw_1137 h zs_87 rfl rfl (by decide) (Nat.le_of_ble_eq_true rfl) dX7_copy_182 (fun v I211 L211 h => ?_)
                                obtain ⟨r211, rfl, h⟩ := h
                                exact aw_iret X E rfl dX7_copy_185 h
                              · replace h := zifn c210 h
                                refine aw_iload_n X 1 dX7_copy_186 rfl ?_
                                refine aw_iload_n X 2 dX7_copy_187 rfl ?_
                                refine aw_icmp_ne X 248 dX7_copy_188 rfl (fun c212 => ?_) (fun c212 => ?_)
                                · replace h := zifn c212 h
                                  refine aw_iconst (v := 0) X dX7_copy_248 (by decide) ?_
                                  refine aw_istore X dX7_copy_249 (by decide) rfl ?_
                                  refine aw_perm (ks9 := [(0, vR 87), (1, vI a1), (2, vI a2), (3, vI a3), (4, vI a4), (5, vI a5), (6, vI 0)]) [1, 2, 3, 4, 5, 6, 0] rfl ?_
                                  exact h
                                · replace h := zifp c212 h
                                  refine aw_iload_n X 3 dX7_copy_191 rfl ?_
                                  refine aw_iload X 4 dX7_copy_192 rfl ?_
                                  refine aw_icmp_gen X 248 dX7_copy_194 rfl (fun c213 => ?_) (fun c213 => ?_)
                                  · replace h := zifp c213 h
                                    refine aw_iload X 5 dX7_copy_197 rfl ?_
                                    refine aw_iconst (v := 1) X dX7_copy_199 (by decide) ?_
                                    refine aw_isub X dX7_copy_200 ?_
                                    refine aw_istore X dX7_copy_201 (by decide) rfl ?_
                                    refine aw_perm (ks9 := [(0, vR 87), (1, vI a1), (2, vI a2), (3, vI a3), (4, vI a4), (6, vI (a5 - 1))]) [1, 2, 3, 4, 5, 0] rfl ?_
                                    exact h
                                  · replace h := zifn c213 h
                                    refine aw_iconst (v := 0) X dX7_copy_248 (by decide) ?_
                                    refine aw_istore X dX7_copy_249 (by decide) rfl ?_
                                    refine aw_perm (ks9 := [(0, vR 87), (1, vI a1), (2, vI a2), (3, vI a3), (4, vI a4), (5, vI a5), (6, vI 0)]) [1, 2, 3, 4, 5, 6, 0] rfl ?_
                                    exact h
                · replace h := zifn c197 h
                  refine aw_aload_n X 0 dX7_copy_76 rfl ?_
                  refine aw_getR X zf_RX7_7 rfl zs_87 zr_87_0 dX7_copy_77 ?_
                  refine aw_iload_n X 1 dX7_copy_80 rfl ?_
                  refine aw_ialdj (j := a1.toNatClampNeg) X zs_88 (zin_within c1 (by decide)) rfl dX7_copy_81 ?_
                  refine aw_aload_n X 0 dX7_copy_82 rfl ?_
                  refine aw_getR X zf_RX7_7 rfl zs_87 zr_87_0 dX7_copy_83 ?_
                  refine aw_iload_n X 2 dX7_copy_86 rfl ?_
                  refine aw_ialdj (j := a2.toNatClampNeg) X zs_88 (zin_within c3 (by decide)) rfl dX7_copy_87 ?_
                  refine aw_icmp_eq X 98 dX7_copy_88 rfl (fun c214 => ?_) (fun c214 => ?_)
                  · replace h := zifp c214 h
                    refine aw_aload_n X 0 dX7_copy_98 rfl ?_
                    refine aw_getR X zf_RX7_7 rfl zs_87 zr_87_0 dX7_copy_99 ?_
                    refine aw_iload_n X 1 dX7_copy_102 rfl ?_
                    refine aw_ialdj (j := a1.toNatClampNeg) X zs_88 (zin_within c1 (by decide)) rfl dX7_copy_103 ?_
                    refine aw_if_lt X 116 dX7_copy_104 rfl (fun c215 => ?_) (fun c215 => ?_)
                    · replace h := zifp c215 h
                      refine aw_aload_n X 0 dX7_copy_116 rfl ?_
                      refine aw_bipush (v := (-3)) X dX7_copy_117 (by decide) ?_
                      refine aw_callV X (as := [vI (-3)]) mf_X7_no zw_1137 h zs_87 rfl rfl (by decide) (Nat.le_of_ble_eq_true rfl) dX7_copy_119 (fun v I216 L216 h => ?_)
                      obtain ⟨r216, rfl, h⟩ := h
                      exact aw_iret X E rfl dX7_copy_122 h
                    · replace h := zifn c215 h
                      refine aw_aload_n X 0 dX7_copy_107 rfl ?_
                      refine aw_getR X zf_RX7_7 rfl zs_87 zr_87_0 dX7_copy_108 ?_
                      refine aw_iload_n X 2 dX7_copy_111 rfl ?_
                      refine aw_ialdj (j := a2.toNatClampNeg) X zs_88 (zin_within c3 (by decide)) rfl dX7_copy_112 ?_
                      refine aw_if_gen X 123 dX7_copy_113 rfl (fun c217 => ?_) (fun c217 => ?_)
                      · replace h := zifp c217 h
                        refine aw_aload_n X 0 dX7_copy_116 rfl ?_
                        refine aw_bipush (v := (-3)) X dX7_copy_117 (by decide) ?_
                        refine aw_callV X (as := [vI (-3)]) mf_X7_no zw_1137 h zs_87 rfl rfl (by decide) (Nat.le_of_ble_eq_true rfl) dX7_copy_119 (fun v I218 L218 h => ?_)
                        obtain ⟨r218, rfl, h⟩ := h
                        exact aw_iret X E rfl dX7_copy_122 h
                      · replace h := zifn c217 h
                        refine aw_iload X 5 dX7_copy_123 rfl ?_
                        refine aw_if_gen X 135 dX7_copy_125 rfl (fun c219 => ?_) (fun c219 => ?_)
                        · replace h := zifp c219 h
                          refine aw_aload_n X 0 dX7_copy_128 rfl ?_
                          refine aw_bipush (v := (-4)) X dX7_copy_129 (by decide) ?_
                          refine aw_callV X (as := [vI (-4)]) mf_X7_no zw_1137 h zs_87 rfl rfl (by decide) (Nat.le_of_ble_eq_true rfl) dX7_copy_131 (fun v I220 L220 h => ?_)
                          obtain ⟨r220, rfl, h⟩ := h
                          exact aw_iret X E rfl dX7_copy_134 h
                        · replace h := zifn c219 h
                          refine aw_iload_n X 3 dX7_copy_135 rfl ?_
                          refine aw_if_lt X 179 dX7_copy_136 rfl (fun c221 => ?_) (fun c221 => ?_)
                          · replace h := zifp c221 h
                            refine aw_aload_n X 0 dX7_copy_179 rfl ?_
                            refine aw_bipush (v := (-5)) X dX7_copy_180 (by decide) ?_
                            refine aw_callV X (as := [vI (-5)]) mf_X7_no zw_1137 h zs_87 rfl rfl (by decide) (Nat.le_of_ble_eq_true rfl) dX7_copy_182 (fun v I222 L222 h => ?_)
                            obtain ⟨r222, rfl, h⟩ := h
                            exact aw_iret X E rfl dX7_copy_185 h
                          · replace h := zifn c221 h
                            refine aw_iload X 4 dX7_copy_139 rfl ?_
                            refine aw_if_lt X 179 dX7_copy_141 rfl (fun c223 => ?_) (fun c223 => ?_)
                            · replace h := zifp c223 h
                              refine aw_aload_n X 0 dX7_copy_179 rfl ?_
                              refine aw_bipush (v := (-5)) X dX7_copy_180 (by decide) ?_
                              refine aw_callV X (as := [vI (-5)]) mf_X7_no zw_1137 h zs_87 rfl rfl (by decide) (Nat.le_of_ble_eq_true rfl) dX7_copy_182 (fun v I224 L224 h => ?_)
                              obtain ⟨r224, rfl, h⟩ := h
                              exact aw_iret X E rfl dX7_copy_185 h
                            · replace h := zifn c223 h
                              refine aw_iload_n X 3 dX7_copy_144 rfl ?_
                              refine aw_i2l X dX7_copy_145 ?_
                              refine aw_iload X 5 dX7_copy_146 rfl ?_
                              refine aw_i2l X dX7_copy_148 ?_
                              refine aw_ladd X dX7_copy_149 ?_
                              refine aw_aload_n X 0 dX7_copy_150 rfl ?_
                              refine aw_getR X zf_RX7_13 rfl zs_87 zr_87_1 dX7_copy_151 ?_
                              refine aw_iload_n X 1 dX7_copy_154 rfl ?_
                              refine aw_ialdj (j := a1.toNatClampNeg) X zs_89 (zin_within c1 (by decide)) rfl dX7_copy_155 ?_
                              refine aw_i2l X dX7_copy_156 ?_
                              refine aw_lcmp X dX7_copy_157 ?_
                              refine aw_if_gt X 179 dX7_copy_158 rfl (fun c225 => ?_) (fun c225 => ?_)
                              · replace h := zifp c225 h
                                refine aw_aload_n X 0 dX7_copy_179 rfl ?_
                                refine aw_bipush (v := (-5)) X dX7_copy_180 (by decide) ?_
                                refine aw_callV X (as := [vI (-5)]) mf_X7_no zw_1137 h zs_87 rfl rfl (by decide) (Nat.le_of_ble_eq_true rfl) dX7_copy_182 (fun v I226 L226 h => ?_)
                                obtain ⟨r226, rfl, h⟩ := h
                                exact aw_iret X E rfl dX7_copy_185 h
                              · replace h := zifn c225 h
                                refine aw_iload X 4 dX7_copy_161 rfl ?_
                                refine aw_i2l X dX7_copy_163 ?_
                                refine aw_iload X 5 dX7_copy_164 rfl ?_
                                refine aw_i2l X dX7_copy_166 ?_
                                refine aw_ladd X dX7_copy_167 ?_
                                refine aw_aload_n X 0 dX7_copy_168 rfl ?_
                                refine aw_getR X zf_RX7_13 rfl zs_87 zr_87_1 dX7_copy_169 ?_
                                refine aw_iload_n X 2 dX7_copy_172 rfl ?_
                                refine aw_ialdj (j := a2.toNatClampNeg) X zs_89 (zin_within c3 (by decide)) rfl dX7_copy_173 ?_
                                refine aw_i2l X dX7_copy_174 ?_
                                refine aw_lcmp X dX7_copy_175 ?_
                                refine aw_if_len X 186 dX7_copy_176 rfl (fun c227 => ?_) (fun c227 => ?_)
                                · replace h := zifp c227 h
                                  refine aw_aload_n X 0 dX7_copy_179 rfl ?_
                                  refine aw_bipush (v := (-5)) X dX7_copy_180 (by decide) ?_
                                  refine aw_callV X (as := [vI (-5)]) mf_X7_no zw_1137 h zs_87 rfl rfl (by decide) (Nat.le_of_ble_eq_true rfl) dX7_copy_182 (fun v I228 L228 h => ?_)
                                  obtain ⟨r228, rfl, h⟩ := h
                                  exact aw_iret X E rfl dX7_copy_185 h
                                · replace h := zifn c227 h
                                  refine aw_iload_n X 1 dX7_copy_186 rfl ?_
                                  refine aw_iload_n X 2 dX7_copy_187 rfl ?_
                                  refine aw_icmp_ne X 248 dX7_copy_188 rfl (fun c229 => ?_) (fun c229 => ?_)
                                  · replace h := zifn c229 h
                                    refine aw_iconst (v := 0) X dX7_copy_248 (by decide) ?_
                                    refine aw_istore X dX7_copy_249 (by decide) rfl ?_
                                    refine aw_perm (ks9 := [(0, vR 87), (1, vI a1), (2, vI a2), (3, vI a3), (4, vI a4), (5, vI a5), (6, vI 0)]) [1, 2, 3, 4, 5, 6, 0] rfl ?_
                                    exact h
                                  · replace h := zifp c229 h
                                    refine aw_iload_n X 3 dX7_copy_191 rfl ?_
                                    refine aw_iload X 4 dX7_copy_192 rfl ?_
                                    refine aw_icmp_gen X 248 dX7_copy_194 rfl (fun c230 => ?_) (fun c230 => ?_)
                                    · replace h := zifp c230 h
                                      refine aw_iload X 5 dX7_copy_197 rfl ?_
                                      refine aw_iconst (v := 1) X dX7_copy_199 (by decide) ?_
                                      refine aw_isub X dX7_copy_200 ?_
                                      refine aw_istore X dX7_copy_201 (by decide) rfl ?_
                                      refine aw_perm (ks9 := [(0, vR 87), (1, vI a1), (2, vI a2), (3, vI a3), (4, vI a4), (6, vI (a5 - 1))]) [1, 2, 3, 4, 5, 0] rfl ?_
                                      exact h
                                    · replace h := zifn c230 h
                                      refine aw_iconst (v := 0) X dX7_copy_248 (by decide) ?_
                                      refine aw_istore X dX7_copy_249 (by decide) rfl ?_
                                      refine aw_perm (ks9 := [(0, vR 87), (1, vI a1), (2, vI a2), (3, vI a3), (4, vI a4), (5, vI a5), (6, vI 0)]) [1, 2, 3, 4, 5, 6, 0] rfl ?_
                                      exact h
                  · replace h := zifn c214 h
                    refine aw_aload_n X 0 dX7_copy_91 rfl ?_
                    refine aw_bipush (v := (-2)) X dX7_copy_92 (by decide) ?_
                    refine aw_callV X (as := [vI (-2)]) mf_X7_no zw_1137 h zs_87 rfl rfl (by decide) (Nat.le_of_ble_eq_true rfl) dX7_copy_94 (fun v I231 L231 h => ?_)
                    obtain ⟨r231, rfl, h⟩ := h
                    exact aw_iret X E rfl dX7_copy_97 h
    · replace h := zifp c3 h
      refine aw_aload_n X 0 dX7_copy_20 rfl ?_
      refine aw_iconst (v := (-1)) X dX7_copy_21 (by decide) ?_
      refine aw_callV X (as := [vI (-1)]) mf_X7_no zw_1137 h zs_87 rfl rfl (by decide) (Nat.le_of_ble_eq_true rfl) dX7_copy_22 (fun v I232 L232 h => ?_)
      obtain ⟨r232, rfl, h⟩ := h
      exact aw_iret X E rfl dX7_copy_25 h
set_option maxRecDepth 100000 in
theorem s_X7_could_64 {k : zK} {g : zG} {Q : Option zv → zI → zL → Prop} {I : zI} {L : zL} {y1 : Int32} {y2 : Int32} {y3 : Int32} {y4 : Int32} {y5 : Int32}  (X : zX k g cX7_could RX7 6 (some .int) 4) (E : zE k g Q) (h : if y5 < (I 87 3) then (Call (kl k) g 3 M_X7_shapeAt [vR 87, vI y1, vI y5, vI y3] I L (zi fun r2 I2 L2 => AW k g 6 I2 L2 64 [(0, vR 87), (1, vI y1), (2, vI y2), (3, vI y3), (4, vI (if r2 = y2 then y4 ||| (jshl 1 y5) else y4)), (5, vI (y5 + 1))] [])) else (Q (some (vI y4)) I L)) : AW k g 6 I L 64 [(0, vR 87), (1, vI y1), (2, vI y2), (3, vI y3), (4, vI y4), (5, vI y5)] [] := by
  refine aw_iload X 5 dX7_could_64 rfl ?_
  refine aw_aload_n X 0 dX7_could_66 rfl ?_
  refine aw_getI X zf_RX7_91 rfl zs_87 dX7_could_67 ?_
  refine aw_icmp_gen X 100 dX7_could_70 rfl (fun c1 => ?_) (fun c1 => ?_)
  · replace h := zifp c1 h
    refine aw_aload_n X 0 dX7_could_73 rfl ?_
    refine aw_iload_n X 1 dX7_could_74 rfl ?_
    refine aw_iload X 5 dX7_could_75 rfl ?_
    refine aw_iload_n X 3 dX7_could_77 rfl ?_
    refine aw_callV X (as := [vI y1, vI y5, vI y3]) mf_X7_shapeAt zw_1286 h zs_87 rfl rfl (by decide) (Nat.le_of_ble_eq_true rfl) dX7_could_78 (fun v I2 L2 h => ?_)
    obtain ⟨r2, rfl, h⟩ := h
    refine aw_iload_n X 2 dX7_could_81 rfl ?_
    have hJ4 : ∀ (w1 : Int32), w1 = (if r2 = y2 then y4 ||| (jshl 1 y5) else y4) → AW k g 6 I2 L2 94 [(0, vR 87), (1, vI y1), (2, vI y2), (3, vI y3), (4, vI w1), (5, vI y5)] [] := by
      intro w1 q1
      subst q1
      refine aw_iinc (v := y5 + 1) X 5 dX7_could_94 rfl rfl (by decide) rfl ?_
      refine aw_goto X 64 dX7_could_97 rfl ?_
      refine aw_perm (ks9 := [(0, vR 87), (1, vI y1), (2, vI y2), (3, vI y3), (4, vI (if r2 = y2 then y4 ||| (jshl 1 y5) else y4)), (5, vI (y5 + 1))]) [1, 2, 3, 4, 5, 0] rfl ?_
      exact h
    refine aw_icmp_ne X 94 dX7_could_82 rfl (fun c3 => ?_) (fun c3 => ?_)
    · refine aw_perm (ks9 := [(0, vR 87), (1, vI y1), (2, vI y2), (3, vI y3), (4, vI y4), (5, vI y5)]) [0, 1, 2, 3, 4, 5] rfl ?_
      exact hJ4 _ (if_neg c3).symm
    · refine aw_iload X 4 dX7_could_85 rfl ?_
      refine aw_iconst (v := 1) X dX7_could_87 (by decide) ?_
      refine aw_iload X 5 dX7_could_88 rfl ?_
      refine aw_ishl X dX7_could_90 ?_
      refine aw_ior X dX7_could_91 ?_
      refine aw_istore X dX7_could_92 (by decide) rfl ?_
      refine aw_perm (ks9 := [(0, vR 87), (1, vI y1), (2, vI y2), (3, vI y3), (4, vI (y4 ||| (jshl 1 y5))), (5, vI y5)]) [1, 2, 3, 4, 0, 5] rfl ?_
      exact hJ4 _ (if_pos c3).symm
  · replace h := zifn c1 h
    refine aw_iload X 4 dX7_could_100 rfl ?_
    exact aw_iret X E rfl dX7_could_102 h
set_option maxRecDepth 100000 in
theorem m_X7_could {l : Launch} {g : zG} {Q : Option zv → zI → zL → Prop} {I : zI} {L : zL} {a1 : Int32} {a2 : Int32} {a3 : Int32}  (h : ∀ k : zK, kl k = l → zX k g cX7_could RX7 6 (some .int) 4 → zE k g Q → (if (v_X7_isPane I a1) = 0 then (Call (kl k) g 1 M_X7_no [vR 87, vI (-1)] I L (zi fun r9 I9 L9 => Q (some (vI r9)) I9 L9)) else (if (v_X7_within a2 0 65535) = 0 then (Call (kl k) g 1 M_X7_no [vR 87, vI (-6)] I L (zi fun r3 I3 L3 => Q (some (vI r3)) I3 L3)) else (if (v_X7_within a3 0 24) = 0 then (Call (kl k) g 1 M_X7_no [vR 87, vI (-6)] I L (zi fun r8 I8 L8 => Q (some (vI r8)) I8 L8)) else (Call (kl k) g 3 M_X7_shapeAt [vR 87, vI a1, vI (-1), vI a3] I L (zi fun r5 I5 L5 => AW k g 6 I5 L5 64 [(0, vR 87), (1, vI a1), (2, vI a2), (3, vI a3), (4, vI (if r5 = a2 then 256 else (0 : Int32))), (5, vI 0)] [])))))) : Call l g 4 M_X7_could [vR 87, vI a1, vI a2, vI a3] I L Q := by
  refine aw_entry (by decide) (Nat.le_of_ble_eq_true rfl) (fun k hk (X : zX k g cX7_could RX7 6 (some .int) 4) E => ?_)
  show AW k g 6 I L 0 [(0, vR 87), (1, vI a1), (2, vI a2), (3, vI a3)] []
  replace h := h k hk X E
  subst hk
  refine aw_aload_n X 0 dX7_could_0 rfl ?_
  refine aw_iload_n X 1 dX7_could_1 rfl ?_
  refine aw_pV X (as := [vI a1]) mf_X7_isPane zw_1165 (p_X7_isPane) zs_87 rfl rfl (by decide) (Nat.le_of_ble_eq_true rfl) dX7_could_2 ?_
  refine aw_if_ne X 14 dX7_could_5 rfl (fun c1 => ?_) (fun c1 => ?_)
  · replace h := zifn c1 h
    refine aw_iload_n X 2 dX7_could_14 rfl ?_
    refine aw_iconst (v := 0) X dX7_could_15 (by decide) ?_
    refine aw_ldc X zw_1196 dX7_could_16 ?_
    refine aw_pS X (as := [vI a2, vI 0, vI 65535]) mf_X7_within zw_1134 (p_X7_within) rfl rfl (by decide) (Nat.le_of_ble_eq_true rfl) dX7_could_18 ?_
    refine aw_if_eq X 34 dX7_could_21 rfl (fun c2 => ?_) (fun c2 => ?_)
    · replace h := zifp c2 h
      refine aw_aload_n X 0 dX7_could_34 rfl ?_
      refine aw_bipush (v := (-6)) X dX7_could_35 (by decide) ?_
      refine aw_callV X (as := [vI (-6)]) mf_X7_no zw_1137 h zs_87 rfl rfl (by decide) (Nat.le_of_ble_eq_true rfl) dX7_could_37 (fun v I3 L3 h => ?_)
      obtain ⟨r3, rfl, h⟩ := h
      exact aw_iret X E rfl dX7_could_40 h
    · replace h := zifn c2 h
      refine aw_iload_n X 3 dX7_could_24 rfl ?_
      refine aw_iconst (v := 0) X dX7_could_25 (by decide) ?_
      refine aw_bipush (v := 24) X dX7_could_26 (by decide) ?_
      refine aw_pS X (as := [vI a3, vI 0, vI 24]) mf_X7_within zw_1134 (p_X7_within) rfl rfl (by decide) (Nat.le_of_ble_eq_true rfl) dX7_could_28 ?_
      refine aw_if_ne X 41 dX7_could_31 rfl (fun c4 => ?_) (fun c4 => ?_)
      · replace h := zifn c4 h
        refine aw_aload_n X 0 dX7_could_41 rfl ?_
        refine aw_iload_n X 1 dX7_could_42 rfl ?_
        refine aw_iconst (v := (-1)) X dX7_could_43 (by decide) ?_
        refine aw_iload_n X 3 dX7_could_44 rfl ?_
        refine aw_callV X (as := [vI a1, vI (-1), vI a3]) mf_X7_shapeAt zw_1286 h zs_87 rfl rfl (by decide) (Nat.le_of_ble_eq_true rfl) dX7_could_45 (fun v I5 L5 h => ?_)
        obtain ⟨r5, rfl, h⟩ := h
        refine aw_iload_n X 2 dX7_could_48 rfl ?_
        have hJ7 : ∀ (w1 : Int32), w1 = (if r5 = a2 then 256 else (0 : Int32)) → AW k g 6 I5 L5 59 [(0, vR 87), (1, vI a1), (2, vI a2), (3, vI a3)] [vI w1] := by
          intro w1 q1
          subst q1
          refine aw_istore X dX7_could_59 (by decide) rfl ?_
          refine aw_iconst (v := 0) X dX7_could_61 (by decide) ?_
          refine aw_istore X dX7_could_62 (by decide) rfl ?_
          refine aw_perm (ks9 := [(0, vR 87), (1, vI a1), (2, vI a2), (3, vI a3), (4, vI (if r5 = a2 then 256 else (0 : Int32))), (5, vI 0)]) [2, 3, 4, 5, 1, 0] rfl ?_
          exact h
        refine aw_icmp_ne X 58 dX7_could_49 rfl (fun c6 => ?_) (fun c6 => ?_)
        · refine aw_iconst (v := 0) X dX7_could_58 (by decide) ?_
          refine aw_perm (ks9 := [(0, vR 87), (1, vI a1), (2, vI a2), (3, vI a3)]) [0, 1, 2, 3] rfl ?_
          exact hJ7 _ (if_neg c6).symm
        · refine aw_sipush (v := 256) X dX7_could_52 (by decide) ?_
          refine aw_goto X 59 dX7_could_55 rfl ?_
          refine aw_perm (ks9 := [(0, vR 87), (1, vI a1), (2, vI a2), (3, vI a3)]) [0, 1, 2, 3] rfl ?_
          exact hJ7 _ (if_pos c6).symm
      · replace h := zifp c4 h
        refine aw_aload_n X 0 dX7_could_34 rfl ?_
        refine aw_bipush (v := (-6)) X dX7_could_35 (by decide) ?_
        refine aw_callV X (as := [vI (-6)]) mf_X7_no zw_1137 h zs_87 rfl rfl (by decide) (Nat.le_of_ble_eq_true rfl) dX7_could_37 (fun v I8 L8 h => ?_)
        obtain ⟨r8, rfl, h⟩ := h
        exact aw_iret X E rfl dX7_could_40 h
  · replace h := zifp c1 h
    refine aw_aload_n X 0 dX7_could_8 rfl ?_
    refine aw_iconst (v := (-1)) X dX7_could_9 (by decide) ?_
    refine aw_callV X (as := [vI (-1)]) mf_X7_no zw_1137 h zs_87 rfl rfl (by decide) (Nat.le_of_ble_eq_true rfl) dX7_could_10 (fun v I9 L9 h => ?_)
    obtain ⟨r9, rfl, h⟩ := h
    exact aw_iret X E rfl dX7_could_13 h
set_option maxRecDepth 100000 in
theorem m_X7_draw {l : Launch} {g : zG} {Q : Option zv → zI → zL → Prop} {I : zI} {L : zL} {a1 : Int32}  (h : (∀ I1 : zI, I1 = (zs I 87 17 (((I 87 17) * 1103515245) + 12345)) → ¬ a1 = 0 ∧ (Q (some (vI (jrem (jushr (I1 87 17) 16) a1))) I1 L))) : Call l g 1 M_X7_draw [vR 87, vI a1] I L Q := by
  refine aw_entry (by decide) (Nat.le_of_ble_eq_true rfl) (fun k hk (X : zX k g cX7_draw RX7 2 (some .int) 1) E => ?_)
  show AW k g 2 I L 0 [(0, vR 87), (1, vI a1)] []
  subst hk
  refine aw_aload_n X 0 dX7_draw_0 rfl ?_
  refine aw_aload_n X 0 dX7_draw_1 rfl ?_
  refine aw_getI X zf_RX7_78 rfl zs_87 dX7_draw_2 ?_
  refine aw_ldc X zw_1419 dX7_draw_5 ?_
  refine aw_imul X dX7_draw_7 ?_
  refine aw_sipush (v := 12345) X dX7_draw_8 (by decide) ?_
  refine aw_iadd X dX7_draw_11 ?_
  refine aw_putI X zf_RX7_78 rfl rfl rfl zs_87 dX7_draw_12 ?_
  refine aw_aload_n X 0 dX7_draw_15 rfl ?_
  refine aw_nameI (fun I1 e1 => ?_)
  replace h := h I1 e1
  refine aw_getI X zf_RX7_78 rfl zs_87 dX7_draw_16 ?_
  refine aw_bipush (v := 16) X dX7_draw_19 (by decide) ?_
  refine aw_iushr X dX7_draw_21 ?_
  refine aw_iload_n X 1 dX7_draw_22 rfl ?_
  have n2 := h.1
  replace h := h.2
  refine aw_irem X dX7_draw_23 n2 ?_
  exact aw_iret X E rfl dX7_draw_24 h
def v_X7_element (I : zI) (L : zL) (a1 : Int32) (a2 : Int32) : Int64 := if (v_X7_within a1 0 7) = 0 then 0 else if (v_X7_isRow I a1) = 0 then 0 else if (v_X7_within a2 0 ((I 89 a1.toNatClampNeg) - 1)) = 0 then 0 else (L 90 (((160 * a1) + a2).toNatClampNeg))
def k_X7_element (I : zI) (L : zL) (a1 : Int32) (a2 : Int32) : Prop := (¬ ((v_X7_within a1 0 7) = 0) → k_X7_isRow I a1 ∧ (¬ ((v_X7_isRow I a1) = 0) → (¬ ((v_X7_within a2 0 ((I 89 a1.toNatClampNeg) - 1)) = 0) → vp_in ((160 * a1) + a2) 1280)))
set_option maxRecDepth 100000 in
theorem p_X7_element {l : Launch} {g : zG} {I : zI} {L : zL} {a1 : Int32} {a2 : Int32}  (hk0 : k_X7_element I L a1 a2) : Call l g 2 M_X7_element [vR 87, vI a1, vI a2] I L (zp (some (vL (v_X7_element I L a1 a2))) I L) := by
  refine aw_entry (by decide) (Nat.le_of_ble_eq_true rfl) (fun k hk (X : zX k g cX7_element RX7 3 (some .long) 2) E => ?_)
  show AW k g 3 I L 0 [(0, vR 87), (1, vI a1), (2, vI a2)] []
  subst hk
  have n8 : (¬ ((v_X7_within a1 0 7) = 0) → k_X7_isRow I a1 ∧ (¬ ((v_X7_isRow I a1) = 0) → (¬ ((v_X7_within a2 0 ((I 89 a1.toNatClampNeg) - 1)) = 0) → vp_in ((160 * a1) + a2) 1280))) := hk0
  have hJ : ∀ w1 : Int64, w1 = (if (v_X7_within a1 0 7) = 0 then 0 else if (v_X7_isRow I a1) = 0 then 0 else if (v_X7_within a2 0 ((I 89 a1.toNatClampNeg) - 1)) = 0 then 0 else (L 90 (((160 * a1) + a2).toNatClampNeg))) → zp (some (vL (v_X7_element I L a1 a2))) I L (some (vL w1)) I L := fun w1 e1 => ⟨by rw [e1]; rfl, rfl, rfl⟩
  refine aw_iload_n X 1 dX7_element_0 rfl ?_
  refine aw_iconst (v := 0) X dX7_element_1 (by decide) ?_
  refine aw_bipush (v := 7) X dX7_element_2 (by decide) ?_
  refine aw_pS X (as := [vI a1, vI 0, vI 7]) mf_X7_within zw_1134 (p_X7_within) rfl rfl (by decide) (Nat.le_of_ble_eq_true rfl) dX7_element_4 ?_
  have hJ9 : ∀ (w1 : Int64), w1 = (if (v_X7_within a1 0 7) = 0 then 0 else if (v_X7_isRow I a1) = 0 then 0 else if (v_X7_within a2 0 ((I 89 a1.toNatClampNeg) - 1)) = 0 then 0 else (L 90 (((160 * a1) + a2).toNatClampNeg))) → AW k g 3 I L 50 [] [vL w1] := by
    intro w1 q1
    subst q1
    exact aw_lret X E rfl dX7_element_50 (hJ _ rfl)
  refine aw_if_eq X 49 dX7_element_7 rfl (fun c1 => ?_) (fun c1 => ?_)
  · refine aw_lconst (v := 0) X dX7_element_49 (by decide) ?_
    refine aw_perm (ks9 := []) [] rfl ?_
    exact hJ9 _ (if_pos c1).symm
  · obtain ⟨n2, n7⟩ := (n8 c1)
    refine aw_aload_n X 0 dX7_element_10 rfl ?_
    refine aw_iload_n X 1 dX7_element_11 rfl ?_
    refine aw_pV X (as := [vI a1]) mf_X7_isRow zw_1149 (p_X7_isRow n2) zs_87 rfl rfl (by decide) (Nat.le_of_ble_eq_true rfl) dX7_element_12 ?_
    refine aw_if_eq X 49 dX7_element_15 rfl (fun c3 => ?_) (fun c3 => ?_)
    · refine aw_lconst (v := 0) X dX7_element_49 (by decide) ?_
      refine aw_perm (ks9 := []) [] rfl ?_
      exact hJ9 _ ((if_pos c3).symm.trans (if_neg c1).symm)
    · have n6 := (n7 c3)
      refine aw_iload_n X 2 dX7_element_18 rfl ?_
      refine aw_iconst (v := 0) X dX7_element_19 (by decide) ?_
      refine aw_aload_n X 0 dX7_element_20 rfl ?_
      refine aw_getR X zf_RX7_13 rfl zs_87 zr_87_1 dX7_element_21 ?_
      refine aw_iload_n X 1 dX7_element_24 rfl ?_
      refine aw_ialdj (j := a1.toNatClampNeg) X zs_89 (zin_within c1 (by decide)) rfl dX7_element_25 ?_
      refine aw_iconst (v := 1) X dX7_element_26 (by decide) ?_
      refine aw_isub X dX7_element_27 ?_
      refine aw_pS X (as := [vI a2, vI 0, vI ((I 89 a1.toNatClampNeg) - 1)]) mf_X7_within zw_1134 (p_X7_within) rfl rfl (by decide) (Nat.le_of_ble_eq_true rfl) dX7_element_28 ?_
      refine aw_if_eq X 49 dX7_element_31 rfl (fun c4 => ?_) (fun c4 => ?_)
      · refine aw_lconst (v := 0) X dX7_element_49 (by decide) ?_
        refine aw_perm (ks9 := []) [] rfl ?_
        exact hJ9 _ (((if_pos c4).symm.trans (if_neg c3).symm).trans (if_neg c1).symm)
      · have n5 := (n6 c4)
        refine aw_aload_n X 0 dX7_element_34 rfl ?_
        refine aw_getR X zf_RX7_16 rfl zs_87 zr_87_2 dX7_element_35 ?_
        refine aw_sipush (v := 160) X dX7_element_38 (by decide) ?_
        refine aw_iload_n X 1 dX7_element_41 rfl ?_
        refine aw_imul X dX7_element_42 ?_
        refine aw_iload_n X 2 dX7_element_43 rfl ?_
        refine aw_iadd X dX7_element_44 ?_
        refine aw_laldj (j := ((160 * a1) + a2).toNatClampNeg) X zs_90 n5 rfl dX7_element_45 ?_
        refine aw_goto X 50 dX7_element_46 rfl ?_
        refine aw_perm (ks9 := []) [] rfl ?_
        exact hJ9 _ (((if_neg c4).symm.trans (if_neg c3).symm).trans (if_neg c1).symm)
def v_X7_fault (I : zI) : Int32 := I 87 18
set_option maxRecDepth 100000 in
theorem p_X7_fault {l : Launch} {g : zG} {I : zI} {L : zL}   : Call l g 1 M_X7_fault [vR 87] I L (zp (some (vI (v_X7_fault I))) I L) := by
  refine aw_entry (by decide) (Nat.le_of_ble_eq_true rfl) (fun k hk (X : zX k g cX7_fault RX7 1 (some .int) 1) E => ?_)
  show AW k g 1 I L 0 [(0, vR 87)] []
  subst hk
  have hJ : ∀ w1 : Int32, w1 = (I 87 18) → zp (some (vI (v_X7_fault I))) I L (some (vI w1)) I L := fun w1 e1 => ⟨by rw [e1]; rfl, rfl, rfl⟩
  refine aw_aload_n X 0 dX7_fault_0 rfl ?_
  refine aw_getI X zf_RX7_81 rfl zs_87 dX7_fault_1 ?_
  exact aw_iret X E rfl dX7_fault_4 (hJ _ rfl)
set_option maxRecDepth 100000 in
theorem m_X7_form {l : Launch} {g : zG} {Q : Option zv → zI → zL → Prop} {I : zI} {L : zL} {a1 : Int32}  (h : if (v_X7_within a1 0 65535) = 0 then (Call l g 1 M_X7_no [vR 87, vI (-6)] I L (zi fun r6 I6 L6 => Q (some (vI r6)) I6 L6)) else (if (I 87 3) = 8 then (Call l g 1 M_X7_no [vR 87, vI (-7)] I L (zi fun r5 I5 L5 => Q (some (vI r5)) I5 L5)) else (vp_in (I 87 3) 8 ∧ ((∀ I4 : zI, I4 = (zs I 91 ((I 87 3).toNatClampNeg) a1) → Q (some (vI (I4 87 3))) (zs I4 87 3 ((I4 87 3) + 1)) L))))) : Call l g 2 M_X7_form [vR 87, vI a1] I L Q := by
  refine aw_entry (by decide) (Nat.le_of_ble_eq_true rfl) (fun k hk (X : zX k g cX7_form RX7 2 (some .int) 2) E => ?_)
  show AW k g 2 I L 0 [(0, vR 87), (1, vI a1)] []
  subst hk
  refine aw_iload_n X 1 dX7_form_0 rfl ?_
  refine aw_iconst (v := 0) X dX7_form_1 (by decide) ?_
  refine aw_ldc X zw_1196 dX7_form_2 ?_
  refine aw_pS X (as := [vI a1, vI 0, vI 65535]) mf_X7_within zw_1134 (p_X7_within) rfl rfl (by decide) (Nat.le_of_ble_eq_true rfl) dX7_form_4 ?_
  refine aw_if_ne X 17 dX7_form_7 rfl (fun c1 => ?_) (fun c1 => ?_)
  · replace h := zifn c1 h
    refine aw_aload_n X 0 dX7_form_17 rfl ?_
    refine aw_getI X zf_RX7_91 rfl zs_87 dX7_form_18 ?_
    refine aw_bipush (v := 8) X dX7_form_21 (by decide) ?_
    refine aw_icmp_ne X 33 dX7_form_23 rfl (fun c2 => ?_) (fun c2 => ?_)
    · replace h := zifn c2 h
      refine aw_aload_n X 0 dX7_form_33 rfl ?_
      refine aw_getR X zf_RX7_20 rfl zs_87 zr_87_4 dX7_form_34 ?_
      refine aw_aload_n X 0 dX7_form_37 rfl ?_
      refine aw_getI X zf_RX7_91 rfl zs_87 dX7_form_38 ?_
      refine aw_iload_n X 1 dX7_form_41 rfl ?_
      have n3 := h.1
      replace h := h.2
      refine aw_iastj (j := (I 87 3).toNatClampNeg) X zs_91 n3 rfl dX7_form_42 ?_
      refine aw_aload_n X 0 dX7_form_43 rfl ?_
      refine aw_nameI (fun I4 e4 => ?_)
      replace h := h I4 e4
      refine aw_dup X dX7_form_44 rfl ?_
      refine aw_getI X zf_RX7_91 rfl zs_87 dX7_form_45 ?_
      refine aw_dup_x1 X dX7_form_48 rfl rfl ?_
      refine aw_iconst (v := 1) X dX7_form_49 (by decide) ?_
      refine aw_iadd X dX7_form_50 ?_
      refine aw_putI X zf_RX7_91 rfl rfl rfl zs_87 dX7_form_51 ?_
      exact aw_iret X E rfl dX7_form_54 h
    · replace h := zifp c2 h
      refine aw_aload_n X 0 dX7_form_26 rfl ?_
      refine aw_bipush (v := (-7)) X dX7_form_27 (by decide) ?_
      refine aw_callV X (as := [vI (-7)]) mf_X7_no zw_1137 h zs_87 rfl rfl (by decide) (Nat.le_of_ble_eq_true rfl) dX7_form_29 (fun v I5 L5 h => ?_)
      obtain ⟨r5, rfl, h⟩ := h
      exact aw_iret X E rfl dX7_form_32 h
  · replace h := zifp c1 h
    refine aw_aload_n X 0 dX7_form_10 rfl ?_
    refine aw_bipush (v := (-6)) X dX7_form_11 (by decide) ?_
    refine aw_callV X (as := [vI (-6)]) mf_X7_no zw_1137 h zs_87 rfl rfl (by decide) (Nat.le_of_ble_eq_true rfl) dX7_form_13 (fun v I6 L6 h => ?_)
    obtain ⟨r6, rfl, h⟩ := h
    exact aw_iret X E rfl dX7_form_16 h
set_option maxRecDepth 100000 in
theorem m_X7_formOf {l : Launch} {g : zG} {Q : Option zv → zI → zL → Prop} {I : zI} {L : zL} {a1 : Int32}  (h : if (v_X7_isLetter I a1) = 0 then (Call l g 1 M_X7_no [vR 87, vI (-1)] I L (zi fun r2 I2 L2 => Q (some (vI r2)) I2 L2)) else (vp_in a1 8 ∧ (Q (some (vI (I 91 a1.toNatClampNeg))) I L))) : Call l g 3 M_X7_formOf [vR 87, vI a1] I L Q := by
  refine aw_entry (by decide) (Nat.le_of_ble_eq_true rfl) (fun k hk (X : zX k g cX7_formOf RX7 2 (some .int) 3) E => ?_)
  show AW k g 2 I L 0 [(0, vR 87), (1, vI a1)] []
  subst hk
  refine aw_aload_n X 0 dX7_formOf_0 rfl ?_
  refine aw_iload_n X 1 dX7_formOf_1 rfl ?_
  refine aw_pV X (as := [vI a1]) mf_X7_isLetter zw_1201 (p_X7_isLetter) zs_87 rfl rfl (by decide) (Nat.le_of_ble_eq_true rfl) dX7_formOf_2 ?_
  refine aw_if_eq X 17 dX7_formOf_5 rfl (fun c1 => ?_) (fun c1 => ?_)
  · replace h := zifp c1 h
    refine aw_aload_n X 0 dX7_formOf_17 rfl ?_
    refine aw_iconst (v := (-1)) X dX7_formOf_18 (by decide) ?_
    refine aw_callV X (as := [vI (-1)]) mf_X7_no zw_1137 h zs_87 rfl rfl (by decide) (Nat.le_of_ble_eq_true rfl) dX7_formOf_19 (fun v I2 L2 h => ?_)
    obtain ⟨r2, rfl, h⟩ := h
    exact aw_iret X E rfl dX7_formOf_22 h
  · replace h := zifn c1 h
    refine aw_aload_n X 0 dX7_formOf_8 rfl ?_
    refine aw_getR X zf_RX7_20 rfl zs_87 zr_87_4 dX7_formOf_9 ?_
    refine aw_iload_n X 1 dX7_formOf_12 rfl ?_
    have n3 := h.1
    replace h := h.2
    refine aw_ialdj (j := a1.toNatClampNeg) X zs_91 n3 rfl dX7_formOf_13 ?_
    refine aw_goto X 22 dX7_formOf_14 rfl ?_
    exact aw_iret X E rfl dX7_formOf_22 h
set_option maxRecDepth 100000 in
theorem m_X7_hang {l : Launch} {g : zG} {Q : Option zv → zI → zL → Prop} {I : zI} {L : zL} {a1 : Int32} {a2 : Int32}  (h : if (v_X7_isPane I a1) = 0 then (Call l g 1 M_X7_no [vR 87, vI (-1)] I L (zi fun r2 I2 L2 => Q (some (vI r2)) I2 L2)) else (if a2 = (-1) then (vp_in a1 8 ∧ ((∀ I5 : zI, I5 = (zs I 95 a1.toNatClampNeg a2) → Q (some (vI (if a2 = (-1) then 0 else (1 : Int32)))) I5 L))) else (if (v_X7_isLetter I a2) = 0 then (Call l g 1 M_X7_no [vR 87, vI (-1)] I L (zi fun r13 I13 L13 => Q (some (vI r13)) I13 L13)) else (vp_in a1 8 ∧ ((∀ I10 : zI, I10 = (zs I 95 a1.toNatClampNeg a2) → Q (some (vI (if a2 = (-1) then 0 else (1 : Int32)))) I10 L)))))) : Call l g 3 M_X7_hang [vR 87, vI a1, vI a2] I L Q := by
  refine aw_entry (by decide) (Nat.le_of_ble_eq_true rfl) (fun k hk (X : zX k g cX7_hang RX7 3 (some .int) 3) E => ?_)
  show AW k g 3 I L 0 [(0, vR 87), (1, vI a1), (2, vI a2)] []
  subst hk
  refine aw_aload_n X 0 dX7_hang_0 rfl ?_
  refine aw_iload_n X 1 dX7_hang_1 rfl ?_
  refine aw_pV X (as := [vI a1]) mf_X7_isPane zw_1165 (p_X7_isPane) zs_87 rfl rfl (by decide) (Nat.le_of_ble_eq_true rfl) dX7_hang_2 ?_
  refine aw_if_eq X 21 dX7_hang_5 rfl (fun c1 => ?_) (fun c1 => ?_)
  · replace h := zifp c1 h
    refine aw_aload_n X 0 dX7_hang_21 rfl ?_
    refine aw_iconst (v := (-1)) X dX7_hang_22 (by decide) ?_
    refine aw_callV X (as := [vI (-1)]) mf_X7_no zw_1137 h zs_87 rfl rfl (by decide) (Nat.le_of_ble_eq_true rfl) dX7_hang_23 (fun v I2 L2 h => ?_)
    obtain ⟨r2, rfl, h⟩ := h
    exact aw_iret X E rfl dX7_hang_26 h
  · replace h := zifn c1 h
    refine aw_iload_n X 2 dX7_hang_8 rfl ?_
    refine aw_iconst (v := (-1)) X dX7_hang_9 (by decide) ?_
    refine aw_icmp_eq X 27 dX7_hang_10 rfl (fun c3 => ?_) (fun c3 => ?_)
    · replace h := zifp c3 h
      refine aw_aload_n X 0 dX7_hang_27 rfl ?_
      refine aw_getR X zf_RX7_32 rfl zs_87 zr_87_9 dX7_hang_28 ?_
      refine aw_iload_n X 1 dX7_hang_31 rfl ?_
      refine aw_iload_n X 2 dX7_hang_32 rfl ?_
      have n4 := h.1
      replace h := h.2
      refine aw_iastj (j := a1.toNatClampNeg) X zs_95 n4 rfl dX7_hang_33 ?_
      refine aw_iload_n X 2 dX7_hang_34 rfl ?_
      refine aw_iconst (v := (-1)) X dX7_hang_35 (by decide) ?_
      refine aw_nameI (fun I5 e5 => ?_)
      replace h := h I5 e5
      have hJ7 : ∀ (w1 : Int32), w1 = (if a2 = (-1) then 0 else (1 : Int32)) → AW k g 3 I5 L 44 [] [vI w1] := by
        intro w1 q1
        subst q1
        exact aw_iret X E rfl dX7_hang_44 h
      refine aw_icmp_ne X 43 dX7_hang_36 rfl (fun c6 => ?_) (fun c6 => ?_)
      · refine aw_iconst (v := 1) X dX7_hang_43 (by decide) ?_
        refine aw_perm (ks9 := []) [] rfl ?_
        exact hJ7 _ (if_neg c6).symm
      · refine aw_iconst (v := 0) X dX7_hang_39 (by decide) ?_
        refine aw_goto X 44 dX7_hang_40 rfl ?_
        refine aw_perm (ks9 := []) [] rfl ?_
        exact hJ7 _ (if_pos c6).symm
    · replace h := zifn c3 h
      refine aw_aload_n X 0 dX7_hang_13 rfl ?_
      refine aw_iload_n X 2 dX7_hang_14 rfl ?_
      refine aw_pV X (as := [vI a2]) mf_X7_isLetter zw_1201 (p_X7_isLetter) zs_87 rfl rfl (by decide) (Nat.le_of_ble_eq_true rfl) dX7_hang_15 ?_
      refine aw_if_ne X 27 dX7_hang_18 rfl (fun c8 => ?_) (fun c8 => ?_)
      · replace h := zifn c8 h
        refine aw_aload_n X 0 dX7_hang_27 rfl ?_
        refine aw_getR X zf_RX7_32 rfl zs_87 zr_87_9 dX7_hang_28 ?_
        refine aw_iload_n X 1 dX7_hang_31 rfl ?_
        refine aw_iload_n X 2 dX7_hang_32 rfl ?_
        have n9 := h.1
        replace h := h.2
        refine aw_iastj (j := a1.toNatClampNeg) X zs_95 n9 rfl dX7_hang_33 ?_
        refine aw_iload_n X 2 dX7_hang_34 rfl ?_
        refine aw_iconst (v := (-1)) X dX7_hang_35 (by decide) ?_
        refine aw_nameI (fun I10 e10 => ?_)
        replace h := h I10 e10
        have hJ12 : ∀ (w1 : Int32), w1 = (if a2 = (-1) then 0 else (1 : Int32)) → AW k g 3 I10 L 44 [] [vI w1] := by
          intro w1 q1
          subst q1
          exact aw_iret X E rfl dX7_hang_44 h
        refine aw_icmp_ne X 43 dX7_hang_36 rfl (fun c11 => ?_) (fun c11 => ?_)
        · refine aw_iconst (v := 1) X dX7_hang_43 (by decide) ?_
          refine aw_perm (ks9 := []) [] rfl ?_
          exact hJ12 _ (if_neg c11).symm
        · refine aw_iconst (v := 0) X dX7_hang_39 (by decide) ?_
          refine aw_goto X 44 dX7_hang_40 rfl ?_
          refine aw_perm (ks9 := []) [] rfl ?_
          exact hJ12 _ (if_pos c11).symm
      · replace h := zifp c8 h
        refine aw_aload_n X 0 dX7_hang_21 rfl ?_
        refine aw_iconst (v := (-1)) X dX7_hang_22 (by decide) ?_
        refine aw_callV X (as := [vI (-1)]) mf_X7_no zw_1137 h zs_87 rfl rfl (by decide) (Nat.le_of_ble_eq_true rfl) dX7_hang_23 (fun v I13 L13 h => ?_)
        obtain ⟨r13, rfl, h⟩ := h
        exact aw_iret X E rfl dX7_hang_26 h
set_option maxRecDepth 100000 in
theorem m_X7_hangs {l : Launch} {g : zG} {Q : Option zv → zI → zL → Prop} {I : zI} {L : zL} {a1 : Int32}  (h : if (v_X7_isPane I a1) = 0 then (Call l g 1 M_X7_no10 [vR 87, vI (-1)] I L (zi fun r2 I2 L2 => Q (some (vI r2)) I2 L2)) else (vp_in a1 8 ∧ (Q (some (vI (I 95 a1.toNatClampNeg))) I L))) : Call l g 3 M_X7_hangs [vR 87, vI a1] I L Q := by
  refine aw_entry (by decide) (Nat.le_of_ble_eq_true rfl) (fun k hk (X : zX k g cX7_hangs RX7 2 (some .int) 3) E => ?_)
  show AW k g 2 I L 0 [(0, vR 87), (1, vI a1)] []
  subst hk
  refine aw_aload_n X 0 dX7_hangs_0 rfl ?_
  refine aw_iload_n X 1 dX7_hangs_1 rfl ?_
  refine aw_pV X (as := [vI a1]) mf_X7_isPane zw_1165 (p_X7_isPane) zs_87 rfl rfl (by decide) (Nat.le_of_ble_eq_true rfl) dX7_hangs_2 ?_
  refine aw_if_eq X 17 dX7_hangs_5 rfl (fun c1 => ?_) (fun c1 => ?_)
  · replace h := zifp c1 h
    refine aw_aload_n X 0 dX7_hangs_17 rfl ?_
    refine aw_iconst (v := (-1)) X dX7_hangs_18 (by decide) ?_
    refine aw_callV X (as := [vI (-1)]) mf_X7_no10 zw_1221 h zs_87 rfl rfl (by decide) (Nat.le_of_ble_eq_true rfl) dX7_hangs_19 (fun v I2 L2 h => ?_)
    obtain ⟨r2, rfl, h⟩ := h
    exact aw_iret X E rfl dX7_hangs_22 h
  · replace h := zifn c1 h
    refine aw_aload_n X 0 dX7_hangs_8 rfl ?_
    refine aw_getR X zf_RX7_32 rfl zs_87 zr_87_9 dX7_hangs_9 ?_
    refine aw_iload_n X 1 dX7_hangs_12 rfl ?_
    have n3 := h.1
    replace h := h.2
    refine aw_ialdj (j := a1.toNatClampNeg) X zs_95 n3 rfl dX7_hangs_13 ?_
    refine aw_goto X 22 dX7_hangs_14 rfl ?_
    exact aw_iret X E rfl dX7_hangs_22 h
def v_X7_holds (I : zI) (a1 : Int32) : Int32 := if (v_X7_within a1 0 7) = 0 then (-1) else (I 88 a1.toNatClampNeg)
set_option maxRecDepth 100000 in
theorem p_X7_holds {l : Launch} {g : zG} {I : zI} {L : zL} {a1 : Int32}  : Call l g 2 M_X7_holds [vR 87, vI a1] I L (zp (some (vI (v_X7_holds I a1))) I L) := by
  refine aw_entry (by decide) (Nat.le_of_ble_eq_true rfl) (fun k hk (X : zX k g cX7_holds RX7 2 (some .int) 2) E => ?_)
  show AW k g 2 I L 0 [(0, vR 87), (1, vI a1)] []
  subst hk
  have hJ : ∀ w1 : Int32, w1 = (if (v_X7_within a1 0 7) = 0 then (-1) else (I 88 a1.toNatClampNeg)) → zp (some (vI (v_X7_holds I a1))) I L (some (vI w1)) I L := fun w1 e1 => ⟨by rw [e1]; rfl, rfl, rfl⟩
  refine aw_iload_n X 1 dX7_holds_0 rfl ?_
  refine aw_iconst (v := 0) X dX7_holds_1 (by decide) ?_
  refine aw_bipush (v := 7) X dX7_holds_2 (by decide) ?_
  refine aw_pS X (as := [vI a1, vI 0, vI 7]) mf_X7_within zw_1134 (p_X7_within) rfl rfl (by decide) (Nat.le_of_ble_eq_true rfl) dX7_holds_4 ?_
  have hJ2 : ∀ (w1 : Int32), w1 = (if (v_X7_within a1 0 7) = 0 then (-1) else (I 88 a1.toNatClampNeg)) → AW k g 2 I L 20 [] [vI w1] := by
    intro w1 q1
    subst q1
    exact aw_iret X E rfl dX7_holds_20 (hJ _ rfl)
  refine aw_if_eq X 19 dX7_holds_7 rfl (fun c1 => ?_) (fun c1 => ?_)
  · refine aw_iconst (v := (-1)) X dX7_holds_19 (by decide) ?_
    refine aw_perm (ks9 := []) [] rfl ?_
    exact hJ2 _ (if_pos c1).symm
  · refine aw_aload_n X 0 dX7_holds_10 rfl ?_
    refine aw_getR X zf_RX7_7 rfl zs_87 zr_87_0 dX7_holds_11 ?_
    refine aw_iload_n X 1 dX7_holds_14 rfl ?_
    refine aw_ialdj (j := a1.toNatClampNeg) X zs_88 (zin_within c1 (by decide)) rfl dX7_holds_15 ?_
    refine aw_goto X 20 dX7_holds_16 rfl ?_
    refine aw_perm (ks9 := []) [] rfl ?_
    exact hJ2 _ (if_neg c1).symm
set_option maxRecDepth 100000 in
theorem s_X7_load_2 {k : zK} {g : zG} {Q : Option zv → zI → zL → Prop} {I : zI} {L : zL} {y1 : Int32} {y2 : Int32}  (X : zX k g cX7_load RX7 3 none 1) (E : zE k g Q) (h : if y2 < 16 then (vp_in ((16 * y1) + y2) 128 ∧ (vp_in y2 16 ∧ (AW k g 3 (zs I 101 y2.toNatClampNeg (I 97 (((16 * y1) + y2).toNatClampNeg))) L 2 [(0, vR 87), (1, vI y1), (2, vI (y2 + 1))] []))) else (Q none I L)) : AW k g 3 I L 2 [(0, vR 87), (1, vI y1), (2, vI y2)] [] := by
  refine aw_iload_n X 2 dX7_load_2 rfl ?_
  refine aw_bipush (v := 16) X dX7_load_3 (by decide) ?_
  refine aw_icmp_gen X 31 dX7_load_5 rfl (fun c1 => ?_) (fun c1 => ?_)
  · replace h := zifp c1 h
    refine aw_aload_n X 0 dX7_load_8 rfl ?_
    refine aw_getR X zf_RX7_50 rfl zs_87 zr_87_24 dX7_load_9 ?_
    refine aw_iload_n X 2 dX7_load_12 rfl ?_
    refine aw_aload_n X 0 dX7_load_13 rfl ?_
    refine aw_getR X zf_RX7_38 rfl zs_87 zr_87_11 dX7_load_14 ?_
    refine aw_bipush (v := 16) X dX7_load_17 (by decide) ?_
    refine aw_iload_n X 1 dX7_load_19 rfl ?_
    refine aw_imul X dX7_load_20 ?_
    refine aw_iload_n X 2 dX7_load_21 rfl ?_
    refine aw_iadd X dX7_load_22 ?_
    have n2 := h.1
    replace h := h.2
    refine aw_ialdj (j := ((16 * y1) + y2).toNatClampNeg) X zs_97 n2 rfl dX7_load_23 ?_
    have n3 := h.1
    replace h := h.2
    refine aw_iastj (j := y2.toNatClampNeg) X zs_101 n3 rfl dX7_load_24 ?_
    refine aw_iinc (v := y2 + 1) X 2 dX7_load_25 rfl rfl (by decide) rfl ?_
    refine aw_goto X 2 dX7_load_28 rfl ?_
    refine aw_perm (ks9 := [(0, vR 87), (1, vI y1), (2, vI (y2 + 1))]) [1, 2, 0] rfl ?_
    exact h
  · replace h := zifn c1 h
    exact aw_vret X E rfl dX7_load_31 h
set_option maxRecDepth 100000 in
theorem m_X7_load {l : Launch} {g : zG} {Q : Option zv → zI → zL → Prop} {I : zI} {L : zL} {a1 : Int32}  (h : ∀ k : zK, kl k = l → zX k g cX7_load RX7 3 none 1 → zE k g Q → (AW k g 3 I L 2 [(0, vR 87), (1, vI a1), (2, vI 0)] [])) : Call l g 1 M_X7_load [vR 87, vI a1] I L Q := by
  refine aw_entry (by decide) (Nat.le_of_ble_eq_true rfl) (fun k hk (X : zX k g cX7_load RX7 3 none 1) E => ?_)
  show AW k g 3 I L 0 [(0, vR 87), (1, vI a1)] []
  replace h := h k hk X E
  subst hk
  refine aw_iconst (v := 0) X dX7_load_0 (by decide) ?_
  refine aw_istore_n X dX7_load_1 (by decide) rfl ?_
  refine aw_perm (ks9 := [(0, vR 87), (1, vI a1), (2, vI 0)]) [1, 2, 0] rfl ?_
  exact h
set_option maxRecDepth 100000 in
theorem s_X7_hours_37 {k : zK} {g : zG} {Q : Option zv → zI → zL → Prop} {I : zI} {L : zL} {y1 : Int32} {y2 : Int32}  (X : zX k g cX7_hours RX7 4 (some .int) 3) (E : zE k g Q) (h : if y2 < (I 87 5) then (Call (kl k) g 1 M_X7_load [vR 87, vI y2] I L (zn fun I2 L2 => AW k g 4 I2 L2 52 [(0, vR 87), (1, vI y1), (2, vI y2), (3, vI 0)] [])) else ((∀ I3 : zI, I3 = (zs I 87 15 ((I 87 15) + y1)) → Q (some (vI (I3 87 15))) I3 L))) : AW k g 4 I L 37 [(0, vR 87), (1, vI y1), (2, vI y2)] [] := by
  refine aw_iload_n X 2 dX7_hours_37 rfl ?_
  refine aw_aload_n X 0 dX7_hours_38 rfl ?_
  refine aw_getI X zf_RX7_84 rfl zs_87 dX7_hours_39 ?_
  refine aw_icmp_gen X 111 dX7_hours_42 rfl (fun c1 => ?_) (fun c1 => ?_)
  · replace h := zifp c1 h
    refine aw_aload_n X 0 dX7_hours_45 rfl ?_
    refine aw_iload_n X 2 dX7_hours_46 rfl ?_
    refine aw_callV X (as := [vI y2]) mf_X7_load zw_1388 h zs_87 rfl rfl (by decide) (Nat.le_of_ble_eq_true rfl) dX7_hours_47 (fun v I2 L2 h => ?_)
    obtain ⟨rfl, h⟩ := h
    refine aw_iconst (v := 0) X dX7_hours_50 (by decide) ?_
    refine aw_istore_n X dX7_hours_51 (by decide) rfl ?_
    refine aw_perm (ks9 := [(0, vR 87), (1, vI y1), (2, vI y2), (3, vI 0)]) [1, 2, 3, 0] rfl ?_
    exact h
  · replace h := zifn c1 h
    refine aw_aload_n X 0 dX7_hours_111 rfl ?_
    refine aw_dup X dX7_hours_112 rfl ?_
    refine aw_getI X zf_RX7_75 rfl zs_87 dX7_hours_113 ?_
    refine aw_iload_n X 1 dX7_hours_116 rfl ?_
    refine aw_iadd X dX7_hours_117 ?_
    refine aw_putI X zf_RX7_75 rfl rfl rfl zs_87 dX7_hours_118 ?_
    refine aw_aload_n X 0 dX7_hours_121 rfl ?_
    refine aw_nameI (fun I3 e3 => ?_)
    replace h := h I3 e3
    refine aw_getI X zf_RX7_75 rfl zs_87 dX7_hours_122 ?_
    exact aw_iret X E rfl dX7_hours_125 h
set_option maxRecDepth 100000 in
theorem s_X7_hours_52 {k : zK} {g : zG} {Q : Option zv → zI → zL → Prop} {I : zI} {L : zL} {y1 : Int32} {y2 : Int32} {y3 : Int32}  (X : zX k g cX7_hours RX7 4 (some .int) 3) (E : zE k g Q) (h : if y3 < y1 then (Call (kl k) g 2 M_X7_melting [vR 87, vI y2, vI ((I 87 15) + y3)] I L (zn fun I2 L2 => AW k g 4 I2 L2 52 [(0, vR 87), (1, vI y1), (2, vI y2), (3, vI (y3 + 1))] [])) else (AW k g 4 I L 76 [(0, vR 87), (1, vI y1), (2, vI y2), (3, vI 0)] [])) : AW k g 4 I L 52 [(0, vR 87), (1, vI y1), (2, vI y2), (3, vI y3)] [] := by
  refine aw_iload_n X 3 dX7_hours_52 rfl ?_
  refine aw_iload_n X 1 dX7_hours_53 rfl ?_
  refine aw_icmp_gen X 74 dX7_hours_54 rfl (fun c1 => ?_) (fun c1 => ?_)
  · replace h := zifp c1 h
    refine aw_aload_n X 0 dX7_hours_57 rfl ?_
    refine aw_iload_n X 2 dX7_hours_58 rfl ?_
    refine aw_aload_n X 0 dX7_hours_59 rfl ?_
    refine aw_getI X zf_RX7_75 rfl zs_87 dX7_hours_60 ?_
    refine aw_iload_n X 3 dX7_hours_63 rfl ?_
    refine aw_iadd X dX7_hours_64 ?_
    refine aw_callV X (as := [vI y2, vI ((I 87 15) + y3)]) mf_X7_melting zw_1299 h zs_87 rfl rfl (by decide) (Nat.le_of_ble_eq_true rfl) dX7_hours_65 (fun v I2 L2 h => ?_)
    obtain ⟨rfl, h⟩ := h
    refine aw_iinc (v := y3 + 1) X 3 dX7_hours_68 rfl rfl (by decide) rfl ?_
    refine aw_goto X 52 dX7_hours_71 rfl ?_
    refine aw_perm (ks9 := [(0, vR 87), (1, vI y1), (2, vI y2), (3, vI (y3 + 1))]) [1, 2, 3, 0] rfl ?_
    exact h
  · replace h := zifn c1 h
    refine aw_iconst (v := 0) X dX7_hours_74 (by decide) ?_
    refine aw_istore_n X dX7_hours_75 (by decide) rfl ?_
    refine aw_perm (ks9 := [(0, vR 87), (1, vI y1), (2, vI y2), (3, vI 0)]) [1, 2, 3, 0] rfl ?_
    exact h
set_option maxRecDepth 100000 in
theorem s_X7_hours_76 {k : zK} {g : zG} {Q : Option zv → zI → zL → Prop} {I : zI} {L : zL} {y1 : Int32} {y2 : Int32} {y3 : Int32}  (X : zX k g cX7_hours RX7 4 (some .int) 3) (E : zE k g Q) (h : if y3 < 16 then (vp_in y3 16 ∧ (vp_in ((16 * y2) + y3) 128 ∧ (AW k g 4 (zs I 97 (((16 * y2) + y3).toNatClampNeg) (I 101 y3.toNatClampNeg)) L 76 [(0, vR 87), (1, vI y1), (2, vI y2), (3, vI (y3 + 1))] []))) else (AW k g 4 I L 37 [(0, vR 87), (1, vI y1), (2, vI (y2 + 1))] [])) : AW k g 4 I L 76 [(0, vR 87), (1, vI y1), (2, vI y2), (3, vI y3)] [] := by
  refine aw_iload_n X 3 dX7_hours_76 rfl ?_
  refine aw_bipush (v := 16) X dX7_hours_77 (by decide) ?_
  refine aw_icmp_gen X 105 dX7_hours_79 rfl (fun c1 => ?_) (fun c1 => ?_)
  · replace h := zifp c1 h
    refine aw_aload_n X 0 dX7_hours_82 rfl ?_
    refine aw_getR X zf_RX7_38 rfl zs_87 zr_87_11 dX7_hours_83 ?_
    refine aw_bipush (v := 16) X dX7_hours_86 (by decide) ?_
    refine aw_iload_n X 2 dX7_hours_88 rfl ?_
    refine aw_imul X dX7_hours_89 ?_
    refine aw_iload_n X 3 dX7_hours_90 rfl ?_
    refine aw_iadd X dX7_hours_91 ?_
    refine aw_aload_n X 0 dX7_hours_92 rfl ?_
    refine aw_getR X zf_RX7_50 rfl zs_87 zr_87_24 dX7_hours_93 ?_
    refine aw_iload_n X 3 dX7_hours_96 rfl ?_
    have n2 := h.1
    replace h := h.2
    refine aw_ialdj (j := y3.toNatClampNeg) X zs_101 n2 rfl dX7_hours_97 ?_
    have n3 := h.1
    replace h := h.2
    refine aw_iastj (j := ((16 * y2) + y3).toNatClampNeg) X zs_97 n3 rfl dX7_hours_98 ?_
    refine aw_iinc (v := y3 + 1) X 3 dX7_hours_99 rfl rfl (by decide) rfl ?_
    refine aw_goto X 76 dX7_hours_102 rfl ?_
    refine aw_perm (ks9 := [(0, vR 87), (1, vI y1), (2, vI y2), (3, vI (y3 + 1))]) [1, 2, 3, 0] rfl ?_
    exact h
  · replace h := zifn c1 h
    refine aw_iinc (v := y2 + 1) X 2 dX7_hours_105 rfl rfl (by decide) rfl ?_
    refine aw_goto X 37 dX7_hours_108 rfl ?_
    refine aw_perm (ks9 := [(0, vR 87), (1, vI y1), (2, vI (y2 + 1))]) [1, 2, 0] rfl ?_
    exact h
set_option maxRecDepth 100000 in
theorem m_X7_hours {l : Launch} {g : zG} {Q : Option zv → zI → zL → Prop} {I : zI} {L : zL} {a1 : Int32}  (h : ∀ k : zK, kl k = l → zX k g cX7_hours RX7 4 (some .int) 3 → zE k g Q → (if (v_X7_within a1 1 24) = 0 then (Call (kl k) g 1 M_X7_no [vR 87, vI (-6)] I L (zi fun r4 I4 L4 => Q (some (vI r4)) I4 L4)) else (if 24 < ((I 87 15) + a1) then (Call (kl k) g 1 M_X7_no [vR 87, vI (-7)] I L (zi fun r3 I3 L3 => Q (some (vI r3)) I3 L3)) else (AW k g 4 I L 37 [(0, vR 87), (1, vI a1), (2, vI 0)] [])))) : Call l g 3 M_X7_hours [vR 87, vI a1] I L Q := by
  refine aw_entry (by decide) (Nat.le_of_ble_eq_true rfl) (fun k hk (X : zX k g cX7_hours RX7 4 (some .int) 3) E => ?_)
  show AW k g 4 I L 0 [(0, vR 87), (1, vI a1)] []
  replace h := h k hk X E
  subst hk
  refine aw_iload_n X 1 dX7_hours_0 rfl ?_
  refine aw_iconst (v := 1) X dX7_hours_1 (by decide) ?_
  refine aw_bipush (v := 24) X dX7_hours_2 (by decide) ?_
  refine aw_pS X (as := [vI a1, vI 1, vI 24]) mf_X7_within zw_1134 (p_X7_within) rfl rfl (by decide) (Nat.le_of_ble_eq_true rfl) dX7_hours_4 ?_
  refine aw_if_ne X 17 dX7_hours_7 rfl (fun c1 => ?_) (fun c1 => ?_)
  · replace h := zifn c1 h
    refine aw_aload_n X 0 dX7_hours_17 rfl ?_
    refine aw_getI X zf_RX7_75 rfl zs_87 dX7_hours_18 ?_
    refine aw_iload_n X 1 dX7_hours_21 rfl ?_
    refine aw_iadd X dX7_hours_22 ?_
    refine aw_bipush (v := 24) X dX7_hours_23 (by decide) ?_
    refine aw_icmp_len X 35 dX7_hours_25 rfl (fun c2 => ?_) (fun c2 => ?_)
    · replace h := zifp c2 h
      refine aw_aload_n X 0 dX7_hours_28 rfl ?_
      refine aw_bipush (v := (-7)) X dX7_hours_29 (by decide) ?_
      refine aw_callV X (as := [vI (-7)]) mf_X7_no zw_1137 h zs_87 rfl rfl (by decide) (Nat.le_of_ble_eq_true rfl) dX7_hours_31 (fun v I3 L3 h => ?_)
      obtain ⟨r3, rfl, h⟩ := h
      exact aw_iret X E rfl dX7_hours_34 h
    · replace h := zifn c2 h
      refine aw_iconst (v := 0) X dX7_hours_35 (by decide) ?_
      refine aw_istore_n X dX7_hours_36 (by decide) rfl ?_
      refine aw_perm (ks9 := [(0, vR 87), (1, vI a1), (2, vI 0)]) [1, 2, 0] rfl ?_
      exact h
  · replace h := zifp c1 h
    refine aw_aload_n X 0 dX7_hours_10 rfl ?_
    refine aw_bipush (v := (-6)) X dX7_hours_11 (by decide) ?_
    refine aw_callV X (as := [vI (-6)]) mf_X7_no zw_1137 h zs_87 rfl rfl (by decide) (Nat.le_of_ble_eq_true rfl) dX7_hours_13 (fun v I4 L4 h => ?_)
    obtain ⟨r4, rfl, h⟩ := h
    exact aw_iret X E rfl dX7_hours_16 h
def v_X7_isLetterOrNone (I : zI) (a1 : Int32) : Int32 := if a1 = (-1) then 1 else if (v_X7_isLetter I a1) = 0 then 0 else (1 : Int32)
set_option maxRecDepth 100000 in
theorem p_X7_isLetterOrNone {l : Launch} {g : zG} {I : zI} {L : zL} {a1 : Int32}  : Call l g 3 M_X7_isLetterOrNone [vR 87, vI a1] I L (zp (some (vI (v_X7_isLetterOrNone I a1))) I L) := by
  refine aw_entry (by decide) (Nat.le_of_ble_eq_true rfl) (fun k hk (X : zX k g cX7_isLetterOrNone RX7 2 (some .boolean) 3) E => ?_)
  show AW k g 2 I L 0 [(0, vR 87), (1, vI a1)] []
  subst hk
  have hJ : ∀ w1 : Int32, w1 = (if a1 = (-1) then 1 else if (v_X7_isLetter I a1) = 0 then 0 else (1 : Int32)) → zp (some (vI (v_X7_isLetterOrNone I a1))) I L (some (vI w1)) I L := fun w1 e1 => ⟨by rw [e1]; rfl, rfl, rfl⟩
  refine aw_iload_n X 1 dX7_isLetterOrNone_0 rfl ?_
  refine aw_iconst (v := (-1)) X dX7_isLetterOrNone_1 (by decide) ?_
  have hJ3 : ∀ (w1 : Int32), w1 = (if a1 = (-1) then 1 else if (v_X7_isLetter I a1) = 0 then 0 else (1 : Int32)) → AW k g 2 I L 18 [] [vI w1] := by
    intro w1 q1
    subst q1
    exact aw_zret X E rfl (by (repeat' split) <;> first | exact Or.inl rfl | exact Or.inr rfl) dX7_isLetterOrNone_18 (hJ _ rfl)
  refine aw_icmp_eq X 13 dX7_isLetterOrNone_2 rfl (fun c1 => ?_) (fun c1 => ?_)
  · refine aw_iconst (v := 1) X dX7_isLetterOrNone_13 (by decide) ?_
    refine aw_goto X 18 dX7_isLetterOrNone_14 rfl ?_
    refine aw_perm (ks9 := []) [] rfl ?_
    exact hJ3 _ (if_pos c1).symm
  · refine aw_aload_n X 0 dX7_isLetterOrNone_5 rfl ?_
    refine aw_iload_n X 1 dX7_isLetterOrNone_6 rfl ?_
    refine aw_pV X (as := [vI a1]) mf_X7_isLetter zw_1201 (p_X7_isLetter) zs_87 rfl rfl (by decide) (Nat.le_of_ble_eq_true rfl) dX7_isLetterOrNone_7 ?_
    refine aw_if_eq X 17 dX7_isLetterOrNone_10 rfl (fun c2 => ?_) (fun c2 => ?_)
    · refine aw_iconst (v := 0) X dX7_isLetterOrNone_17 (by decide) ?_
      refine aw_perm (ks9 := []) [] rfl ?_
      exact hJ3 _ ((if_pos c2).symm.trans (if_neg c1).symm)
    · refine aw_iconst (v := 1) X dX7_isLetterOrNone_13 (by decide) ?_
      refine aw_goto X 18 dX7_isLetterOrNone_14 rfl ?_
      refine aw_perm (ks9 := []) [] rfl ?_
      exact hJ3 _ ((if_neg c2).symm.trans (if_neg c1).symm)
theorem b_X7_isLetterOrNone {I : zI} {a1 : Int32} : v_X7_isLetterOrNone I a1 = 0 ∨ v_X7_isLetterOrNone I a1 = 1 := by
  unfold v_X7_isLetterOrNone
  repeat' split
  all_goals first | exact Or.inl rfl | exact Or.inr rfl
set_option maxRecDepth 100000 in
theorem m_X7_ice {l : Launch} {g : zG} {Q : Option zv → zI → zL → Prop} {I : zI} {L : zL} {a1 : Int32} {a2 : Int32} {a3 : Int32} {a4 : Int32}  (h : if (v_X7_isPane I a1) = 0 then (Call l g 1 M_X7_no [vR 87, vI (-1)] I L (zi fun r2 I2 L2 => Q (some (vI r2)) I2 L2)) else (if (v_X7_isLetterOrNone I a2) = 0 then (Call l g 1 M_X7_no [vR 87, vI (-1)] I L (zi fun r9 I9 L9 => Q (some (vI r9)) I9 L9)) else (if (v_X7_within a4 0 15) = 0 then (Call l g 1 M_X7_no [vR 87, vI (-5)] I L (zi fun r8 I8 L8 => Q (some (vI r8)) I8 L8)) else (if (v_X7_within a3 0 24) = 0 then (Call l g 1 M_X7_no [vR 87, vI (-6)] I L (zi fun r7 I7 L7 => Q (some (vI r7)) I7 L7)) else (Call l g 3 M_X7_shapeAt [vR 87, vI a1, vI a2, vI a3] I L (zi fun r6 I6 L6 => Q (some (vI (I6 101 a4.toNatClampNeg))) I6 L6)))))) : Call l g 4 M_X7_ice [vR 87, vI a1, vI a2, vI a3, vI a4] I L Q := by
  refine aw_entry (by decide) (Nat.le_of_ble_eq_true rfl) (fun k hk (X : zX k g cX7_ice RX7 5 (some .int) 4) E => ?_)
  show AW k g 5 I L 0 [(0, vR 87), (1, vI a1), (2, vI a2), (3, vI a3), (4, vI a4)] []
  subst hk
  refine aw_aload_n X 0 dX7_ice_0 rfl ?_
  refine aw_iload_n X 1 dX7_ice_1 rfl ?_
  refine aw_pV X (as := [vI a1]) mf_X7_isPane zw_1165 (p_X7_isPane) zs_87 rfl rfl (by decide) (Nat.le_of_ble_eq_true rfl) dX7_ice_2 ?_
  refine aw_if_eq X 16 dX7_ice_5 rfl (fun c1 => ?_) (fun c1 => ?_)
  · replace h := zifp c1 h
    refine aw_aload_n X 0 dX7_ice_16 rfl ?_
    refine aw_iconst (v := (-1)) X dX7_ice_17 (by decide) ?_
    refine aw_callV X (as := [vI (-1)]) mf_X7_no zw_1137 h zs_87 rfl rfl (by decide) (Nat.le_of_ble_eq_true rfl) dX7_ice_18 (fun v I2 L2 h => ?_)
    obtain ⟨r2, rfl, h⟩ := h
    exact aw_iret X E rfl dX7_ice_21 h
  · replace h := zifn c1 h
    refine aw_aload_n X 0 dX7_ice_8 rfl ?_
    refine aw_iload_n X 2 dX7_ice_9 rfl ?_
    refine aw_pV X (as := [vI a2]) mf_X7_isLetterOrNone zw_1282 (p_X7_isLetterOrNone) zs_87 rfl rfl (by decide) (Nat.le_of_ble_eq_true rfl) dX7_ice_10 ?_
    refine aw_if_ne X 22 dX7_ice_13 rfl (fun c3 => ?_) (fun c3 => ?_)
    · replace h := zifn c3 h
      refine aw_iload X 4 dX7_ice_22 rfl ?_
      refine aw_iconst (v := 0) X dX7_ice_24 (by decide) ?_
      refine aw_bipush (v := 15) X dX7_ice_25 (by decide) ?_
      refine aw_pS X (as := [vI a4, vI 0, vI 15]) mf_X7_within zw_1134 (p_X7_within) rfl rfl (by decide) (Nat.le_of_ble_eq_true rfl) dX7_ice_27 ?_
      refine aw_if_ne X 40 dX7_ice_30 rfl (fun c4 => ?_) (fun c4 => ?_)
      · replace h := zifn c4 h
        refine aw_iload_n X 3 dX7_ice_40 rfl ?_
        refine aw_iconst (v := 0) X dX7_ice_41 (by decide) ?_
        refine aw_bipush (v := 24) X dX7_ice_42 (by decide) ?_
        refine aw_pS X (as := [vI a3, vI 0, vI 24]) mf_X7_within zw_1134 (p_X7_within) rfl rfl (by decide) (Nat.le_of_ble_eq_true rfl) dX7_ice_44 ?_
        refine aw_if_ne X 57 dX7_ice_47 rfl (fun c5 => ?_) (fun c5 => ?_)
        · replace h := zifn c5 h
          refine aw_aload_n X 0 dX7_ice_57 rfl ?_
          refine aw_iload_n X 1 dX7_ice_58 rfl ?_
          refine aw_iload_n X 2 dX7_ice_59 rfl ?_
          refine aw_iload_n X 3 dX7_ice_60 rfl ?_
          refine aw_callV X (as := [vI a1, vI a2, vI a3]) mf_X7_shapeAt zw_1286 h zs_87 rfl rfl (by decide) (Nat.le_of_ble_eq_true rfl) dX7_ice_61 (fun v I6 L6 h => ?_)
          obtain ⟨r6, rfl, h⟩ := h
          refine aw_pop X dX7_ice_64 rfl ?_
          refine aw_aload_n X 0 dX7_ice_65 rfl ?_
          refine aw_getR X zf_RX7_50 rfl zs_87 zr_87_24 dX7_ice_66 ?_
          refine aw_iload X 4 dX7_ice_69 rfl ?_
          refine aw_ialdj (j := a4.toNatClampNeg) X zs_101 (zin_within c4 (by decide)) rfl dX7_ice_71 ?_
          exact aw_iret X E rfl dX7_ice_72 h
        · replace h := zifp c5 h
          refine aw_aload_n X 0 dX7_ice_50 rfl ?_
          refine aw_bipush (v := (-6)) X dX7_ice_51 (by decide) ?_
          refine aw_callV X (as := [vI (-6)]) mf_X7_no zw_1137 h zs_87 rfl rfl (by decide) (Nat.le_of_ble_eq_true rfl) dX7_ice_53 (fun v I7 L7 h => ?_)
          obtain ⟨r7, rfl, h⟩ := h
          exact aw_iret X E rfl dX7_ice_56 h
      · replace h := zifp c4 h
        refine aw_aload_n X 0 dX7_ice_33 rfl ?_
        refine aw_bipush (v := (-5)) X dX7_ice_34 (by decide) ?_
        refine aw_callV X (as := [vI (-5)]) mf_X7_no zw_1137 h zs_87 rfl rfl (by decide) (Nat.le_of_ble_eq_true rfl) dX7_ice_36 (fun v I8 L8 h => ?_)
        obtain ⟨r8, rfl, h⟩ := h
        exact aw_iret X E rfl dX7_ice_39 h
    · replace h := zifp c3 h
      refine aw_aload_n X 0 dX7_ice_16 rfl ?_
      refine aw_iconst (v := (-1)) X dX7_ice_17 (by decide) ?_
      refine aw_callV X (as := [vI (-1)]) mf_X7_no zw_1137 h zs_87 rfl rfl (by decide) (Nat.le_of_ble_eq_true rfl) dX7_ice_18 (fun v I9 L9 h => ?_)
      obtain ⟨r9, rfl, h⟩ := h
      exact aw_iret X E rfl dX7_ice_21 h
set_option maxRecDepth 100000 in
theorem s_X7_image_7 {k : zK} {g : zG} {Q : Option zv → zI → zL → Prop} {I : zI} {L : zL} {y1 : Int32}  (X : zX k g cX7_image RX7 2 (some .int) 1) (E : zE k g Q) (h : if y1 < 8 then (vp_in y1 8 ∧ (vp_in y1 184 ∧ ((∀ I4 : zI, I4 = (zs I 100 y1.toNatClampNeg (I 91 y1.toNatClampNeg)) → vp_in (8 + y1) 184 ∧ ((∀ I6 : zI, I6 = (zs I4 100 ((8 + y1).toNatClampNeg) (I4 92 y1.toNatClampNeg)) → vp_in (16 + y1) 184 ∧ ((∀ I8 : zI, I8 = (zs I6 100 ((16 + y1).toNatClampNeg) (I6 93 y1.toNatClampNeg)) → vp_in (24 + y1) 184 ∧ ((∀ I10 : zI, I10 = (zs I8 100 ((24 + y1).toNatClampNeg) (I8 94 y1.toNatClampNeg)) → vp_in (32 + y1) 184 ∧ ((∀ I12 : zI, I12 = (zs I10 100 ((32 + y1).toNatClampNeg) (I10 95 y1.toNatClampNeg)) → vp_in (40 + y1) 184 ∧ (AW k g 2 (zs I12 100 ((40 + y1).toNatClampNeg) (I12 96 y1.toNatClampNeg)) L 7 [(0, vR 87), (1, vI (y1 + 1))] []))))))))))))) else (AW k g 2 I L 108 [(0, vR 87), (1, vI 0)] [])) : AW k g 2 I L 7 [(0, vR 87), (1, vI y1)] [] := by
  refine aw_iload_n X 1 dX7_image_7 rfl ?_
  refine aw_bipush (v := 8) X dX7_image_8 (by decide) ?_
  refine aw_icmp_gen X 106 dX7_image_10 rfl (fun c1 => ?_) (fun c1 => ?_)
  · replace h := zifp c1 h
    refine aw_aload_n X 0 dX7_image_13 rfl ?_
    refine aw_getR X zf_RX7_47 rfl zs_87 zr_87_23 dX7_image_14 ?_
    refine aw_iload_n X 1 dX7_image_17 rfl ?_
    refine aw_aload_n X 0 dX7_image_18 rfl ?_
    refine aw_getR X zf_RX7_20 rfl zs_87 zr_87_4 dX7_image_19 ?_
    refine aw_iload_n X 1 dX7_image_22 rfl ?_
    have n2 := h.1
    replace h := h.2
    refine aw_ialdj (j := y1.toNatClampNeg) X zs_91 n2 rfl dX7_image_23 ?_
    have n3 := h.1
    replace h := h.2
    refine aw_iastj (j := y1.toNatClampNeg) X zs_100 n3 rfl dX7_image_24 ?_
    refine aw_aload_n X 0 dX7_image_25 rfl ?_
    refine aw_nameI (fun I4 e4 => ?_)
    replace h := h I4 e4
    refine aw_getR X zf_RX7_47 rfl zs_87 zr_87_23 dX7_image_26 ?_
    refine aw_bipush (v := 8) X dX7_image_29 (by decide) ?_
    refine aw_iload_n X 1 dX7_image_31 rfl ?_
    refine aw_iadd X dX7_image_32 ?_
    refine aw_aload_n X 0 dX7_image_33 rfl ?_
    refine aw_getR X zf_RX7_23 rfl zs_87 zr_87_6 dX7_image_34 ?_
    refine aw_iload_n X 1 dX7_image_37 rfl ?_
    refine aw_ialdj (j := y1.toNatClampNeg) X zs_92 n2 rfl dX7_image_38 ?_
    have n5 := h.1
    replace h := h.2
    refine aw_iastj (j := (8 + y1).toNatClampNeg) X zs_100 n5 rfl dX7_image_39 ?_
    refine aw_aload_n X 0 dX7_image_40 rfl ?_
    refine aw_nameI (fun I6 e6 => ?_)
    replace h := h I6 e6
    refine aw_getR X zf_RX7_47 rfl zs_87 zr_87_23 dX7_image_41 ?_
    refine aw_bipush (v := 16) X dX7_image_44 (by decide) ?_
    refine aw_iload_n X 1 dX7_image_46 rfl ?_
    refine aw_iadd X dX7_image_47 ?_
    refine aw_aload_n X 0 dX7_image_48 rfl ?_
    refine aw_getR X zf_RX7_26 rfl zs_87 zr_87_7 dX7_image_49 ?_
    refine aw_iload_n X 1 dX7_image_52 rfl ?_
    refine aw_ialdj (j := y1.toNatClampNeg) X zs_93 n2 rfl dX7_image_53 ?_
    have n7 := h.1
    replace h := h.2
    refine aw_iastj (j := (16 + y1).toNatClampNeg) X zs_100 n7 rfl dX7_image_54 ?_
    refine aw_aload_n X 0 dX7_image_55 rfl ?_
    refine aw_nameI (fun I8 e8 => ?_)
    replace h := h I8 e8
    refine aw_getR X zf_RX7_47 rfl zs_87 zr_87_23 dX7_image_56 ?_
    refine aw_bipush (v := 24) X dX7_image_59 (by decide) ?_
    refine aw_iload_n X 1 dX7_image_61 rfl ?_
    refine aw_iadd X dX7_image_62 ?_
    refine aw_aload_n X 0 dX7_image_63 rfl ?_
    refine aw_getR X zf_RX7_29 rfl zs_87 zr_87_8 dX7_image_64 ?_
    refine aw_iload_n X 1 dX7_image_67 rfl ?_
    refine aw_ialdj (j := y1.toNatClampNeg) X zs_94 n2 rfl dX7_image_68 ?_
    have n9 := h.1
    replace h := h.2
    refine aw_iastj (j := (24 + y1).toNatClampNeg) X zs_100 n9 rfl dX7_image_69 ?_
    refine aw_aload_n X 0 dX7_image_70 rfl ?_
    refine aw_nameI (fun I10 e10 => ?_)
    replace h := h I10 e10
    refine aw_getR X zf_RX7_47 rfl zs_87 zr_87_23 dX7_image_71 ?_
    refine aw_bipush (v := 32) X dX7_image_74 (by decide) ?_
    refine aw_iload_n X 1 dX7_image_76 rfl ?_
    refine aw_iadd X dX7_image_77 ?_
    refine aw_aload_n X 0 dX7_image_78 rfl ?_
    refine aw_getR X zf_RX7_32 rfl zs_87 zr_87_9 dX7_image_79 ?_
    refine aw_iload_n X 1 dX7_image_82 rfl ?_
    refine aw_ialdj (j := y1.toNatClampNeg) X zs_95 n2 rfl dX7_image_83 ?_
    have n11 := h.1
    replace h := h.2
    refine aw_iastj (j := (32 + y1).toNatClampNeg) X zs_100 n11 rfl dX7_image_84 ?_
    refine aw_aload_n X 0 dX7_image_85 rfl ?_
    refine aw_nameI (fun I12 e12 => ?_)
    replace h := h I12 e12
    refine aw_getR X zf_RX7_47 rfl zs_87 zr_87_23 dX7_image_86 ?_
    refine aw_bipush (v := 40) X dX7_image_89 (by decide) ?_
    refine aw_iload_n X 1 dX7_image_91 rfl ?_
    refine aw_iadd X dX7_image_92 ?_
    refine aw_aload_n X 0 dX7_image_93 rfl ?_
    refine aw_getR X zf_RX7_35 rfl zs_87 zr_87_10 dX7_image_94 ?_
    refine aw_iload_n X 1 dX7_image_97 rfl ?_
    refine aw_ialdj (j := y1.toNatClampNeg) X zs_96 n2 rfl dX7_image_98 ?_
    have n13 := h.1
    replace h := h.2
    refine aw_iastj (j := (40 + y1).toNatClampNeg) X zs_100 n13 rfl dX7_image_99 ?_
    refine aw_iinc (v := y1 + 1) X 1 dX7_image_100 rfl rfl (by decide) rfl ?_
    refine aw_goto X 7 dX7_image_103 rfl ?_
    refine aw_perm (ks9 := [(0, vR 87), (1, vI (y1 + 1))]) [1, 0] rfl ?_
    exact h
  · replace h := zifn c1 h
    refine aw_iconst (v := 0) X dX7_image_106 (by decide) ?_
    refine aw_istore_n X dX7_image_107 (by decide) rfl ?_
    refine aw_perm (ks9 := [(0, vR 87), (1, vI 0)]) [1, 0] rfl ?_
    exact h
set_option maxRecDepth 100000 in
theorem s_X7_image_108 {k : zK} {g : zG} {Q : Option zv → zI → zL → Prop} {I : zI} {L : zL} {y1 : Int32}  (X : zX k g cX7_image RX7 2 (some .int) 1) (E : zE k g Q) (h : if y1 < 128 then (vp_in y1 128 ∧ (vp_in (48 + y1) 184 ∧ (AW k g 2 (zs I 100 ((48 + y1).toNatClampNeg) (I 97 y1.toNatClampNeg)) L 108 [(0, vR 87), (1, vI (y1 + 1))] []))) else ((∀ I4 : zI, I4 = (zs I 100 176 (I 87 3)) → (∀ I5 : zI, I5 = (zs I4 100 177 (I4 87 5)) → (∀ I6 : zI, I6 = (zs I5 100 178 (I5 87 12)) → (∀ I7 : zI, I7 = (zs I6 100 179 (I6 87 13)) → (∀ I8 : zI, I8 = (zs I7 100 180 (I7 87 14)) → (∀ I9 : zI, I9 = (zs I8 100 181 (I8 87 15)) → (∀ I10 : zI, I10 = (zs I9 100 182 (I9 87 16)) → (∀ I11 : zI, I11 = (zs I10 100 183 (I10 87 17)) → Q (some (vI (I11 87 5))) I11 L)))))))))) : AW k g 2 I L 108 [(0, vR 87), (1, vI y1)] [] := by
  refine aw_iload_n X 1 dX7_image_108 rfl ?_
  refine aw_sipush (v := 128) X dX7_image_109 (by decide) ?_
  refine aw_icmp_gen X 136 dX7_image_112 rfl (fun c1 => ?_) (fun c1 => ?_)
  · replace h := zifp c1 h
    refine aw_aload_n X 0 dX7_image_115 rfl ?_
    refine aw_getR X zf_RX7_47 rfl zs_87 zr_87_23 dX7_image_116 ?_
    refine aw_bipush (v := 48) X dX7_image_119 (by decide) ?_
    refine aw_iload_n X 1 dX7_image_121 rfl ?_
    refine aw_iadd X dX7_image_122 ?_
    refine aw_aload_n X 0 dX7_image_123 rfl ?_
    refine aw_getR X zf_RX7_38 rfl zs_87 zr_87_11 dX7_image_124 ?_
    refine aw_iload_n X 1 dX7_image_127 rfl ?_
    have n2 := h.1
    replace h := h.2
    refine aw_ialdj (j := y1.toNatClampNeg) X zs_97 n2 rfl dX7_image_128 ?_
    have n3 := h.1
    replace h := h.2
    refine aw_iastj (j := (48 + y1).toNatClampNeg) X zs_100 n3 rfl dX7_image_129 ?_
    refine aw_iinc (v := y1 + 1) X 1 dX7_image_130 rfl rfl (by decide) rfl ?_
    refine aw_goto X 108 dX7_image_133 rfl ?_
    refine aw_perm (ks9 := [(0, vR 87), (1, vI (y1 + 1))]) [1, 0] rfl ?_
    exact h
  · replace h := zifn c1 h
    refine aw_aload_n X 0 dX7_image_136 rfl ?_
    refine aw_getR X zf_RX7_47 rfl zs_87 zr_87_23 dX7_image_137 ?_
    refine aw_sipush (v := 176) X dX7_image_140 (by decide) ?_
    refine aw_aload_n X 0 dX7_image_143 rfl ?_
    refine aw_getI X zf_RX7_91 rfl zs_87 dX7_image_144 ?_
    refine aw_iastj (j := 176) X zs_100 (zinof (m := 184) (by decide) (by decide) (by decide)) (by decide) dX7_image_147 ?_
    refine aw_aload_n X 0 dX7_image_148 rfl ?_
    refine aw_nameI (fun I4 e4 => ?_)
    replace h := h I4 e4
    refine aw_getR X zf_RX7_47 rfl zs_87 zr_87_23 dX7_image_149 ?_
    refine aw_sipush (v := 177) X dX7_image_152 (by decide) ?_
    refine aw_aload_n X 0 dX7_image_155 rfl ?_
    refine aw_getI X zf_RX7_84 rfl zs_87 dX7_image_156 ?_
    refine aw_iastj (j := 177) X zs_100 (zinof (m := 184) (by decide) (by decide) (by decide)) (by decide) dX7_image_159 ?_
    refine aw_aload_n X 0 dX7_image_160 rfl ?_
    refine aw_nameI (fun I5 e5 => ?_)
    replace h := h I5 e5
    refine aw_getR X zf_RX7_47 rfl zs_87 zr_87_23 dX7_image_161 ?_
    refine aw_sipush (v := 178) X dX7_image_164 (by decide) ?_
    refine aw_aload_n X 0 dX7_image_167 rfl ?_
    refine aw_getI X zf_RX7_65 rfl zs_87 dX7_image_168 ?_
    refine aw_iastj (j := 178) X zs_100 (zinof (m := 184) (by decide) (by decide) (by decide)) (by decide) dX7_image_171 ?_
    refine aw_aload_n X 0 dX7_image_172 rfl ?_
    refine aw_nameI (fun I6 e6 => ?_)
    replace h := h I6 e6
    refine aw_getR X zf_RX7_47 rfl zs_87 zr_87_23 dX7_image_173 ?_
    refine aw_sipush (v := 179) X dX7_image_176 (by decide) ?_
    refine aw_aload_n X 0 dX7_image_179 rfl ?_
    refine aw_getI X zf_RX7_69 rfl zs_87 dX7_image_180 ?_
    refine aw_iastj (j := 179) X zs_100 (zinof (m := 184) (by decide) (by decide) (by decide)) (by decide) dX7_image_183 ?_
    refine aw_aload_n X 0 dX7_image_184 rfl ?_
    refine aw_nameI (fun I7 e7 => ?_)
    replace h := h I7 e7
    refine aw_getR X zf_RX7_47 rfl zs_87 zr_87_23 dX7_image_185 ?_
    refine aw_sipush (v := 180) X dX7_image_188 (by decide) ?_
    refine aw_aload_n X 0 dX7_image_191 rfl ?_
    refine aw_getI X zf_RX7_72 rfl zs_87 dX7_image_192 ?_
    refine aw_iastj (j := 180) X zs_100 (zinof (m := 184) (by decide) (by decide) (by decide)) (by decide) dX7_image_195 ?_
    refine aw_aload_n X 0 dX7_image_196 rfl ?_
    refine aw_nameI (fun I8 e8 => ?_)
    replace h := h I8 e8
    refine aw_getR X zf_RX7_47 rfl zs_87 zr_87_23 dX7_image_197 ?_
    refine aw_sipush (v := 181) X dX7_image_200 (by decide) ?_
    refine aw_aload_n X 0 dX7_image_203 rfl ?_
    refine aw_getI X zf_RX7_75 rfl zs_87 dX7_image_204 ?_
    refine aw_iastj (j := 181) X zs_100 (zinof (m := 184) (by decide) (by decide) (by decide)) (by decide) dX7_image_207 ?_
    refine aw_aload_n X 0 dX7_image_208 rfl ?_
    refine aw_nameI (fun I9 e9 => ?_)
    replace h := h I9 e9
    refine aw_getR X zf_RX7_47 rfl zs_87 zr_87_23 dX7_image_209 ?_
    refine aw_sipush (v := 182) X dX7_image_212 (by decide) ?_
    refine aw_aload_n X 0 dX7_image_215 rfl ?_
    refine aw_getI X zf_RX7_215 rfl zs_87 dX7_image_216 ?_
    refine aw_iastj (j := 182) X zs_100 (zinof (m := 184) (by decide) (by decide) (by decide)) (by decide) dX7_image_219 ?_
    refine aw_aload_n X 0 dX7_image_220 rfl ?_
    refine aw_nameI (fun I10 e10 => ?_)
    replace h := h I10 e10
    refine aw_getR X zf_RX7_47 rfl zs_87 zr_87_23 dX7_image_221 ?_
    refine aw_sipush (v := 183) X dX7_image_224 (by decide) ?_
    refine aw_aload_n X 0 dX7_image_227 rfl ?_
    refine aw_getI X zf_RX7_78 rfl zs_87 dX7_image_228 ?_
    refine aw_iastj (j := 183) X zs_100 (zinof (m := 184) (by decide) (by decide) (by decide)) (by decide) dX7_image_231 ?_
    refine aw_aload_n X 0 dX7_image_232 rfl ?_
    refine aw_nameI (fun I11 e11 => ?_)
    replace h := h I11 e11
    refine aw_getI X zf_RX7_84 rfl zs_87 dX7_image_233 ?_
    exact aw_iret X E rfl dX7_image_236 h
set_option maxRecDepth 100000 in
theorem m_X7_image {l : Launch} {g : zG} {Q : Option zv → zI → zL → Prop} {I : zI} {L : zL}   (h : ∀ k : zK, kl k = l → zX k g cX7_image RX7 2 (some .int) 1 → zE k g Q → (AW k g 2 (zs I 87 22 1) L 7 [(0, vR 87), (1, vI 0)] [])) : Call l g 1 M_X7_image [vR 87] I L Q := by
  refine aw_entry (by decide) (Nat.le_of_ble_eq_true rfl) (fun k hk (X : zX k g cX7_image RX7 2 (some .int) 1) E => ?_)
  show AW k g 2 I L 0 [(0, vR 87)] []
  replace h := h k hk X E
  subst hk
  refine aw_aload_n X 0 dX7_image_0 rfl ?_
  refine aw_iconst (v := 1) X dX7_image_1 (by decide) ?_
  refine aw_putZ X zf_RX7_259 rfl rfl rfl (Or.inr rfl) zs_87 dX7_image_2 ?_
  refine aw_iconst (v := 0) X dX7_image_5 (by decide) ?_
  refine aw_istore_n X dX7_image_6 (by decide) rfl ?_
  refine aw_perm (ks9 := [(0, vR 87), (1, vI 0)]) [1, 0] rfl ?_
  exact h
def v_X7_sign (I : zI) (L : zL) : Int32 := if (I 87 27) < (I 89 ((I 87 26).toNatClampNeg)) then (L 90 (((160 * (I 87 26)) + (I 87 27)).toNatClampNeg)).toInt32 else ((-1) : Int32)
def k_X7_sign (I : zI) (L : zL) : Prop := vp_in (I 87 26) 8 ∧ ((I 87 27) < (I 89 ((I 87 26).toNatClampNeg)) → vp_in ((160 * (I 87 26)) + (I 87 27)) 1280)
set_option maxRecDepth 100000 in
theorem p_X7_sign {l : Launch} {g : zG} {I : zI} {L : zL}   (hk0 : k_X7_sign I L) : Call l g 1 M_X7_sign [vR 87] I L (zp (some (vI (v_X7_sign I L))) I L) := by
  refine aw_entry (by decide) (Nat.le_of_ble_eq_true rfl) (fun k hk (X : zX k g cX7_sign RX7 1 (some .int) 1) E => ?_)
  show AW k g 1 I L 0 [(0, vR 87)] []
  subst hk
  obtain ⟨n1, n4⟩ := hk0
  have hJ : ∀ w1 : Int32, w1 = (if (I 87 27) < (I 89 ((I 87 26).toNatClampNeg)) then (L 90 (((160 * (I 87 26)) + (I 87 27)).toNatClampNeg)).toInt32 else ((-1) : Int32)) → zp (some (vI (v_X7_sign I L))) I L (some (vI w1)) I L := fun w1 e1 => ⟨by rw [e1]; rfl, rfl, rfl⟩
  refine aw_aload_n X 0 dX7_sign_0 rfl ?_
  refine aw_getI X zf_RX7_134 rfl zs_87 dX7_sign_1 ?_
  refine aw_aload_n X 0 dX7_sign_4 rfl ?_
  refine aw_getR X zf_RX7_13 rfl zs_87 zr_87_1 dX7_sign_5 ?_
  refine aw_aload_n X 0 dX7_sign_8 rfl ?_
  refine aw_getI X zf_RX7_137 rfl zs_87 dX7_sign_9 ?_
  refine aw_ialdj (j := (I 87 26).toNatClampNeg) X zs_89 n1 rfl dX7_sign_12 ?_
  have hJ5 : ∀ (w1 : Int32), w1 = (if (I 87 27) < (I 89 ((I 87 26).toNatClampNeg)) then (L 90 (((160 * (I 87 26)) + (I 87 27)).toNatClampNeg)).toInt32 else ((-1) : Int32)) → AW k g 1 I L 39 [] [vI w1] := by
    intro w1 q1
    subst q1
    exact aw_iret X E rfl dX7_sign_39 (hJ _ rfl)
  refine aw_icmp_gen X 38 dX7_sign_13 rfl (fun c2 => ?_) (fun c2 => ?_)
  · have n3 := (n4 c2)
    refine aw_aload_n X 0 dX7_sign_16 rfl ?_
    refine aw_getR X zf_RX7_16 rfl zs_87 zr_87_2 dX7_sign_17 ?_
    refine aw_sipush (v := 160) X dX7_sign_20 (by decide) ?_
    refine aw_aload_n X 0 dX7_sign_23 rfl ?_
    refine aw_getI X zf_RX7_137 rfl zs_87 dX7_sign_24 ?_
    refine aw_imul X dX7_sign_27 ?_
    refine aw_aload_n X 0 dX7_sign_28 rfl ?_
    refine aw_getI X zf_RX7_134 rfl zs_87 dX7_sign_29 ?_
    refine aw_iadd X dX7_sign_32 ?_
    refine aw_laldj (j := ((160 * (I 87 26)) + (I 87 27)).toNatClampNeg) X zs_90 n3 rfl dX7_sign_33 ?_
    refine aw_l2i X dX7_sign_34 ?_
    refine aw_goto X 39 dX7_sign_35 rfl ?_
    refine aw_perm (ks9 := []) [] rfl ?_
    exact hJ5 _ (if_pos c2).symm
  · refine aw_iconst (v := (-1)) X dX7_sign_38 (by decide) ?_
    refine aw_perm (ks9 := []) [] rfl ?_
    exact hJ5 _ (if_neg c2).symm
set_option maxRecDepth 100000 in
theorem m_X7_is {l : Launch} {g : zG} {Q : Option zv → zI → zL → Prop} {I : zI} {L : zL} {a1 : Int32}  (h : k_X7_sign I L ∧ (if (v_X7_sign I L) = a1 then (Q (some (vI 1)) (zs I 87 27 ((I 87 27) + 1)) L) else (Q (some (vI 0)) I L))) : Call l g 2 M_X7_is [vR 87, vI a1] I L Q := by
  refine aw_entry (by decide) (Nat.le_of_ble_eq_true rfl) (fun k hk (X : zX k g cX7_is RX7 2 (some .boolean) 2) E => ?_)
  show AW k g 2 I L 0 [(0, vR 87), (1, vI a1)] []
  subst hk
  refine aw_aload_n X 0 dX7_is_0 rfl ?_
  have n1 := h.1
  replace h := h.2
  refine aw_pV X (as := []) mf_X7_sign zw_1241 (p_X7_sign n1) zs_87 rfl rfl (by decide) (Nat.le_of_ble_eq_true rfl) dX7_is_1 ?_
  refine aw_iload_n X 1 dX7_is_4 rfl ?_
  refine aw_icmp_eq X 10 dX7_is_5 rfl (fun c2 => ?_) (fun c2 => ?_)
  · replace h := zifp c2 h
    refine aw_aload_n X 0 dX7_is_10 rfl ?_
    refine aw_dup X dX7_is_11 rfl ?_
    refine aw_getI X zf_RX7_134 rfl zs_87 dX7_is_12 ?_
    refine aw_iconst (v := 1) X dX7_is_15 (by decide) ?_
    refine aw_iadd X dX7_is_16 ?_
    refine aw_putI X zf_RX7_134 rfl rfl rfl zs_87 dX7_is_17 ?_
    refine aw_iconst (v := 1) X dX7_is_20 (by decide) ?_
    exact aw_zret X E rfl (Or.inr rfl) dX7_is_21 h
  · replace h := zifn c2 h
    refine aw_iconst (v := 0) X dX7_is_8 (by decide) ?_
    exact aw_zret X E rfl (Or.inl rfl) dX7_is_9 h
set_option maxRecDepth 100000 in
theorem s_X7_number_19 {k : zK} {g : zG} {Q : Option zv → zI → zL → Prop} {I : zI} {L : zL} {y1 : Int32} {y2 : Int32} {y3 : Int32} {y4 : Int32}  (X : zX k g cX7_number RX7 5 (some .boolean) 3) (E : zE k g Q) (h : if ((I 87 27) - y3) < 5 then (k_X7_sign I L ∧ (if (v_X7_sign I L) < 48 then (if (I 87 27) = y3 then (Q (some (vI 0)) I L) else (vp_in y1 3 ∧ ((∀ I6 : zI, I6 = (zs I 103 y1.toNatClampNeg y4) → if y2 < y4 then (Q (some (vI 0)) (zs I6 87 27 y3) L) else (Q (some (vI 1)) I6 L))))) else (k_X7_sign I L ∧ (if 57 < (v_X7_sign I L) then (if (I 87 27) = y3 then (Q (some (vI 0)) I L) else (vp_in y1 3 ∧ ((∀ I12 : zI, I12 = (zs I 103 y1.toNatClampNeg y4) → if y2 < y4 then (Q (some (vI 0)) (zs I12 87 27 y3) L) else (Q (some (vI 1)) I12 L))))) else (k_X7_sign I L ∧ (AW k g 5 (zs I 87 27 ((I 87 27) + 1)) L 19 [(0, vR 87), (1, vI y1), (2, vI y2), (3, vI y3), (4, vI (((10 * y4) + (v_X7_sign I L)) - 48))] [])))))) else (if (I 87 27) = y3 then (Q (some (vI 0)) I L) else (vp_in y1 3 ∧ ((∀ I17 : zI, I17 = (zs I 103 y1.toNatClampNeg y4) → if y2 < y4 then (Q (some (vI 0)) (zs I17 87 27 y3) L) else (Q (some (vI 1)) I17 L)))))) : AW k g 5 I L 19 [(0, vR 87), (1, vI y1), (2, vI y2), (3, vI y3), (4, vI y4)] [] := by
  refine aw_aload_n X 0 dX7_number_19 rfl ?_
  refine aw_getI X zf_RX7_134 rfl zs_87 dX7_number_20 ?_
  refine aw_iload_n X 3 dX7_number_23 rfl ?_
  refine aw_isub X dX7_number_24 ?_
  refine aw_iconst (v := 5) X dX7_number_25 (by decide) ?_
  refine aw_icmp_gen X 75 dX7_number_26 rfl (fun c1 => ?_) (fun c1 => ?_)
  · replace h := zifp c1 h
    refine aw_aload_n X 0 dX7_number_29 rfl ?_
    have n2 := h.1
    replace h := h.2
    refine aw_pV X (as := []) mf_X7_sign zw_1241 (p_X7_sign n2) zs_87 rfl rfl (by decide) (Nat.le_of_ble_eq_true rfl) dX7_number_30 ?_
    refine aw_bipush (v := 48) X dX7_number_33 (by decide) ?_
    refine aw_icmp_lt X 75 dX7_number_35 rfl (fun c3 => ?_) (fun c3 => ?_)
    · replace h := zifp c3 h
      refine aw_aload_n X 0 dX7_number_75 rfl ?_
      refine aw_getI X zf_RX7_134 rfl zs_87 dX7_number_76 ?_
      refine aw_iload_n X 3 dX7_number_79 rfl ?_
      refine aw_icmp_ne X 85 dX7_number_80 rfl (fun c4 => ?_) (fun c4 => ?_)
      · replace h := zifn c4 h
        refine aw_aload_n X 0 dX7_number_85 rfl ?_
        refine aw_getR X zf_RX7_56 rfl zs_87 zr_87_28 dX7_number_86 ?_
        refine aw_iload_n X 1 dX7_number_89 rfl ?_
        refine aw_iload X 4 dX7_number_90 rfl ?_
        have n5 := h.1
        replace h := h.2
        refine aw_iastj (j := y1.toNatClampNeg) X zs_103 n5 rfl dX7_number_92 ?_
        refine aw_iload X 4 dX7_number_93 rfl ?_
        refine aw_iload_n X 2 dX7_number_95 rfl ?_
        refine aw_nameI (fun I6 e6 => ?_)
        replace h := h I6 e6
        refine aw_icmp_gt X 101 dX7_number_96 rfl (fun c7 => ?_) (fun c7 => ?_)
        · replace h := zifp c7 h
          refine aw_aload_n X 0 dX7_number_101 rfl ?_
          refine aw_iload_n X 3 dX7_number_102 rfl ?_
          refine aw_putI X zf_RX7_134 rfl rfl rfl zs_87 dX7_number_103 ?_
          refine aw_iconst (v := 0) X dX7_number_106 (by decide) ?_
          exact aw_zret X E rfl (Or.inl rfl) dX7_number_107 h
        · replace h := zifn c7 h
          refine aw_iconst (v := 1) X dX7_number_99 (by decide) ?_
          exact aw_zret X E rfl (Or.inr rfl) dX7_number_100 h
      · replace h := zifp c4 h
        refine aw_iconst (v := 0) X dX7_number_83 (by decide) ?_
        exact aw_zret X E rfl (Or.inl rfl) dX7_number_84 h
    · replace h := zifn c3 h
      refine aw_aload_n X 0 dX7_number_38 rfl ?_
      have n8 := h.1
      replace h := h.2
      refine aw_pV X (as := []) mf_X7_sign zw_1241 (p_X7_sign n8) zs_87 rfl rfl (by decide) (Nat.le_of_ble_eq_true rfl) dX7_number_39 ?_
      refine aw_bipush (v := 57) X dX7_number_42 (by decide) ?_
      refine aw_icmp_gt X 75 dX7_number_44 rfl (fun c9 => ?_) (fun c9 => ?_)
      · replace h := zifp c9 h
        refine aw_aload_n X 0 dX7_number_75 rfl ?_
        refine aw_getI X zf_RX7_134 rfl zs_87 dX7_number_76 ?_
        refine aw_iload_n X 3 dX7_number_79 rfl ?_
        refine aw_icmp_ne X 85 dX7_number_80 rfl (fun c10 => ?_) (fun c10 => ?_)
        · replace h := zifn c10 h
          refine aw_aload_n X 0 dX7_number_85 rfl ?_
          refine aw_getR X zf_RX7_56 rfl zs_87 zr_87_28 dX7_number_86 ?_
          refine aw_iload_n X 1 dX7_number_89 rfl ?_
          refine aw_iload X 4 dX7_number_90 rfl ?_
          have n11 := h.1
          replace h := h.2
          refine aw_iastj (j := y1.toNatClampNeg) X zs_103 n11 rfl dX7_number_92 ?_
          refine aw_iload X 4 dX7_number_93 rfl ?_
          refine aw_iload_n X 2 dX7_number_95 rfl ?_
          refine aw_nameI (fun I12 e12 => ?_)
          replace h := h I12 e12
          refine aw_icmp_gt X 101 dX7_number_96 rfl (fun c13 => ?_) (fun c13 => ?_)
          · replace h := zifp c13 h
            refine aw_aload_n X 0 dX7_number_101 rfl ?_
            refine aw_iload_n X 3 dX7_number_102 rfl ?_
            refine aw_putI X zf_RX7_134 rfl rfl rfl zs_87 dX7_number_103 ?_
            refine aw_iconst (v := 0) X dX7_number_106 (by decide) ?_
            exact aw_zret X E rfl (Or.inl rfl) dX7_number_107 h
          · replace h := zifn c13 h
            refine aw_iconst (v := 1) X dX7_number_99 (by decide) ?_
            exact aw_zret X E rfl (Or.inr rfl) dX7_number_100 h
        · replace h := zifp c10 h
          refine aw_iconst (v := 0) X dX7_number_83 (by decide) ?_
          exact aw_zret X E rfl (Or.inl rfl) dX7_number_84 h
      · replace h := zifn c9 h
        refine aw_bipush (v := 10) X dX7_number_47 (by decide) ?_
        refine aw_iload X 4 dX7_number_49 rfl ?_
        refine aw_imul X dX7_number_51 ?_
        refine aw_aload_n X 0 dX7_number_52 rfl ?_
        have n14 := h.1
        replace h := h.2
        refine aw_pV X (as := []) mf_X7_sign zw_1241 (p_X7_sign n14) zs_87 rfl rfl (by decide) (Nat.le_of_ble_eq_true rfl) dX7_number_53 ?_
        refine aw_iadd X dX7_number_56 ?_
        refine aw_bipush (v := 48) X dX7_number_57 (by decide) ?_
        refine aw_isub X dX7_number_59 ?_
        refine aw_istore X dX7_number_60 (by decide) rfl ?_
        refine aw_aload_n X 1 dX7_number_62 rfl ?_
        refine aw_dup X dX7_number_63 rfl ?_
        refine aw_getI X zf_RX7_134 rfl zs_87 dX7_number_64 ?_
        refine aw_iconst (v := 1) X dX7_number_67 (by decide) ?_
        refine aw_iadd X dX7_number_68 ?_
        refine aw_putI X zf_RX7_134 rfl rfl rfl zs_87 dX7_number_69 ?_
        refine aw_goto X 19 dX7_number_72 rfl ?_
        refine aw_perm (ks9 := [(0, vR 87), (1, vI y1), (2, vI y2), (3, vI y3), (4, vI (((10 * y4) + (v_X7_sign I L)) - 48))]) [1, 2, 3, 4, 0] rfl ?_
        exact h
  · replace h := zifn c1 h
    refine aw_aload_n X 0 dX7_number_75 rfl ?_
    refine aw_getI X zf_RX7_134 rfl zs_87 dX7_number_76 ?_
    refine aw_iload_n X 3 dX7_number_79 rfl ?_
    refine aw_icmp_ne X 85 dX7_number_80 rfl (fun c15 => ?_) (fun c15 => ?_)
    · replace h := zifn c15 h
      refine aw_aload_n X 0 dX7_number_85 rfl ?_
      refine aw_getR X zf_RX7_56 rfl zs_87 zr_87_28 dX7_number_86 ?_
      refine aw_iload_n X 1 dX7_number_89 rfl ?_
      refine aw_iload X 4 dX7_number_90 rfl ?_
      have n16 := h.1
      replace h := h.2
      refine aw_iastj (j := y1.toNatClampNeg) X zs_103 n16 rfl dX7_number_92 ?_
      refine aw_iload X 4 dX7_number_93 rfl ?_
      refine aw_iload_n X 2 dX7_number_95 rfl ?_
      refine aw_nameI (fun I17 e17 => ?_)
      replace h := h I17 e17
      refine aw_icmp_gt X 101 dX7_number_96 rfl (fun c18 => ?_) (fun c18 => ?_)
      · replace h := zifp c18 h
        refine aw_aload_n X 0 dX7_number_101 rfl ?_
        refine aw_iload_n X 3 dX7_number_102 rfl ?_
        refine aw_putI X zf_RX7_134 rfl rfl rfl zs_87 dX7_number_103 ?_
        refine aw_iconst (v := 0) X dX7_number_106 (by decide) ?_
        exact aw_zret X E rfl (Or.inl rfl) dX7_number_107 h
      · replace h := zifn c18 h
        refine aw_iconst (v := 1) X dX7_number_99 (by decide) ?_
        exact aw_zret X E rfl (Or.inr rfl) dX7_number_100 h
    · replace h := zifp c15 h
      refine aw_iconst (v := 0) X dX7_number_83 (by decide) ?_
      exact aw_zret X E rfl (Or.inl rfl) dX7_number_84 h
set_option maxRecDepth 100000 in
theorem m_X7_number {l : Launch} {g : zG} {Q : Option zv → zI → zL → Prop} {I : zI} {L : zL} {a1 : Int32} {a2 : Int32}  (h : ∀ k : zK, kl k = l → zX k g cX7_number RX7 5 (some .boolean) 3 → zE k g Q → (Call (kl k) g 2 M_X7_is [vR 87, vI 32] I L (zi fun r1 I1 L1 => if r1 = 0 then (Q (some (vI 0)) I1 L1) else (AW k g 5 I1 L1 19 [(0, vR 87), (1, vI a1), (2, vI a2), (3, vI (I1 87 27)), (4, vI 0)] [])))) : Call l g 3 M_X7_number [vR 87, vI a1, vI a2] I L Q := by
  refine aw_entry (by decide) (Nat.le_of_ble_eq_true rfl) (fun k hk (X : zX k g cX7_number RX7 5 (some .boolean) 3) E => ?_)
  show AW k g 5 I L 0 [(0, vR 87), (1, vI a1), (2, vI a2)] []
  replace h := h k hk X E
  subst hk
  refine aw_aload_n X 0 dX7_number_0 rfl ?_
  refine aw_bipush (v := 32) X dX7_number_1 (by decide) ?_
  refine aw_callV X (as := [vI 32]) mf_X7_is zw_1256 h zs_87 rfl rfl (by decide) (Nat.le_of_ble_eq_true rfl) dX7_number_3 (fun v I1 L1 h => ?_)
  obtain ⟨r1, rfl, h⟩ := h
  refine aw_if_ne X 11 dX7_number_6 rfl (fun c2 => ?_) (fun c2 => ?_)
  · replace h := zifn c2 h
    refine aw_aload_n X 0 dX7_number_11 rfl ?_
    refine aw_getI X zf_RX7_134 rfl zs_87 dX7_number_12 ?_
    refine aw_istore_n X dX7_number_15 (by decide) rfl ?_
    refine aw_iconst (v := 0) X dX7_number_16 (by decide) ?_
    refine aw_istore X dX7_number_17 (by decide) rfl ?_
    refine aw_perm (ks9 := [(0, vR 87), (1, vI a1), (2, vI a2), (3, vI (I1 87 27)), (4, vI 0)]) [2, 3, 4, 1, 0] rfl ?_
    exact h
  · replace h := zifp c2 h
    refine aw_iconst (v := 0) X dX7_number_9 (by decide) ?_
    exact aw_zret X E rfl (Or.inl rfl) dX7_number_10 h
set_option maxRecDepth 100000 in
theorem s_X7_pane_112 {k : zK} {g : zG} {Q : Option zv → zI → zL → Prop} {I : zI} {L : zL} {y4 : Int32}  (X : zX k g cX7_pane RX7 5 (some .int) 2) (E : zE k g Q) (h : if y4 < 16 then (vp_in ((16 * (I 87 5)) + y4) 128 ∧ (AW k g 5 (zs I 97 (((16 * (I 87 5)) + y4).toNatClampNeg) 0) L 112 [(0, vR 87), (4, vI (y4 + 1))] [])) else (Q (some (vI (I 87 5))) (zs I 87 5 ((I 87 5) + 1)) L)) : AW k g 5 I L 112 [(0, vR 87), (4, vI y4)] [] := by
  refine aw_iload X 1 dX7_pane_112 rfl ?_
  refine aw_bipush (v := 16) X dX7_pane_114 (by decide) ?_
  refine aw_icmp_gen X 141 dX7_pane_116 rfl (fun c1 => ?_) (fun c1 => ?_)
  · replace h := zifp c1 h
    refine aw_aload_n X 0 dX7_pane_119 rfl ?_
    refine aw_getR X zf_RX7_38 rfl zs_87 zr_87_11 dX7_pane_120 ?_
    refine aw_bipush (v := 16) X dX7_pane_123 (by decide) ?_
    refine aw_aload_n X 0 dX7_pane_125 rfl ?_
    refine aw_getI X zf_RX7_84 rfl zs_87 dX7_pane_126 ?_
    refine aw_imul X dX7_pane_129 ?_
    refine aw_iload X 1 dX7_pane_130 rfl ?_
    refine aw_iadd X dX7_pane_132 ?_
    refine aw_iconst (v := 0) X dX7_pane_133 (by decide) ?_
    have n2 := h.1
    replace h := h.2
    refine aw_iastj (j := ((16 * (I 87 5)) + y4).toNatClampNeg) X zs_97 n2 rfl dX7_pane_134 ?_
    refine aw_iinc (v := y4 + 1) X 1 dX7_pane_135 rfl rfl (by decide) rfl ?_
    refine aw_goto X 112 dX7_pane_138 rfl ?_
    refine aw_perm (ks9 := [(0, vR 87), (4, vI (y4 + 1))]) [1, 0] rfl ?_
    exact h
  · replace h := zifn c1 h
    refine aw_aload_n X 0 dX7_pane_141 rfl ?_
    refine aw_dup X dX7_pane_142 rfl ?_
    refine aw_getI X zf_RX7_84 rfl zs_87 dX7_pane_143 ?_
    refine aw_dup_x1 X dX7_pane_146 rfl rfl ?_
    refine aw_iconst (v := 1) X dX7_pane_147 (by decide) ?_
    refine aw_iadd X dX7_pane_148 ?_
    refine aw_putI X zf_RX7_84 rfl rfl rfl zs_87 dX7_pane_149 ?_
    exact aw_iret X E rfl dX7_pane_152 h
set_option maxRecDepth 100000 in
theorem m_X7_pane {l : Launch} {g : zG} {Q : Option zv → zI → zL → Prop} {I : zI} {L : zL} {a1 : Int32} {a2 : Int32} {a3 : Int32}  (h : ∀ k : zK, kl k = l → zX k g cX7_pane RX7 5 (some .int) 2 → zE k g Q → (if (v_X7_within a1 0 6) = 0 then (Call (kl k) g 1 M_X7_no [vR 87, vI (-1)] I L (zi fun r17 I17 L17 => Q (some (vI r17)) I17 L17)) else (if (v_X7_within a2 0 9) = 0 then (Call (kl k) g 1 M_X7_no [vR 87, vI (-6)] I L (zi fun r3 I3 L3 => Q (some (vI r3)) I3 L3)) else (if (v_X7_within a3 0 9) = 0 then (Call (kl k) g 1 M_X7_no [vR 87, vI (-6)] I L (zi fun r16 I16 L16 => Q (some (vI r16)) I16 L16)) else (if (I 87 5) = 8 then (Call (kl k) g 1 M_X7_no [vR 87, vI (-7)] I L (zi fun r15 I15 L15 => Q (some (vI r15)) I15 L15)) else (vp_in (I 87 5) 8 ∧ ((∀ I7 : zI, I7 = (zs I 92 ((I 87 5).toNatClampNeg) a1) → vp_in (I7 87 5) 8 ∧ ((∀ I9 : zI, I9 = (zs I7 93 ((I7 87 5).toNatClampNeg) a2) → vp_in (I9 87 5) 8 ∧ ((∀ I11 : zI, I11 = (zs I9 94 ((I9 87 5).toNatClampNeg) a3) → vp_in (I11 87 5) 8 ∧ ((∀ I13 : zI, I13 = (zs I11 95 ((I11 87 5).toNatClampNeg) (-1)) → vp_in (I13 87 5) 8 ∧ (AW k g 5 (zs I13 96 ((I13 87 5).toNatClampNeg) 0) L 112 [(0, vR 87), (4, vI 0)] []))))))))))))))) : Call l g 2 M_X7_pane [vR 87, vI a1, vI a2, vI a3] I L Q := by
  refine aw_entry (by decide) (Nat.le_of_ble_eq_true rfl) (fun k hk (X : zX k g cX7_pane RX7 5 (some .int) 2) E => ?_)
  show AW k g 5 I L 0 [(0, vR 87), (1, vI a1), (2, vI a2), (3, vI a3)] []
  replace h := h k hk X E
  subst hk
  refine aw_iload_n X 1 dX7_pane_0 rfl ?_
  refine aw_iconst (v := 0) X dX7_pane_1 (by decide) ?_
  refine aw_bipush (v := 6) X dX7_pane_2 (by decide) ?_
  refine aw_pS X (as := [vI a1, vI 0, vI 6]) mf_X7_within zw_1134 (p_X7_within) rfl rfl (by decide) (Nat.le_of_ble_eq_true rfl) dX7_pane_4 ?_
  refine aw_if_ne X 16 dX7_pane_7 rfl (fun c1 => ?_) (fun c1 => ?_)
  · replace h := zifn c1 h
    refine aw_iload_n X 2 dX7_pane_16 rfl ?_
    refine aw_iconst (v := 0) X dX7_pane_17 (by decide) ?_
    refine aw_bipush (v := 9) X dX7_pane_18 (by decide) ?_
    refine aw_pS X (as := [vI a2, vI 0, vI 9]) mf_X7_within zw_1134 (p_X7_within) rfl rfl (by decide) (Nat.le_of_ble_eq_true rfl) dX7_pane_20 ?_
    refine aw_if_eq X 36 dX7_pane_23 rfl (fun c2 => ?_) (fun c2 => ?_)
    · replace h := zifp c2 h
      refine aw_aload_n X 0 dX7_pane_36 rfl ?_
      refine aw_bipush (v := (-6)) X dX7_pane_37 (by decide) ?_
      refine aw_callV X (as := [vI (-6)]) mf_X7_no zw_1137 h zs_87 rfl rfl (by decide) (Nat.le_of_ble_eq_true rfl) dX7_pane_39 (fun v I3 L3 h => ?_)
      obtain ⟨r3, rfl, h⟩ := h
      exact aw_iret X E rfl dX7_pane_42 h
    · replace h := zifn c2 h
      refine aw_iload_n X 3 dX7_pane_26 rfl ?_
      refine aw_iconst (v := 0) X dX7_pane_27 (by decide) ?_
      refine aw_bipush (v := 9) X dX7_pane_28 (by decide) ?_
      refine aw_pS X (as := [vI a3, vI 0, vI 9]) mf_X7_within zw_1134 (p_X7_within) rfl rfl (by decide) (Nat.le_of_ble_eq_true rfl) dX7_pane_30 ?_
      refine aw_if_ne X 43 dX7_pane_33 rfl (fun c4 => ?_) (fun c4 => ?_)
      · replace h := zifn c4 h
        refine aw_aload_n X 0 dX7_pane_43 rfl ?_
        refine aw_getI X zf_RX7_84 rfl zs_87 dX7_pane_44 ?_
        refine aw_bipush (v := 8) X dX7_pane_47 (by decide) ?_
        refine aw_icmp_ne X 59 dX7_pane_49 rfl (fun c5 => ?_) (fun c5 => ?_)
        · replace h := zifn c5 h
          refine aw_aload_n X 0 dX7_pane_59 rfl ?_
          refine aw_getR X zf_RX7_23 rfl zs_87 zr_87_6 dX7_pane_60 ?_
          refine aw_aload_n X 0 dX7_pane_63 rfl ?_
          refine aw_getI X zf_RX7_84 rfl zs_87 dX7_pane_64 ?_
          refine aw_iload_n X 1 dX7_pane_67 rfl ?_
          have n6 := h.1
          replace h := h.2
          refine aw_iastj (j := (I 87 5).toNatClampNeg) X zs_92 n6 rfl dX7_pane_68 ?_
          refine aw_aload_n X 0 dX7_pane_69 rfl ?_
          refine aw_nameI (fun I7 e7 => ?_)
          replace h := h I7 e7
          refine aw_getR X zf_RX7_26 rfl zs_87 zr_87_7 dX7_pane_70 ?_
          refine aw_aload_n X 0 dX7_pane_73 rfl ?_
          refine aw_getI X zf_RX7_84 rfl zs_87 dX7_pane_74 ?_
          refine aw_iload_n X 2 dX7_pane_77 rfl ?_
          have n8 := h.1
          replace h := h.2
          refine aw_iastj (j := (I7 87 5).toNatClampNeg) X zs_93 n8 rfl dX7_pane_78 ?_
          refine aw_aload_n X 0 dX7_pane_79 rfl ?_
          refine aw_nameI (fun I9 e9 => ?_)
          replace h := h I9 e9
          refine aw_getR X zf_RX7_29 rfl zs_87 zr_87_8 dX7_pane_80 ?_
          refine aw_aload_n X 0 dX7_pane_83 rfl ?_
          refine aw_getI X zf_RX7_84 rfl zs_87 dX7_pane_84 ?_
          refine aw_iload_n X 3 dX7_pane_87 rfl ?_
          have n10 := h.1
          replace h := h.2
          refine aw_iastj (j := (I9 87 5).toNatClampNeg) X zs_94 n10 rfl dX7_pane_88 ?_
          refine aw_aload_n X 0 dX7_pane_89 rfl ?_
          refine aw_nameI (fun I11 e11 => ?_)
          replace h := h I11 e11
          refine aw_getR X zf_RX7_32 rfl zs_87 zr_87_9 dX7_pane_90 ?_
          refine aw_aload_n X 0 dX7_pane_93 rfl ?_
          refine aw_getI X zf_RX7_84 rfl zs_87 dX7_pane_94 ?_
          refine aw_iconst (v := (-1)) X dX7_pane_97 (by decide) ?_
          have n12 := h.1
          replace h := h.2
          refine aw_iastj (j := (I11 87 5).toNatClampNeg) X zs_95 n12 rfl dX7_pane_98 ?_
          refine aw_aload_n X 0 dX7_pane_99 rfl ?_
          refine aw_nameI (fun I13 e13 => ?_)
          replace h := h I13 e13
          refine aw_getR X zf_RX7_35 rfl zs_87 zr_87_10 dX7_pane_100 ?_
          refine aw_aload_n X 0 dX7_pane_103 rfl ?_
          refine aw_getI X zf_RX7_84 rfl zs_87 dX7_pane_104 ?_
          refine aw_iconst (v := 0) X dX7_pane_107 (by decide) ?_
          have n14 := h.1
          replace h := h.2
          refine aw_iastj (j := (I13 87 5).toNatClampNeg) X zs_96 n14 rfl dX7_pane_108 ?_
          refine aw_iconst (v := 0) X dX7_pane_109 (by decide) ?_
          refine aw_istore X dX7_pane_110 (by decide) rfl ?_
          refine aw_perm (ks9 := [(0, vR 87), (4, vI 0)]) [1, 0] rfl ?_
          exact h
        · replace h := zifp c5 h
          refine aw_aload_n X 0 dX7_pane_52 rfl ?_
          refine aw_bipush (v := (-7)) X dX7_pane_53 (by decide) ?_
          refine aw_callV X (as := [vI (-7)]) mf_X7_no zw_1137 h zs_87 rfl rfl (by decide) (Nat.le_of_ble_eq_true rfl) dX7_pane_55 (fun v I15 L15 h => ?_)
          obtain ⟨r15, rfl, h⟩ := h
          exact aw_iret X E rfl dX7_pane_58 h
      · replace h := zifp c4 h
        refine aw_aload_n X 0 dX7_pane_36 rfl ?_
        refine aw_bipush (v := (-6)) X dX7_pane_37 (by decide) ?_
        refine aw_callV X (as := [vI (-6)]) mf_X7_no zw_1137 h zs_87 rfl rfl (by decide) (Nat.le_of_ble_eq_true rfl) dX7_pane_39 (fun v I16 L16 h => ?_)
        obtain ⟨r16, rfl, h⟩ := h
        exact aw_iret X E rfl dX7_pane_42 h
  · replace h := zifp c1 h
    refine aw_aload_n X 0 dX7_pane_10 rfl ?_
    refine aw_iconst (v := (-1)) X dX7_pane_11 (by decide) ?_
    refine aw_callV X (as := [vI (-1)]) mf_X7_no zw_1137 h zs_87 rfl rfl (by decide) (Nat.le_of_ble_eq_true rfl) dX7_pane_12 (fun v I17 L17 h => ?_)
    obtain ⟨r17, rfl, h⟩ := h
    exact aw_iret X E rfl dX7_pane_15 h
set_option maxRecDepth 100000 in
theorem s_X7_word_2 {k : zK} {g : zG} {Q : Option zv → zI → zL → Prop} {I : zI} {L : zL} {y1 : Nat} {y2 : Int32}  (X : zX k g cX7_word RX7 3 (some .boolean) 8) (E : zE k g Q) (h : zstr6 y1 ∧ (if y2 < (zsln y1) then (zsin y1 y2 ∧ (Call (kl k) g 2 M_X7_is [vR 87, vI (zsch y1 y2)] I L (zi fun r4 I4 L4 => if r4 = 0 then (Q (some (vI 0)) I4 L4) else (AW k g 3 I4 L4 2 [(0, vR 87), (1, vR y1), (2, vI (y2 + 1))] [])))) else (Q (some (vI 1)) I L))) : AW k g 3 I L 2 [(0, vR 87), (1, vR y1), (2, vI y2)] [] := by
  refine aw_iload_n X 2 dX7_word_2 rfl ?_
  refine aw_aload_n X 1 dX7_word_3 rfl ?_
  have n1 := h.1
  replace h := h.2
  refine aw_strlen X (by decide) (Nat.le_of_ble_eq_true rfl) zw_1254 n1 dX7_word_4 ?_
  refine aw_icmp_gen X 30 dX7_word_7 rfl (fun c2 => ?_) (fun c2 => ?_)
  · replace h := zifp c2 h
    refine aw_aload_n X 0 dX7_word_10 rfl ?_
    refine aw_aload_n X 1 dX7_word_11 rfl ?_
    refine aw_iload_n X 2 dX7_word_12 rfl ?_
    have n3 := h.1
    replace h := h.2
    refine aw_strchar X (by decide) (Nat.le_of_ble_eq_true rfl) zw_1255 n1 n3 dX7_word_13 ?_
    refine aw_callV X (as := [vI (zsch y1 y2)]) mf_X7_is zw_1256 h zs_87 rfl rfl (by decide) (Nat.le_of_ble_eq_true rfl) dX7_word_16 (fun v I4 L4 h => ?_)
    obtain ⟨r4, rfl, h⟩ := h
    refine aw_if_ne X 24 dX7_word_19 rfl (fun c5 => ?_) (fun c5 => ?_)
    · replace h := zifn c5 h
      refine aw_iinc (v := y2 + 1) X 2 dX7_word_24 rfl rfl (by decide) rfl ?_
      refine aw_goto X 2 dX7_word_27 rfl ?_
      refine aw_perm (ks9 := [(0, vR 87), (1, vR y1), (2, vI (y2 + 1))]) [1, 2, 0] rfl ?_
      exact h
    · replace h := zifp c5 h
      refine aw_iconst (v := 0) X dX7_word_22 (by decide) ?_
      exact aw_zret X E rfl (Or.inl rfl) dX7_word_23 h
  · replace h := zifn c2 h
    refine aw_iconst (v := 1) X dX7_word_30 (by decide) ?_
    exact aw_zret X E rfl (Or.inr rfl) dX7_word_31 h
set_option maxRecDepth 100000 in
theorem m_X7_word {l : Launch} {g : zG} {Q : Option zv → zI → zL → Prop} {I : zI} {L : zL} {a1 : Nat}  (h : ∀ k : zK, kl k = l → zX k g cX7_word RX7 3 (some .boolean) 8 → zE k g Q → (AW k g 3 I L 2 [(0, vR 87), (1, vR a1), (2, vI 0)] [])) : Call l g 8 M_X7_word [vR 87, vR a1] I L Q := by
  refine aw_entry (by decide) (Nat.le_of_ble_eq_true rfl) (fun k hk (X : zX k g cX7_word RX7 3 (some .boolean) 8) E => ?_)
  show AW k g 3 I L 0 [(0, vR 87), (1, vR a1)] []
  replace h := h k hk X E
  subst hk
  refine aw_iconst (v := 0) X dX7_word_0 (by decide) ?_
  refine aw_istore_n X dX7_word_1 (by decide) rfl ?_
  refine aw_perm (ks9 := [(0, vR 87), (1, vR a1), (2, vI 0)]) [1, 2, 0] rfl ?_
  exact h
set_option maxRecDepth 100000 in
theorem m_X7_word_ {l : Launch} {g : zG} {Q : Option zv → zI → zL → Prop} {I : zI} {L : zL} {a1 : Nat} {a2 : Int32}  (h : Call l g 8 M_X7_word [vR 87, vR a1] I L (zi fun r1 I1 L1 => if r1 = 0 then (Q (some (vI (if r1 = 0 then 0 else if a2 = 0 then 0 else (1 : Int32)))) I1 L1) else (if a2 = 0 then ((∀ I10 : zI, I10 = (zs I1 87 27 (I 87 27)) → Q (some (vI (if r1 = 0 then 0 else if a2 = 0 then 0 else (1 : Int32)))) I10 L1)) else (Q (some (vI (if r1 = 0 then 0 else if a2 = 0 then 0 else (1 : Int32)))) I1 L1)))) : Call l g 9 M_X7_word_ [vR 87, vR a1, vI a2] I L Q := by
  refine aw_entry (by decide) (Nat.le_of_ble_eq_true rfl) (fun k hk (X : zX k g cX7_word_ RX7 5 (some .boolean) 9) E => ?_)
  show AW k g 5 I L 0 [(0, vR 87), (1, vR a1), (2, vI a2)] []
  subst hk
  refine aw_aload_n X 0 dX7_word__0 rfl ?_
  refine aw_getI X zf_RX7_134 rfl zs_87 dX7_word__1 ?_
  refine aw_istore_n X dX7_word__4 (by decide) rfl ?_
  refine aw_aload_n X 1 dX7_word__5 rfl ?_
  refine aw_aload_n X 2 dX7_word__6 rfl ?_
  refine aw_callV X (as := [vR a1]) mf_X7_word zw_1250 h zs_87 rfl rfl (by decide) (Nat.le_of_ble_eq_true rfl) dX7_word__7 (fun v I1 L1 h => ?_)
  obtain ⟨r1, rfl, h⟩ := h
  refine aw_istore X dX7_word__10 (by decide) rfl ?_
  refine aw_iload X 0 dX7_word__12 rfl ?_
  refine aw_if_eq X 26 dX7_word__14 rfl (fun c2 => ?_) (fun c2 => ?_)
  · replace h := zifp c2 h
    refine aw_iload X 0 dX7_word__26 rfl ?_
    have hJ5 : ∀ (w1 : Int32), w1 = (if r1 = 0 then 0 else if a2 = 0 then 0 else (1 : Int32)) → AW k g 5 I1 L1 40 [] [vI w1] := by
      intro w1 q1
      subst q1
      exact aw_zret X E rfl (by (repeat' split) <;> first | exact Or.inl rfl | exact Or.inr rfl) dX7_word__40 h
    refine aw_if_eq X 39 dX7_word__28 rfl (fun c3 => ?_) (fun c3 => ?_)
    · refine aw_iconst (v := 0) X dX7_word__39 (by decide) ?_
      refine aw_perm (ks9 := []) [] rfl ?_
      exact hJ5 _ (if_pos c3).symm
    · refine aw_iload_n X 4 dX7_word__31 rfl ?_
      refine aw_if_eq X 39 dX7_word__32 rfl (fun c4 => ?_) (fun c4 => ?_)
      · refine aw_iconst (v := 0) X dX7_word__39 (by decide) ?_
        refine aw_perm (ks9 := []) [] rfl ?_
        exact hJ5 _ ((if_pos c4).symm.trans (if_neg c3).symm)
      · refine aw_iconst (v := 1) X dX7_word__35 (by decide) ?_
        refine aw_goto X 40 dX7_word__36 rfl ?_
        refine aw_perm (ks9 := []) [] rfl ?_
        exact hJ5 _ ((if_neg c4).symm.trans (if_neg c3).symm)
  · replace h := zifn c2 h
    refine aw_iload_n X 4 dX7_word__17 rfl ?_
    refine aw_if_ne X 26 dX7_word__18 rfl (fun c6 => ?_) (fun c6 => ?_)
    · replace h := zifn c6 h
      refine aw_iload X 0 dX7_word__26 rfl ?_
      have hJ9 : ∀ (w1 : Int32), w1 = (if r1 = 0 then 0 else if a2 = 0 then 0 else (1 : Int32)) → AW k g 5 I1 L1 40 [] [vI w1] := by
        intro w1 q1
        subst q1
        exact aw_zret X E rfl (by (repeat' split) <;> first | exact Or.inl rfl | exact Or.inr rfl) dX7_word__40 h
      refine aw_if_eq X 39 dX7_word__28 rfl (fun c7 => ?_) (fun c7 => ?_)
      · refine aw_iconst (v := 0) X dX7_word__39 (by decide) ?_
        refine aw_perm (ks9 := []) [] rfl ?_
        exact hJ9 _ (if_pos c7).symm
      · refine aw_iload_n X 4 dX7_word__31 rfl ?_
        refine aw_if_eq X 39 dX7_word__32 rfl (fun c8 => ?_) (fun c8 => ?_)
        · refine aw_iconst (v := 0) X dX7_word__39 (by decide) ?_
          refine aw_perm (ks9 := []) [] rfl ?_
          exact hJ9 _ ((if_pos c8).symm.trans (if_neg c7).symm)
        · refine aw_iconst (v := 1) X dX7_word__35 (by decide) ?_
          refine aw_goto X 40 dX7_word__36 rfl ?_
          refine aw_perm (ks9 := []) [] rfl ?_
          exact hJ9 _ ((if_neg c8).symm.trans (if_neg c7).symm)
    · replace h := zifp c6 h
      refine aw_aload_n X 2 dX7_word__21 rfl ?_
      refine aw_iload_n X 1 dX7_word__22 rfl ?_
      refine aw_putI X zf_RX7_134 rfl rfl rfl zs_87 dX7_word__23 ?_
      refine aw_iload X 0 dX7_word__26 rfl ?_
      refine aw_nameI (fun I10 e10 => ?_)
      replace h := h I10 e10
      have hJ13 : ∀ (w1 : Int32), w1 = (if r1 = 0 then 0 else if a2 = 0 then 0 else (1 : Int32)) → AW k g 5 I10 L1 40 [] [vI w1] := by
        intro w1 q1
        subst q1
        exact aw_zret X E rfl (by (repeat' split) <;> first | exact Or.inl rfl | exact Or.inr rfl) dX7_word__40 h
      refine aw_if_eq X 39 dX7_word__28 rfl (fun c11 => ?_) (fun c11 => ?_)
      · refine aw_iconst (v := 0) X dX7_word__39 (by decide) ?_
        refine aw_perm (ks9 := []) [] rfl ?_
        exact hJ13 _ (if_pos c11).symm
      · refine aw_iload_n X 4 dX7_word__31 rfl ?_
        refine aw_if_eq X 39 dX7_word__32 rfl (fun c12 => ?_) (fun c12 => ?_)
        · refine aw_iconst (v := 0) X dX7_word__39 (by decide) ?_
          refine aw_perm (ks9 := []) [] rfl ?_
          exact hJ13 _ ((if_pos c12).symm.trans (if_neg c11).symm)
        · refine aw_iconst (v := 1) X dX7_word__35 (by decide) ?_
          refine aw_goto X 40 dX7_word__36 rfl ?_
          refine aw_perm (ks9 := []) [] rfl ?_
          exact hJ13 _ ((if_neg c12).symm.trans (if_neg c11).symm)
set_option maxRecDepth 100000 in
theorem m_X7_item {l : Launch} {g : zG} {Q : Option zv → zI → zL → Prop} {I : zI} {L : zL}   (h : k_X7_sign I L ∧ (if (v_X7_sign I L) = 99 then (Call l g 8 M_X7_word [vR 87, vR (2000 + 3)] I L (zi fun r4 I4 L4 => if r4 = 0 then (Q (some (vI 0)) I4 L4) else (Call l g 3 M_X7_number [vR 87, vI 0, vI 40] I4 L4 (zi fun r6 I6 L6 => if r6 = 0 then (Q (some (vI 0)) I6 L6) else (Q (some (vI 1)) (zs I6 87 12 (I6 103 0)) L6))))) else if (v_X7_sign I L) = 102 then (Call l g 9 M_X7_word_ [vR 87, vR (2000 + 0), vI (if (I 87 3) < 8 then 1 else (0 : Int32))] I L (zi fun r11 I11 L11 => if r11 = 0 then (Q (some (vI 0)) I11 L11) else (Call l g 3 M_X7_number [vR 87, vI 0, vI 65535] I11 L11 (zi fun r13 I13 L13 => if r13 = 0 then (Q (some (vI 0)) I13 L13) else ((∀ I15 : zI, I15 = (zs I13 87 3 ((I13 87 3) + 1)) → vp_in (I13 87 3) 8 ∧ (Q (some (vI 1)) (zs I15 91 ((I13 87 3).toNatClampNeg) (I15 103 0)) L13))))))) else if (v_X7_sign I L) = 104 then (Call l g 8 M_X7_word [vR 87, vR (2000 + 2)] I L (zi fun r18 I18 L18 => if r18 = 0 then (Q (some (vI 0)) I18 L18) else (Call l g 3 M_X7_number [vR 87, vI 0, vI ((I18 87 5) - 1)] I18 L18 (zi fun r20 I20 L20 => if r20 = 0 then (Q (some (vI 0)) I20 L20) else (Call l g 3 M_X7_number [vR 87, vI 1, vI ((I20 87 3) - 1)] I20 L20 (zi fun r22 I22 L22 => if r22 = 0 then (Q (some (vI 0)) I22 L22) else (vp_in (I22 103 0) 8 ∧ (Q (some (vI 1)) (zs I22 95 ((I22 103 0).toNatClampNeg) (I22 103 1)) L22)))))))) else if (v_X7_sign I L) = 111 then (Call l g 8 M_X7_word [vR 87, vR (2000 + 5)] I L (zi fun r26 I26 L26 => if r26 = 0 then (Q (some (vI 0)) I26 L26) else (Call l g 3 M_X7_number [vR 87, vI 0, vI 9] I26 L26 (zi fun r28 I28 L28 => if r28 = 0 then (Q (some (vI 0)) I28 L28) else (Q (some (vI 1)) (zs I28 87 14 (I28 103 0)) L28))))) else if (v_X7_sign I L) = 112 then (Call l g 9 M_X7_word_ [vR 87, vR (2000 + 1), vI (if (I 87 5) < 8 then 1 else (0 : Int32))] I L (zi fun r33 I33 L33 => if r33 = 0 then (Q (some (vI 0)) I33 L33) else (Call l g 3 M_X7_number [vR 87, vI 0, vI 6] I33 L33 (zi fun r35 I35 L35 => if r35 = 0 then (Q (some (vI 0)) I35 L35) else (Call l g 3 M_X7_number [vR 87, vI 1, vI 9] I35 L35 (zi fun r37 I37 L37 => if r37 = 0 then (Q (some (vI 0)) I37 L37) else (Call l g 3 M_X7_number [vR 87, vI 2, vI 9] I37 L37 (zi fun r39 I39 L39 => if r39 = 0 then (Q (some (vI 0)) I39 L39) else (Call l g 2 M_X7_pane [vR 87, vI (I39 103 0), vI (I39 103 1), vI (I39 103 2)] I39 L39 (zi fun r41 I41 L41 => Q (some (vI 1)) I41 L41)))))))))) else if (v_X7_sign I L) = 119 then (Call l g 8 M_X7_word [vR 87, vR (2000 + 4)] I L (zi fun r43 I43 L43 => if r43 = 0 then (Q (some (vI 0)) I43 L43) else (Call l g 3 M_X7_number [vR 87, vI 0, vI 9] I43 L43 (zi fun r45 I45 L45 => if r45 = 0 then (Q (some (vI 0)) I45 L45) else (Q (some (vI 1)) (zs I45 87 13 (I45 103 0)) L45))))) else (Q (some (vI 0)) I L))) : Call l g 10 M_X7_item [vR 87] I L Q := by
  refine aw_entry (by decide) (Nat.le_of_ble_eq_true rfl) (fun k hk (X : zX k g cX7_item RX7 1 (some .boolean) 10) E => ?_)
  show AW k g 1 I L 0 [(0, vR 87)] []
  subst hk
  refine aw_aload_n X 0 dX7_item_0 rfl ?_
  have n1 := h.1
  replace h := h.2
  refine aw_pV X (as := []) mf_X7_sign zw_1241 (p_X7_sign n1) zs_87 rfl rfl (by decide) (Nat.le_of_ble_eq_true rfl) dX7_item_1 ?_
  by_cases c3 : (v_X7_sign I L) = 99
  · replace h := zifp c3 h
    refine aw_swp X 261 (99) (257) dX7_item_4 rfl (by rw [c3]; rfl) rfl rfl ?_
    refine aw_aload_n X 0 dX7_item_261 rfl ?_
    refine aw_ldcS X (List.mem_of_getElem? (i := 9) rfl) rfl dX7_item_262 ?_
    refine aw_callV X (as := [vR (2000 + 3)]) mf_X7_word zw_1250 h zs_87 rfl rfl (by decide) (Nat.le_of_ble_eq_true rfl) dX7_item_264 (fun v I4 L4 h => ?_)
    obtain ⟨r4, rfl, h⟩ := h
    refine aw_if_eq X 280 dX7_item_267 rfl (fun c5 => ?_) (fun c5 => ?_)
    · replace h := zifp c5 h
      refine aw_iconst (v := 0) X dX7_item_280 (by decide) ?_
      exact aw_zret X E rfl (Or.inl rfl) dX7_item_281 h
    · replace h := zifn c5 h
      refine aw_aload_n X 0 dX7_item_270 rfl ?_
      refine aw_iconst (v := 0) X dX7_item_271 (by decide) ?_
      refine aw_bipush (v := 40) X dX7_item_272 (by decide) ?_
      refine aw_callV X (as := [vI 0, vI 40]) mf_X7_number zw_1260 h zs_87 rfl rfl (by decide) (Nat.le_of_ble_eq_true rfl) dX7_item_274 (fun v I6 L6 h => ?_)
      obtain ⟨r6, rfl, h⟩ := h
      refine aw_if_ne X 282 dX7_item_277 rfl (fun c7 => ?_) (fun c7 => ?_)
      · replace h := zifn c7 h
        refine aw_aload_n X 0 dX7_item_282 rfl ?_
        refine aw_aload_n X 0 dX7_item_283 rfl ?_
        refine aw_getR X zf_RX7_56 rfl zs_87 zr_87_28 dX7_item_284 ?_
        refine aw_iconst (v := 0) X dX7_item_287 (by decide) ?_
        refine aw_ialdj (j := 0) X zs_103 (zinof (m := 3) (by decide) (by decide) (by decide)) (by decide) dX7_item_288 ?_
        refine aw_putI X zf_RX7_65 rfl rfl rfl zs_87 dX7_item_289 ?_
        refine aw_iconst (v := 1) X dX7_item_292 (by decide) ?_
        exact aw_zret X E rfl (Or.inr rfl) dX7_item_293 h
      · replace h := zifp c7 h
        refine aw_iconst (v := 0) X dX7_item_280 (by decide) ?_
        exact aw_zret X E rfl (Or.inl rfl) dX7_item_281 h
  replace h := zifn c3 h
  by_cases c8 : (v_X7_sign I L) = 102
  · replace h := zifp c8 h
    refine aw_swp X 64 (102) (60) dX7_item_4 rfl (by rw [c8]; rfl) rfl rfl ?_
    refine aw_aload_n X 0 dX7_item_64 rfl ?_
    refine aw_ldcS X (List.mem_of_getElem? (i := 6) rfl) rfl dX7_item_65 ?_
    refine aw_aload_n X 0 dX7_item_67 rfl ?_
    refine aw_getI X zf_RX7_91 rfl zs_87 dX7_item_68 ?_
    refine aw_bipush (v := 8) X dX7_item_71 (by decide) ?_
    have hJ10 : ∀ (w1 : Int32), w1 = (if (I 87 3) < 8 then 1 else (0 : Int32)) → AW k g 1 I L 81 [(0, vR 87)] [vI w1, vR (2000 + 0), vR 87] := by
      intro w1 q1
      subst q1
      refine aw_callV X (as := [vR (2000 + 0), vI (if (I 87 3) < 8 then 1 else (0 : Int32))]) mf_X7_word_ zw_1246 h zs_87 rfl rfl (by decide) (Nat.le_of_ble_eq_true rfl) dX7_item_81 (fun v I11 L11 h => ?_)
      obtain ⟨r11, rfl, h⟩ := h
      refine aw_if_eq X 97 dX7_item_84 rfl (fun c12 => ?_) (fun c12 => ?_)
      · replace h := zifp c12 h
        refine aw_iconst (v := 0) X dX7_item_97 (by decide) ?_
        exact aw_zret X E rfl (Or.inl rfl) dX7_item_98 h
      · replace h := zifn c12 h
        refine aw_aload_n X 0 dX7_item_87 rfl ?_
        refine aw_iconst (v := 0) X dX7_item_88 (by decide) ?_
        refine aw_ldc X zw_1196 dX7_item_89 ?_
        refine aw_callV X (as := [vI 0, vI 65535]) mf_X7_number zw_1260 h zs_87 rfl rfl (by decide) (Nat.le_of_ble_eq_true rfl) dX7_item_91 (fun v I13 L13 h => ?_)
        obtain ⟨r13, rfl, h⟩ := h
        refine aw_if_ne X 99 dX7_item_94 rfl (fun c14 => ?_) (fun c14 => ?_)
        · replace h := zifn c14 h
          refine aw_aload_n X 0 dX7_item_99 rfl ?_
          refine aw_getR X zf_RX7_20 rfl zs_87 zr_87_4 dX7_item_100 ?_
          refine aw_aload_n X 0 dX7_item_103 rfl ?_
          refine aw_dup X dX7_item_104 rfl ?_
          refine aw_getI X zf_RX7_91 rfl zs_87 dX7_item_105 ?_
          refine aw_dup_x1 X dX7_item_108 rfl rfl ?_
          refine aw_iconst (v := 1) X dX7_item_109 (by decide) ?_
          refine aw_iadd X dX7_item_110 ?_
          refine aw_putI X zf_RX7_91 rfl rfl rfl zs_87 dX7_item_111 ?_
          refine aw_aload_n X 0 dX7_item_114 rfl ?_
          refine aw_nameI (fun I15 e15 => ?_)
          replace h := h I15 e15
          refine aw_getR X zf_RX7_56 rfl zs_87 zr_87_28 dX7_item_115 ?_
          refine aw_iconst (v := 0) X dX7_item_118 (by decide) ?_
          refine aw_ialdj (j := 0) X zs_103 (zinof (m := 3) (by decide) (by decide) (by decide)) (by decide) dX7_item_119 ?_
          have n16 := h.1
          replace h := h.2
          refine aw_iastj (j := (I13 87 3).toNatClampNeg) X zs_91 n16 rfl dX7_item_120 ?_
          refine aw_iconst (v := 1) X dX7_item_121 (by decide) ?_
          exact aw_zret X E rfl (Or.inr rfl) dX7_item_122 h
        · replace h := zifp c14 h
          refine aw_iconst (v := 0) X dX7_item_97 (by decide) ?_
          exact aw_zret X E rfl (Or.inl rfl) dX7_item_98 h
    refine aw_icmp_gen X 80 dX7_item_73 rfl (fun c9 => ?_) (fun c9 => ?_)
    · refine aw_iconst (v := 1) X dX7_item_76 (by decide) ?_
      refine aw_goto X 81 dX7_item_77 rfl ?_
      refine aw_perm (ks9 := [(0, vR 87)]) [0] rfl ?_
      exact hJ10 _ (if_pos c9).symm
    · refine aw_iconst (v := 0) X dX7_item_80 (by decide) ?_
      refine aw_perm (ks9 := [(0, vR 87)]) [0] rfl ?_
      exact hJ10 _ (if_neg c9).symm
  replace h := zifn c8 h
  by_cases c17 : (v_X7_sign I L) = 104
  · replace h := zifp c17 h
    refine aw_swp X 203 (104) (199) dX7_item_4 rfl (by rw [c17]; rfl) rfl rfl ?_
    refine aw_aload_n X 0 dX7_item_203 rfl ?_
    refine aw_ldcS X (List.mem_of_getElem? (i := 8) rfl) rfl dX7_item_204 ?_
    refine aw_callV X (as := [vR (2000 + 2)]) mf_X7_word zw_1250 h zs_87 rfl rfl (by decide) (Nat.le_of_ble_eq_true rfl) dX7_item_206 (fun v I18 L18 h => ?_)
    obtain ⟨r18, rfl, h⟩ := h
    refine aw_if_eq X 240 dX7_item_209 rfl (fun c19 => ?_) (fun c19 => ?_)
    · replace h := zifp c19 h
      refine aw_iconst (v := 0) X dX7_item_240 (by decide) ?_
      exact aw_zret X E rfl (Or.inl rfl) dX7_item_241 h
    · replace h := zifn c19 h
      refine aw_aload_n X 0 dX7_item_212 rfl ?_
      refine aw_iconst (v := 0) X dX7_item_213 (by decide) ?_
      refine aw_aload_n X 0 dX7_item_214 rfl ?_
      refine aw_getI X zf_RX7_84 rfl zs_87 dX7_item_215 ?_
      refine aw_iconst (v := 1) X dX7_item_218 (by decide) ?_
      refine aw_isub X dX7_item_219 ?_
      refine aw_callV X (as := [vI 0, vI ((I18 87 5) - 1)]) mf_X7_number zw_1260 h zs_87 rfl rfl (by decide) (Nat.le_of_ble_eq_true rfl) dX7_item_220 (fun v I20 L20 h => ?_)
      obtain ⟨r20, rfl, h⟩ := h
      refine aw_if_eq X 240 dX7_item_223 rfl (fun c21 => ?_) (fun c21 => ?_)
      · replace h := zifp c21 h
        refine aw_iconst (v := 0) X dX7_item_240 (by decide) ?_
        exact aw_zret X E rfl (Or.inl rfl) dX7_item_241 h
      · replace h := zifn c21 h
        refine aw_aload_n X 0 dX7_item_226 rfl ?_
        refine aw_iconst (v := 1) X dX7_item_227 (by decide) ?_
        refine aw_aload_n X 0 dX7_item_228 rfl ?_
        refine aw_getI X zf_RX7_91 rfl zs_87 dX7_item_229 ?_
        refine aw_iconst (v := 1) X dX7_item_232 (by decide) ?_
        refine aw_isub X dX7_item_233 ?_
        refine aw_callV X (as := [vI 1, vI ((I20 87 3) - 1)]) mf_X7_number zw_1260 h zs_87 rfl rfl (by decide) (Nat.le_of_ble_eq_true rfl) dX7_item_234 (fun v I22 L22 h => ?_)
        obtain ⟨r22, rfl, h⟩ := h
        refine aw_if_ne X 242 dX7_item_237 rfl (fun c23 => ?_) (fun c23 => ?_)
        · replace h := zifn c23 h
          refine aw_aload_n X 0 dX7_item_242 rfl ?_
          refine aw_getR X zf_RX7_32 rfl zs_87 zr_87_9 dX7_item_243 ?_
          refine aw_aload_n X 0 dX7_item_246 rfl ?_
          refine aw_getR X zf_RX7_56 rfl zs_87 zr_87_28 dX7_item_247 ?_
          refine aw_iconst (v := 0) X dX7_item_250 (by decide) ?_
          refine aw_ialdj (j := 0) X zs_103 (zinof (m := 3) (by decide) (by decide) (by decide)) (by decide) dX7_item_251 ?_
          refine aw_aload_n X 0 dX7_item_252 rfl ?_
          refine aw_getR X zf_RX7_56 rfl zs_87 zr_87_28 dX7_item_253 ?_
          refine aw_iconst (v := 1) X dX7_item_256 (by decide) ?_
          refine aw_ialdj (j := 1) X zs_103 (zinof (m := 3) (by decide) (by decide) (by decide)) (by decide) dX7_item_257 ?_
          have n24 := h.1
          replace h := h.2
          refine aw_iastj (j := (I22 103 0).toNatClampNeg) X zs_95 n24 rfl dX7_item_258 ?_
          refine aw_iconst (v := 1) X dX7_item_259 (by decide) ?_
          exact aw_zret X E rfl (Or.inr rfl) dX7_item_260 h
        · replace h := zifp c23 h
          refine aw_iconst (v := 0) X dX7_item_240 (by decide) ?_
          exact aw_zret X E rfl (Or.inl rfl) dX7_item_241 h
  replace h := zifn c17 h
  by_cases c25 : (v_X7_sign I L) = 111
  · replace h := zifp c25 h
    refine aw_swp X 327 (111) (323) dX7_item_4 rfl (by rw [c25]; rfl) rfl rfl ?_
    refine aw_aload_n X 0 dX7_item_327 rfl ?_
    refine aw_ldcS X (List.mem_of_getElem? (i := 11) rfl) rfl dX7_item_328 ?_
    refine aw_callV X (as := [vR (2000 + 5)]) mf_X7_word zw_1250 h zs_87 rfl rfl (by decide) (Nat.le_of_ble_eq_true rfl) dX7_item_330 (fun v I26 L26 h => ?_)
    obtain ⟨r26, rfl, h⟩ := h
    refine aw_if_eq X 346 dX7_item_333 rfl (fun c27 => ?_) (fun c27 => ?_)
    · replace h := zifp c27 h
      refine aw_iconst (v := 0) X dX7_item_346 (by decide) ?_
      exact aw_zret X E rfl (Or.inl rfl) dX7_item_347 h
    · replace h := zifn c27 h
      refine aw_aload_n X 0 dX7_item_336 rfl ?_
      refine aw_iconst (v := 0) X dX7_item_337 (by decide) ?_
      refine aw_bipush (v := 9) X dX7_item_338 (by decide) ?_
      refine aw_callV X (as := [vI 0, vI 9]) mf_X7_number zw_1260 h zs_87 rfl rfl (by decide) (Nat.le_of_ble_eq_true rfl) dX7_item_340 (fun v I28 L28 h => ?_)
      obtain ⟨r28, rfl, h⟩ := h
      refine aw_if_ne X 348 dX7_item_343 rfl (fun c29 => ?_) (fun c29 => ?_)
      · replace h := zifn c29 h
        refine aw_aload_n X 0 dX7_item_348 rfl ?_
        refine aw_aload_n X 0 dX7_item_349 rfl ?_
        refine aw_getR X zf_RX7_56 rfl zs_87 zr_87_28 dX7_item_350 ?_
        refine aw_iconst (v := 0) X dX7_item_353 (by decide) ?_
        refine aw_ialdj (j := 0) X zs_103 (zinof (m := 3) (by decide) (by decide) (by decide)) (by decide) dX7_item_354 ?_
        refine aw_putI X zf_RX7_72 rfl rfl rfl zs_87 dX7_item_355 ?_
        refine aw_iconst (v := 1) X dX7_item_358 (by decide) ?_
        exact aw_zret X E rfl (Or.inr rfl) dX7_item_359 h
      · replace h := zifp c29 h
        refine aw_iconst (v := 0) X dX7_item_346 (by decide) ?_
        exact aw_zret X E rfl (Or.inl rfl) dX7_item_347 h
  replace h := zifn c25 h
  by_cases c30 : (v_X7_sign I L) = 112
  · replace h := zifp c30 h
    refine aw_swp X 123 (112) (119) dX7_item_4 rfl (by rw [c30]; rfl) rfl rfl ?_
    refine aw_aload_n X 0 dX7_item_123 rfl ?_
    refine aw_ldcS X (List.mem_of_getElem? (i := 7) rfl) rfl dX7_item_124 ?_
    refine aw_aload_n X 0 dX7_item_126 rfl ?_
    refine aw_getI X zf_RX7_84 rfl zs_87 dX7_item_127 ?_
    refine aw_bipush (v := 8) X dX7_item_130 (by decide) ?_
    have hJ32 : ∀ (w1 : Int32), w1 = (if (I 87 5) < 8 then 1 else (0 : Int32)) → AW k g 1 I L 140 [(0, vR 87)] [vI w1, vR (2000 + 1), vR 87] := by
      intro w1 q1
      subst q1
      refine aw_callV X (as := [vR (2000 + 1), vI (if (I 87 5) < 8 then 1 else (0 : Int32))]) mf_X7_word_ zw_1246 h zs_87 rfl rfl (by decide) (Nat.le_of_ble_eq_true rfl) dX7_item_140 (fun v I33 L33 h => ?_)
      obtain ⟨r33, rfl, h⟩ := h
      refine aw_if_eq X 176 dX7_item_143 rfl (fun c34 => ?_) (fun c34 => ?_)
      · replace h := zifp c34 h
        refine aw_iconst (v := 0) X dX7_item_176 (by decide) ?_
        exact aw_zret X E rfl (Or.inl rfl) dX7_item_177 h
      · replace h := zifn c34 h
        refine aw_aload_n X 0 dX7_item_146 rfl ?_
        refine aw_iconst (v := 0) X dX7_item_147 (by decide) ?_
        refine aw_bipush (v := 6) X dX7_item_148 (by decide) ?_
        refine aw_callV X (as := [vI 0, vI 6]) mf_X7_number zw_1260 h zs_87 rfl rfl (by decide) (Nat.le_of_ble_eq_true rfl) dX7_item_150 (fun v I35 L35 h => ?_)
        obtain ⟨r35, rfl, h⟩ := h
        refine aw_if_eq X 176 dX7_item_153 rfl (fun c36 => ?_) (fun c36 => ?_)
        · replace h := zifp c36 h
          refine aw_iconst (v := 0) X dX7_item_176 (by decide) ?_
          exact aw_zret X E rfl (Or.inl rfl) dX7_item_177 h
        · replace h := zifn c36 h
          refine aw_aload_n X 0 dX7_item_156 rfl ?_
          refine aw_iconst (v := 1) X dX7_item_157 (by decide) ?_
          refine aw_bipush (v := 9) X dX7_item_158 (by decide) ?_
          refine aw_callV X (as := [vI 1, vI 9]) mf_X7_number zw_1260 h zs_87 rfl rfl (by decide) (Nat.le_of_ble_eq_true rfl) dX7_item_160 (fun v I37 L37 h => ?_)
          obtain ⟨r37, rfl, h⟩ := h
          refine aw_if_eq X 176 dX7_item_163 rfl (fun c38 => ?_) (fun c38 => ?_)
          · replace h := zifp c38 h
            refine aw_iconst (v := 0) X dX7_item_176 (by decide) ?_
            exact aw_zret X E rfl (Or.inl rfl) dX7_item_177 h
          · replace h := zifn c38 h
            refine aw_aload_n X 0 dX7_item_166 rfl ?_
            refine aw_iconst (v := 2) X dX7_item_167 (by decide) ?_
            refine aw_bipush (v := 9) X dX7_item_168 (by decide) ?_
            refine aw_callV X (as := [vI 2, vI 9]) mf_X7_number zw_1260 h zs_87 rfl rfl (by decide) (Nat.le_of_ble_eq_true rfl) dX7_item_170 (fun v I39 L39 h => ?_)
            obtain ⟨r39, rfl, h⟩ := h
            refine aw_if_ne X 178 dX7_item_173 rfl (fun c40 => ?_) (fun c40 => ?_)
            · replace h := zifn c40 h
              refine aw_aload_n X 0 dX7_item_178 rfl ?_
              refine aw_aload_n X 0 dX7_item_179 rfl ?_
              refine aw_getR X zf_RX7_56 rfl zs_87 zr_87_28 dX7_item_180 ?_
              refine aw_iconst (v := 0) X dX7_item_183 (by decide) ?_
              refine aw_ialdj (j := 0) X zs_103 (zinof (m := 3) (by decide) (by decide) (by decide)) (by decide) dX7_item_184 ?_
              refine aw_aload_n X 0 dX7_item_185 rfl ?_
              refine aw_getR X zf_RX7_56 rfl zs_87 zr_87_28 dX7_item_186 ?_
              refine aw_iconst (v := 1) X dX7_item_189 (by decide) ?_
              refine aw_ialdj (j := 1) X zs_103 (zinof (m := 3) (by decide) (by decide) (by decide)) (by decide) dX7_item_190 ?_
              refine aw_aload_n X 0 dX7_item_191 rfl ?_
              refine aw_getR X zf_RX7_56 rfl zs_87 zr_87_28 dX7_item_192 ?_
              refine aw_iconst (v := 2) X dX7_item_195 (by decide) ?_
              refine aw_ialdj (j := 2) X zs_103 (zinof (m := 3) (by decide) (by decide) (by decide)) (by decide) dX7_item_196 ?_
              refine aw_callV X (as := [vI (I39 103 0), vI (I39 103 1), vI (I39 103 2)]) mf_X7_pane zw_1265 h zs_87 rfl rfl (by decide) (Nat.le_of_ble_eq_true rfl) dX7_item_197 (fun v I41 L41 h => ?_)
              obtain ⟨r41, rfl, h⟩ := h
              refine aw_pop X dX7_item_200 rfl ?_
              refine aw_iconst (v := 1) X dX7_item_201 (by decide) ?_
              exact aw_zret X E rfl (Or.inr rfl) dX7_item_202 h
            · replace h := zifp c40 h
              refine aw_iconst (v := 0) X dX7_item_176 (by decide) ?_
              exact aw_zret X E rfl (Or.inl rfl) dX7_item_177 h
    refine aw_icmp_gen X 139 dX7_item_132 rfl (fun c31 => ?_) (fun c31 => ?_)
    · refine aw_iconst (v := 1) X dX7_item_135 (by decide) ?_
      refine aw_goto X 140 dX7_item_136 rfl ?_
      refine aw_perm (ks9 := [(0, vR 87)]) [0] rfl ?_
      exact hJ32 _ (if_pos c31).symm
    · refine aw_iconst (v := 0) X dX7_item_139 (by decide) ?_
      refine aw_perm (ks9 := [(0, vR 87)]) [0] rfl ?_
      exact hJ32 _ (if_neg c31).symm
  replace h := zifn c30 h
  by_cases c42 : (v_X7_sign I L) = 119
  · replace h := zifp c42 h
    refine aw_swp X 294 (119) (290) dX7_item_4 rfl (by rw [c42]; rfl) rfl rfl ?_
    refine aw_aload_n X 0 dX7_item_294 rfl ?_
    refine aw_ldcS X (List.mem_of_getElem? (i := 10) rfl) rfl dX7_item_295 ?_
    refine aw_callV X (as := [vR (2000 + 4)]) mf_X7_word zw_1250 h zs_87 rfl rfl (by decide) (Nat.le_of_ble_eq_true rfl) dX7_item_297 (fun v I43 L43 h => ?_)
    obtain ⟨r43, rfl, h⟩ := h
    refine aw_if_eq X 313 dX7_item_300 rfl (fun c44 => ?_) (fun c44 => ?_)
    · replace h := zifp c44 h
      refine aw_iconst (v := 0) X dX7_item_313 (by decide) ?_
      exact aw_zret X E rfl (Or.inl rfl) dX7_item_314 h
    · replace h := zifn c44 h
      refine aw_aload_n X 0 dX7_item_303 rfl ?_
      refine aw_iconst (v := 0) X dX7_item_304 (by decide) ?_
      refine aw_bipush (v := 9) X dX7_item_305 (by decide) ?_
      refine aw_callV X (as := [vI 0, vI 9]) mf_X7_number zw_1260 h zs_87 rfl rfl (by decide) (Nat.le_of_ble_eq_true rfl) dX7_item_307 (fun v I45 L45 h => ?_)
      obtain ⟨r45, rfl, h⟩ := h
      refine aw_if_ne X 315 dX7_item_310 rfl (fun c46 => ?_) (fun c46 => ?_)
      · replace h := zifn c46 h
        refine aw_aload_n X 0 dX7_item_315 rfl ?_
        refine aw_aload_n X 0 dX7_item_316 rfl ?_
        refine aw_getR X zf_RX7_56 rfl zs_87 zr_87_28 dX7_item_317 ?_
        refine aw_iconst (v := 0) X dX7_item_320 (by decide) ?_
        refine aw_ialdj (j := 0) X zs_103 (zinof (m := 3) (by decide) (by decide) (by decide)) (by decide) dX7_item_321 ?_
        refine aw_putI X zf_RX7_69 rfl rfl rfl zs_87 dX7_item_322 ?_
        refine aw_iconst (v := 1) X dX7_item_325 (by decide) ?_
        exact aw_zret X E rfl (Or.inr rfl) dX7_item_326 h
      · replace h := zifp c46 h
        refine aw_iconst (v := 0) X dX7_item_313 (by decide) ?_
        exact aw_zret X E rfl (Or.inl rfl) dX7_item_314 h
  replace h := zifn c42 h
  have e0 := ztn (n := 99) rfl c3
  have e1 := ztn (n := 102) rfl c8
  have e2 := ztn (n := 104) rfl c17
  have e3 := ztn (n := 111) rfl c25
  have e4 := ztn (n := 112) rfl c30
  have e5 := ztn (n := 119) rfl c42
  refine aw_swd X 360 dX7_item_4 rfl (by intro q hq; simp only [List.mem_cons, List.not_mem_nil, or_false] at hq; rcases hq with rfl | rfl | rfl | rfl | rfl | rfl <;> assumption) rfl ?_
  refine aw_iconst (v := 0) X dX7_item_360 (by decide) ?_
  exact aw_zret X E rfl (Or.inl rfl) dX7_item_361 h
set_option maxRecDepth 100000 in
theorem s_X7_lasts_24 {k : zK} {g : zG} {Q : Option zv → zI → zL → Prop} {I : zI} {L : zL} {y1 : Int32} {y2 : Int32} {y3 : Int32}  (X : zX k g cX7_lasts RX7 4 (some .int) 5) (E : zE k g Q) (h : if y3 < 25 then (Call (kl k) g 4 M_X7_readAt [vR 87, vI y1, vI y2, vI y3] I L (zi fun r2 I2 L2 => if r2 = y2 then (AW k g 4 I2 L2 24 [(0, vR 87), (1, vI y1), (2, vI y2), (3, vI (y3 + 1))] []) else (Q (some (vI (y3 - 1))) I2 L2))) else (Q (some (vI (y3 - 1))) I L)) : AW k g 4 I L 24 [(0, vR 87), (1, vI y1), (2, vI y2), (3, vI y3)] [] := by
  refine aw_iload_n X 3 dX7_lasts_24 rfl ?_
  refine aw_bipush (v := 25) X dX7_lasts_25 (by decide) ?_
  refine aw_icmp_gen X 47 dX7_lasts_27 rfl (fun c1 => ?_) (fun c1 => ?_)
  · replace h := zifp c1 h
    refine aw_aload_n X 0 dX7_lasts_30 rfl ?_
    refine aw_iload_n X 1 dX7_lasts_31 rfl ?_
    refine aw_iload_n X 2 dX7_lasts_32 rfl ?_
    refine aw_iload_n X 3 dX7_lasts_33 rfl ?_
    refine aw_callV X (as := [vI y1, vI y2, vI y3]) mf_X7_readAt zw_1324 h zs_87 rfl rfl (by decide) (Nat.le_of_ble_eq_true rfl) dX7_lasts_34 (fun v I2 L2 h => ?_)
    obtain ⟨r2, rfl, h⟩ := h
    refine aw_iload_n X 2 dX7_lasts_37 rfl ?_
    refine aw_icmp_ne X 47 dX7_lasts_38 rfl (fun c3 => ?_) (fun c3 => ?_)
    · replace h := zifn c3 h
      refine aw_iload_n X 3 dX7_lasts_47 rfl ?_
      refine aw_iconst (v := 1) X dX7_lasts_48 (by decide) ?_
      refine aw_isub X dX7_lasts_49 ?_
      exact aw_iret X E rfl dX7_lasts_50 h
    · replace h := zifp c3 h
      refine aw_iinc (v := y3 + 1) X 3 dX7_lasts_41 rfl rfl (by decide) rfl ?_
      refine aw_goto X 24 dX7_lasts_44 rfl ?_
      refine aw_perm (ks9 := [(0, vR 87), (1, vI y1), (2, vI y2), (3, vI (y3 + 1))]) [1, 2, 3, 0] rfl ?_
      exact h
  · replace h := zifn c1 h
    refine aw_iload_n X 3 dX7_lasts_47 rfl ?_
    refine aw_iconst (v := 1) X dX7_lasts_48 (by decide) ?_
    refine aw_isub X dX7_lasts_49 ?_
    exact aw_iret X E rfl dX7_lasts_50 h
set_option maxRecDepth 100000 in
theorem m_X7_lasts {l : Launch} {g : zG} {Q : Option zv → zI → zL → Prop} {I : zI} {L : zL} {a1 : Int32} {a2 : Int32}  (h : ∀ k : zK, kl k = l → zX k g cX7_lasts RX7 4 (some .int) 5 → zE k g Q → (if (v_X7_isPane I a1) = 0 then (Call (kl k) g 1 M_X7_no10 [vR 87, vI (-1)] I L (zi fun r2 I2 L2 => Q (some (vI r2)) I2 L2)) else (if (v_X7_isLetter I a2) = 0 then (Call (kl k) g 1 M_X7_no10 [vR 87, vI (-1)] I L (zi fun r4 I4 L4 => Q (some (vI r4)) I4 L4)) else (AW k g 4 I L 24 [(0, vR 87), (1, vI a1), (2, vI a2), (3, vI 0)] [])))) : Call l g 5 M_X7_lasts [vR 87, vI a1, vI a2] I L Q := by
  refine aw_entry (by decide) (Nat.le_of_ble_eq_true rfl) (fun k hk (X : zX k g cX7_lasts RX7 4 (some .int) 5) E => ?_)
  show AW k g 4 I L 0 [(0, vR 87), (1, vI a1), (2, vI a2)] []
  replace h := h k hk X E
  subst hk
  refine aw_aload_n X 0 dX7_lasts_0 rfl ?_
  refine aw_iload_n X 1 dX7_lasts_1 rfl ?_
  refine aw_pV X (as := [vI a1]) mf_X7_isPane zw_1165 (p_X7_isPane) zs_87 rfl rfl (by decide) (Nat.le_of_ble_eq_true rfl) dX7_lasts_2 ?_
  refine aw_if_eq X 16 dX7_lasts_5 rfl (fun c1 => ?_) (fun c1 => ?_)
  · replace h := zifp c1 h
    refine aw_aload_n X 0 dX7_lasts_16 rfl ?_
    refine aw_iconst (v := (-1)) X dX7_lasts_17 (by decide) ?_
    refine aw_callV X (as := [vI (-1)]) mf_X7_no10 zw_1221 h zs_87 rfl rfl (by decide) (Nat.le_of_ble_eq_true rfl) dX7_lasts_18 (fun v I2 L2 h => ?_)
    obtain ⟨r2, rfl, h⟩ := h
    exact aw_iret X E rfl dX7_lasts_21 h
  · replace h := zifn c1 h
    refine aw_aload_n X 0 dX7_lasts_8 rfl ?_
    refine aw_iload_n X 2 dX7_lasts_9 rfl ?_
    refine aw_pV X (as := [vI a2]) mf_X7_isLetter zw_1201 (p_X7_isLetter) zs_87 rfl rfl (by decide) (Nat.le_of_ble_eq_true rfl) dX7_lasts_10 ?_
    refine aw_if_ne X 22 dX7_lasts_13 rfl (fun c3 => ?_) (fun c3 => ?_)
    · replace h := zifn c3 h
      refine aw_iconst (v := 0) X dX7_lasts_22 (by decide) ?_
      refine aw_istore_n X dX7_lasts_23 (by decide) rfl ?_
      refine aw_perm (ks9 := [(0, vR 87), (1, vI a1), (2, vI a2), (3, vI 0)]) [1, 2, 3, 0] rfl ?_
      exact h
    · replace h := zifp c3 h
      refine aw_aload_n X 0 dX7_lasts_16 rfl ?_
      refine aw_iconst (v := (-1)) X dX7_lasts_17 (by decide) ?_
      refine aw_callV X (as := [vI (-1)]) mf_X7_no10 zw_1221 h zs_87 rfl rfl (by decide) (Nat.le_of_ble_eq_true rfl) dX7_lasts_18 (fun v I4 L4 h => ?_)
      obtain ⟨r4, rfl, h⟩ := h
      exact aw_iret X E rfl dX7_lasts_21 h
set_option maxRecDepth 100000 in
theorem s_X7_let_6 {k : zK} {g : zG} {Q : Option zv → zI → zL → Prop} {I : zI} {L : zL} {y1 : Int32} {y2 : Int32} {y3 : Int32}  (X : zX k g cX7_let RX7 5 (some .int) 5) (E : zE k g Q) (h : if y3 < (I 87 5) then (vp_in y3 8 ∧ (AW k g 5 (zs I 104 y3.toNatClampNeg 0) L 24 [(0, vR 87), (1, vI y1), (2, vI y2), (3, vI y3), (4, vI 0)] [])) else (AW k g 5 I L 88 [(0, vR 87), (1, vI y1), (2, vI y2), (3, vI 25)] [])) : AW k g 5 I L 6 [(0, vR 87), (1, vI y1), (2, vI y2), (3, vI y3)] [] := by
  refine aw_iload_n X 3 dX7_let_6 rfl ?_
  refine aw_aload_n X 0 dX7_let_7 rfl ?_
  refine aw_getI X zf_RX7_84 rfl zs_87 dX7_let_8 ?_
  refine aw_icmp_gen X 85 dX7_let_11 rfl (fun c1 => ?_) (fun c1 => ?_)
  · replace h := zifp c1 h
    refine aw_aload_n X 0 dX7_let_14 rfl ?_
    refine aw_getR X zf_RX7_59 rfl zs_87 zr_87_29 dX7_let_15 ?_
    refine aw_iload_n X 3 dX7_let_18 rfl ?_
    refine aw_iconst (v := 0) X dX7_let_19 (by decide) ?_
    have n2 := h.1
    replace h := h.2
    refine aw_iastj (j := y3.toNatClampNeg) X zs_104 n2 rfl dX7_let_20 ?_
    refine aw_iconst (v := 0) X dX7_let_21 (by decide) ?_
    refine aw_istore X dX7_let_22 (by decide) rfl ?_
    refine aw_perm (ks9 := [(0, vR 87), (1, vI y1), (2, vI y2), (3, vI y3), (4, vI 0)]) [1, 2, 3, 4, 0] rfl ?_
    exact h
  · replace h := zifn c1 h
    refine aw_bipush (v := 25) X dX7_let_85 (by decide) ?_
    refine aw_istore_n X dX7_let_87 (by decide) rfl ?_
    refine aw_perm (ks9 := [(0, vR 87), (1, vI y1), (2, vI y2), (3, vI 25)]) [1, 2, 3, 0] rfl ?_
    exact h
set_option maxRecDepth 100000 in
theorem s_X7_let_24 {k : zK} {g : zG} {Q : Option zv → zI → zL → Prop} {I : zI} {L : zL} {y1 : Int32} {y2 : Int32} {y3 : Int32} {y4 : Int32}  (X : zX k g cX7_let RX7 5 (some .int) 5) (E : zE k g Q) (h : if y4 < 25 then (vp_in y3 8 ∧ (if (I 95 y3.toNatClampNeg) = (-1) then (AW k g 5 I L 6 [(0, vR 87), (1, vI y1), (2, vI y2), (3, vI (y3 + 1))] []) else (Call (kl k) g 4 M_X7_readAt [vR 87, vI y3, vI (I 95 y3.toNatClampNeg), vI y4] I L (zi fun r4 I4 L4 => if r4 = (I4 95 y3.toNatClampNeg) then (AW k g 5 (zs I4 104 y3.toNatClampNeg ((I4 104 y3.toNatClampNeg) + 1)) L4 24 [(0, vR 87), (1, vI y1), (2, vI y2), (3, vI y3), (4, vI (y4 + 1))] []) else (AW k g 5 I4 L4 24 [(0, vR 87), (1, vI y1), (2, vI y2), (3, vI y3), (4, vI (y4 + 1))] []))))) else (AW k g 5 I L 6 [(0, vR 87), (1, vI y1), (2, vI y2), (3, vI (y3 + 1))] [])) : AW k g 5 I L 24 [(0, vR 87), (1, vI y1), (2, vI y2), (3, vI y3), (4, vI y4)] [] := by
  refine aw_iload X 4 dX7_let_24 rfl ?_
  refine aw_bipush (v := 25) X dX7_let_26 (by decide) ?_
  refine aw_icmp_gen X 79 dX7_let_28 rfl (fun c1 => ?_) (fun c1 => ?_)
  · replace h := zifp c1 h
    refine aw_aload_n X 0 dX7_let_31 rfl ?_
    refine aw_getR X zf_RX7_32 rfl zs_87 zr_87_9 dX7_let_32 ?_
    refine aw_iload_n X 3 dX7_let_35 rfl ?_
    have n2 := h.1
    replace h := h.2
    refine aw_ialdj (j := y3.toNatClampNeg) X zs_95 n2 rfl dX7_let_36 ?_
    refine aw_iconst (v := (-1)) X dX7_let_37 (by decide) ?_
    refine aw_icmp_eq X 79 dX7_let_38 rfl (fun c3 => ?_) (fun c3 => ?_)
    · replace h := zifp c3 h
      refine aw_iinc (v := y3 + 1) X 3 dX7_let_79 rfl rfl (by decide) rfl ?_
      refine aw_goto X 6 dX7_let_82 rfl ?_
      refine aw_perm (ks9 := [(0, vR 87), (1, vI y1), (2, vI y2), (3, vI (y3 + 1))]) [1, 2, 3, 0] rfl ?_
      exact h
    · replace h := zifn c3 h
      refine aw_aload_n X 0 dX7_let_41 rfl ?_
      refine aw_iload_n X 3 dX7_let_42 rfl ?_
      refine aw_aload_n X 0 dX7_let_43 rfl ?_
      refine aw_getR X zf_RX7_32 rfl zs_87 zr_87_9 dX7_let_44 ?_
      refine aw_iload_n X 3 dX7_let_47 rfl ?_
      refine aw_ialdj (j := y3.toNatClampNeg) X zs_95 n2 rfl dX7_let_48 ?_
      refine aw_iload X 4 dX7_let_49 rfl ?_
      refine aw_callV X (as := [vI y3, vI (I 95 y3.toNatClampNeg), vI y4]) mf_X7_readAt zw_1324 h zs_87 rfl rfl (by decide) (Nat.le_of_ble_eq_true rfl) dX7_let_51 (fun v I4 L4 h => ?_)
      obtain ⟨r4, rfl, h⟩ := h
      refine aw_aload_n X 0 dX7_let_54 rfl ?_
      refine aw_getR X zf_RX7_32 rfl zs_87 zr_87_9 dX7_let_55 ?_
      refine aw_iload_n X 3 dX7_let_58 rfl ?_
      refine aw_ialdj (j := y3.toNatClampNeg) X zs_95 n2 rfl dX7_let_59 ?_
      refine aw_icmp_ne X 73 dX7_let_60 rfl (fun c5 => ?_) (fun c5 => ?_)
      · replace h := zifn c5 h
        refine aw_iinc (v := y4 + 1) X 4 dX7_let_73 rfl rfl (by decide) rfl ?_
        refine aw_goto X 24 dX7_let_76 rfl ?_
        refine aw_perm (ks9 := [(0, vR 87), (1, vI y1), (2, vI y2), (3, vI y3), (4, vI (y4 + 1))]) [1, 2, 3, 4, 0] rfl ?_
        exact h
      · replace h := zifp c5 h
        refine aw_aload_n X 0 dX7_let_63 rfl ?_
        refine aw_getR X zf_RX7_59 rfl zs_87 zr_87_29 dX7_let_64 ?_
        refine aw_iload_n X 3 dX7_let_67 rfl ?_
        refine aw_dup2 X dX7_let_68 rfl rfl ?_
        refine aw_ialdj (j := y3.toNatClampNeg) X zs_104 n2 rfl dX7_let_69 ?_
        refine aw_iconst (v := 1) X dX7_let_70 (by decide) ?_
        refine aw_iadd X dX7_let_71 ?_
        refine aw_iastj (j := y3.toNatClampNeg) X zs_104 n2 rfl dX7_let_72 ?_
        refine aw_iinc (v := y4 + 1) X 4 dX7_let_73 rfl rfl (by decide) rfl ?_
        refine aw_goto X 24 dX7_let_76 rfl ?_
        refine aw_perm (ks9 := [(0, vR 87), (1, vI y1), (2, vI y2), (3, vI y3), (4, vI (y4 + 1))]) [1, 2, 3, 4, 0] rfl ?_
        exact h
  · replace h := zifn c1 h
    refine aw_iinc (v := y3 + 1) X 3 dX7_let_79 rfl rfl (by decide) rfl ?_
    refine aw_goto X 6 dX7_let_82 rfl ?_
    refine aw_perm (ks9 := [(0, vR 87), (1, vI y1), (2, vI y2), (3, vI (y3 + 1))]) [1, 2, 3, 0] rfl ?_
    exact h
set_option maxRecDepth 100000 in
theorem s_X7_let_88 {k : zK} {g : zG} {Q : Option zv → zI → zL → Prop} {I : zI} {L : zL} {y1 : Int32} {y2 : Int32} {y3 : Int32}  (X : zX k g cX7_let RX7 5 (some .int) 5) (E : zE k g Q) (h : if 0 < y3 then (AW k g 5 I L 95 [(0, vR 87), (1, vI y1), (2, vI y2), (3, vI y3), (4, vI 0)] []) else (Q (some (vI y1)) I L)) : AW k g 5 I L 88 [(0, vR 87), (1, vI y1), (2, vI y2), (3, vI y3)] [] := by
  refine aw_iload_n X 3 dX7_let_88 rfl ?_
  refine aw_if_len X 153 dX7_let_89 rfl (fun c1 => ?_) (fun c1 => ?_)
  · replace h := zifp c1 h
    refine aw_iconst (v := 0) X dX7_let_92 (by decide) ?_
    refine aw_istore X dX7_let_93 (by decide) rfl ?_
    refine aw_perm (ks9 := [(0, vR 87), (1, vI y1), (2, vI y2), (3, vI y3), (4, vI 0)]) [1, 2, 3, 4, 0] rfl ?_
    exact h
  · replace h := zifn c1 h
    refine aw_iload_n X 1 dX7_let_153 rfl ?_
    exact aw_iret X E rfl dX7_let_154 h
set_option maxRecDepth 100000 in
theorem s_X7_let_95 {k : zK} {g : zG} {Q : Option zv → zI → zL → Prop} {I : zI} {L : zL} {y1 : Int32} {y2 : Int32} {y3 : Int32} {y4 : Int32}  (X : zX k g cX7_let RX7 5 (some .int) 5) (E : zE k g Q) (h : if y4 < (I 87 5) then (vp_in y4 8 ∧ ((∀ u9 : Int32, u9 = (if (I 104 y4.toNatClampNeg) = y3 then if y2 = 0 then 1 else (0 : Int32) else y2) → ∀ u10 : Int32, u10 = (if (I 104 y4.toNatClampNeg) = y3 then y1 + (if y2 = 0 then -y3 else y3) else y1) → AW k g 5 I L 95 [(0, vR 87), (1, vI u10), (2, vI u9), (3, vI y3), (4, vI (y4 + 1))] []))) else (AW k g 5 I L 88 [(0, vR 87), (1, vI y1), (2, vI y2), (3, vI (y3 + (-1)))] [])) : AW k g 5 I L 95 [(0, vR 87), (1, vI y1), (2, vI y2), (3, vI y3), (4, vI y4)] [] := by
  refine aw_iload X 4 dX7_let_95 rfl ?_
  refine aw_aload_n X 0 dX7_let_97 rfl ?_
  refine aw_getI X zf_RX7_84 rfl zs_87 dX7_let_98 ?_
  refine aw_icmp_gen X 147 dX7_let_101 rfl (fun c1 => ?_) (fun c1 => ?_)
  · replace h := zifp c1 h
    refine aw_aload_n X 0 dX7_let_104 rfl ?_
    refine aw_getR X zf_RX7_59 rfl zs_87 zr_87_29 dX7_let_105 ?_
    refine aw_iload X 4 dX7_let_108 rfl ?_
    have n2 := h.1
    replace h := h.2
    refine aw_ialdj (j := y4.toNatClampNeg) X zs_104 n2 rfl dX7_let_110 ?_
    refine aw_iload_n X 3 dX7_let_111 rfl ?_
    have hJ8 : ∀ (u9 : Int32) (u10 : Int32), u9 = (if (I 104 y4.toNatClampNeg) = y3 then if y2 = 0 then 1 else (0 : Int32) else y2) → u10 = (if (I 104 y4.toNatClampNeg) = y3 then y1 + (if y2 = 0 then -y3 else y3) else y1) → AW k g 5 I L 141 [(0, vR 87), (1, vI u10), (2, vI u9), (3, vI y3), (4, vI y4)] [] := by
      intro u9 u10 q1 q2
      replace h := h u9 q1
      replace h := h u10 q2
      refine aw_iinc (v := y4 + 1) X 4 dX7_let_141 rfl rfl (by decide) rfl ?_
      refine aw_goto X 95 dX7_let_144 rfl ?_
      refine aw_perm (ks9 := [(0, vR 87), (1, vI u10), (2, vI u9), (3, vI y3), (4, vI (y4 + 1))]) [1, 2, 3, 4, 0] rfl ?_
      exact h
    refine aw_icmp_eq X 118 dX7_let_112 rfl (fun c3 => ?_) (fun c3 => ?_)
    · refine aw_iload_n X 1 dX7_let_118 rfl ?_
      refine aw_iload_n X 2 dX7_let_119 rfl ?_
      have hJ7 : ∀ (w1 : Int32), w1 = (if y2 = 0 then -y3 else y3) → AW k g 5 I L 129 [(0, vR 87), (2, vI y2), (3, vI y3), (4, vI y4)] [vI w1, vI y1] := by
        intro w1 q1
        subst q1
        refine aw_iadd X dX7_let_129 ?_
        refine aw_istore_n X dX7_let_130 (by decide) rfl ?_
        refine aw_iload_n X 2 dX7_let_131 rfl ?_
        have hJ6 : ∀ (w1 : Int32), w1 = (if y2 = 0 then 1 else (0 : Int32)) → AW k g 5 I L 140 [(0, vR 87), (1, vI (y1 + (if y2 = 0 then -y3 else y3))), (3, vI y3), (4, vI y4)] [vI w1] := by
          intro w1 q1
          subst q1
          refine aw_istore_n X dX7_let_140 (by decide) rfl ?_
          refine aw_perm (ks9 := [(0, vR 87), (1, vI (y1 + (if y2 = 0 then -y3 else y3))), (2, vI (if y2 = 0 then 1 else (0 : Int32))), (3, vI y3), (4, vI y4)]) [1, 2, 0, 3, 4] rfl ?_
          exact hJ8 _ _ (if_pos c3).symm (if_pos c3).symm
        refine aw_if_ne X 139 dX7_let_132 rfl (fun c5 => ?_) (fun c5 => ?_)
        · refine aw_iconst (v := 0) X dX7_let_139 (by decide) ?_
          refine aw_perm (ks9 := [(0, vR 87), (1, vI (y1 + (if y2 = 0 then -y3 else y3))), (3, vI y3), (4, vI y4)]) [1, 0, 3, 4] rfl ?_
          exact hJ6 _ (if_neg c5).symm
        · refine aw_iconst (v := 1) X dX7_let_135 (by decide) ?_
          refine aw_goto X 140 dX7_let_136 rfl ?_
          refine aw_perm (ks9 := [(0, vR 87), (1, vI (y1 + (if y2 = 0 then -y3 else y3))), (3, vI y3), (4, vI y4)]) [1, 0, 3, 4] rfl ?_
          exact hJ6 _ (if_pos c5).symm
      refine aw_if_eq X 127 dX7_let_120 rfl (fun c4 => ?_) (fun c4 => ?_)
      · refine aw_iload_n X 3 dX7_let_127 rfl ?_
        refine aw_ineg X dX7_let_128 ?_
        refine aw_perm (ks9 := [(0, vR 87), (2, vI y2), (3, vI y3), (4, vI y4)]) [0, 2, 3, 4] rfl ?_
        exact hJ7 _ (if_pos c4).symm
      · refine aw_iload_n X 3 dX7_let_123 rfl ?_
        refine aw_goto X 129 dX7_let_124 rfl ?_
        refine aw_perm (ks9 := [(0, vR 87), (2, vI y2), (3, vI y3), (4, vI y4)]) [0, 2, 3, 4] rfl ?_
        exact hJ7 _ (if_neg c4).symm
    · refine aw_goto X 141 dX7_let_115 rfl ?_
      refine aw_perm (ks9 := [(0, vR 87), (1, vI y1), (2, vI y2), (3, vI y3), (4, vI y4)]) [0, 1, 2, 3, 4] rfl ?_
      exact hJ8 _ _ (if_neg c3).symm (if_neg c3).symm
  · replace h := zifn c1 h
    refine aw_iinc (v := y3 + (-1)) X 3 dX7_let_147 rfl rfl (by decide) rfl ?_
    refine aw_goto X 88 dX7_let_150 rfl ?_
    refine aw_perm (ks9 := [(0, vR 87), (1, vI y1), (2, vI y2), (3, vI (y3 + (-1)))]) [1, 2, 3, 0] rfl ?_
    exact h
set_option maxRecDepth 100000 in
theorem m_X7_let {l : Launch} {g : zG} {Q : Option zv → zI → zL → Prop} {I : zI} {L : zL}   (h : ∀ k : zK, kl k = l → zX k g cX7_let RX7 5 (some .int) 5 → zE k g Q → (AW k g 5 I L 6 [(0, vR 87), (1, vI 0), (2, vI 1), (3, vI 0)] [])) : Call l g 5 M_X7_let [vR 87] I L Q := by
  refine aw_entry (by decide) (Nat.le_of_ble_eq_true rfl) (fun k hk (X : zX k g cX7_let RX7 5 (some .int) 5) E => ?_)
  show AW k g 5 I L 0 [(0, vR 87)] []
  replace h := h k hk X E
  subst hk
  refine aw_iconst (v := 0) X dX7_let_0 (by decide) ?_
  refine aw_istore_n X dX7_let_1 (by decide) rfl ?_
  refine aw_iconst (v := 1) X dX7_let_2 (by decide) ?_
  refine aw_istore_n X dX7_let_3 (by decide) rfl ?_
  refine aw_iconst (v := 0) X dX7_let_4 (by decide) ?_
  refine aw_istore_n X dX7_let_5 (by decide) rfl ?_
  refine aw_perm (ks9 := [(0, vR 87), (1, vI 0), (2, vI 1), (3, vI 0)]) [3, 2, 1, 0] rfl ?_
  exact h
set_option maxRecDepth 100000 in
theorem m_X7_melt {l : Launch} {g : zG} {Q : Option zv → zI → zL → Prop} {I : zI} {L : zL} {a1 : Int32} {a2 : Int32}  (h : if (v_X7_isPane I a1) = 0 then (Call l g 1 M_X7_no [vR 87, vI (-1)] I L (zi fun r5 I5 L5 => Q (some (vI r5)) I5 L5)) else (if (v_X7_within a2 0 23) = 0 then (Call l g 1 M_X7_no [vR 87, vI (-6)] I L (zi fun r3 I3 L3 => Q (some (vI r3)) I3 L3)) else (k_X7_melts I a1 a2 ∧ (Q (some (vI (v_X7_melts I a1 a2))) I L)))) : Call l g 3 M_X7_melt [vR 87, vI a1, vI a2] I L Q := by
  refine aw_entry (by decide) (Nat.le_of_ble_eq_true rfl) (fun k hk (X : zX k g cX7_melt RX7 3 (some .int) 3) E => ?_)
  show AW k g 3 I L 0 [(0, vR 87), (1, vI a1), (2, vI a2)] []
  subst hk
  refine aw_aload_n X 0 dX7_melt_0 rfl ?_
  refine aw_iload_n X 1 dX7_melt_1 rfl ?_
  refine aw_pV X (as := [vI a1]) mf_X7_isPane zw_1165 (p_X7_isPane) zs_87 rfl rfl (by decide) (Nat.le_of_ble_eq_true rfl) dX7_melt_2 ?_
  refine aw_if_ne X 14 dX7_melt_5 rfl (fun c1 => ?_) (fun c1 => ?_)
  · replace h := zifn c1 h
    refine aw_iload_n X 2 dX7_melt_14 rfl ?_
    refine aw_iconst (v := 0) X dX7_melt_15 (by decide) ?_
    refine aw_bipush (v := 23) X dX7_melt_16 (by decide) ?_
    refine aw_pS X (as := [vI a2, vI 0, vI 23]) mf_X7_within zw_1134 (p_X7_within) rfl rfl (by decide) (Nat.le_of_ble_eq_true rfl) dX7_melt_18 ?_
    refine aw_if_eq X 33 dX7_melt_21 rfl (fun c2 => ?_) (fun c2 => ?_)
    · replace h := zifp c2 h
      refine aw_aload_n X 0 dX7_melt_33 rfl ?_
      refine aw_bipush (v := (-6)) X dX7_melt_34 (by decide) ?_
      refine aw_callV X (as := [vI (-6)]) mf_X7_no zw_1137 h zs_87 rfl rfl (by decide) (Nat.le_of_ble_eq_true rfl) dX7_melt_36 (fun v I3 L3 h => ?_)
      obtain ⟨r3, rfl, h⟩ := h
      exact aw_iret X E rfl dX7_melt_39 h
    · replace h := zifn c2 h
      refine aw_aload_n X 0 dX7_melt_24 rfl ?_
      refine aw_iload_n X 1 dX7_melt_25 rfl ?_
      refine aw_iload_n X 2 dX7_melt_26 rfl ?_
      have n4 := h.1
      replace h := h.2
      refine aw_pV X (as := [vI a1, vI a2]) mf_X7_melts zw_1188 (p_X7_melts n4) zs_87 rfl rfl (by decide) (Nat.le_of_ble_eq_true rfl) dX7_melt_27 ?_
      refine aw_goto X 39 dX7_melt_30 rfl ?_
      exact aw_iret X E rfl dX7_melt_39 h
  · replace h := zifp c1 h
    refine aw_aload_n X 0 dX7_melt_8 rfl ?_
    refine aw_iconst (v := (-1)) X dX7_melt_9 (by decide) ?_
    refine aw_callV X (as := [vI (-1)]) mf_X7_no zw_1137 h zs_87 rfl rfl (by decide) (Nat.le_of_ble_eq_true rfl) dX7_melt_10 (fun v I5 L5 h => ?_)
    obtain ⟨r5, rfl, h⟩ := h
    exact aw_iret X E rfl dX7_melt_13 h
set_option maxRecDepth 100000 in
theorem s_X7_mend_36 {k : zK} {g : zG} {Q : Option zv → zI → zL → Prop} {I : zI} {L : zL} {y1 : Int32} {y2 : Int32} {y3 : Int32} {y4 : Int32}  (X : zX k g cX7_mend RX7 7 (some .int) 3) (E : zE k g Q) (h : if y4 < 16 then (AW k g 7 I L 50 [(0, vR 87), (1, vI y1), (2, vI y2), (3, vI y3), (4, vI y4), (5, vI 17), (6, vI 0)] []) else (Q (some (vI y2)) I L)) : AW k g 7 I L 36 [(0, vR 87), (1, vI y1), (2, vI y2), (3, vI y3), (4, vI y4)] [] := by
  refine aw_iload X 4 dX7_mend_36 rfl ?_
  refine aw_bipush (v := 16) X dX7_mend_38 (by decide) ?_
  refine aw_icmp_gen X 121 dX7_mend_40 rfl (fun c1 => ?_) (fun c1 => ?_)
  · replace h := zifp c1 h
    refine aw_bipush (v := 17) X dX7_mend_43 (by decide) ?_
    refine aw_istore X dX7_mend_45 (by decide) rfl ?_
    refine aw_iconst (v := 0) X dX7_mend_47 (by decide) ?_
    refine aw_istore X dX7_mend_48 (by decide) rfl ?_
    refine aw_perm (ks9 := [(0, vR 87), (1, vI y1), (2, vI y2), (3, vI y3), (4, vI y4), (5, vI 17), (6, vI 0)]) [2, 3, 4, 5, 6, 1, 0] rfl ?_
    exact h
  · replace h := zifn c1 h
    refine aw_iload_n X 2 dX7_mend_121 rfl ?_
    exact aw_iret X E rfl dX7_mend_122 h
set_option maxRecDepth 100000 in
theorem s_X7_mend_50 {k : zK} {g : zG} {Q : Option zv → zI → zL → Prop} {I : zI} {L : zL} {y1 : Int32} {y2 : Int32} {y3 : Int32} {y4 : Int32} {y5 : Int32} {y6 : Int32}  (X : zX k g cX7_mend RX7 7 (some .int) 3) (E : zE k g Q) (h : if y6 < (I 87 3) then ((¬ (y6 = y1) → vp_in y1 8 ∧ vp_in y6 8) ∧ ((∀ u7 : Int32, u7 = (if y6 = y1 then y5 else (jmin y5 (v_J6_bitCount_0f7a4 (((I 91 y1.toNatClampNeg) ^^^ (jshl 1 y4)) ^^^ (I 91 y6.toNatClampNeg))))) → AW k g 7 I L 50 [(0, vR 87), (1, vI y1), (2, vI y2), (3, vI y3), (4, vI y4), (5, vI u7), (6, vI (y6 + 1))] []))) else (AW k g 7 I L 36 [(0, vR 87), (1, vI y1), (2, vI (if y3 < y5 then y4 else y2)), (3, vI (if y3 < y5 then y5 else y3)), (4, vI (y4 + 1))] [])) : AW k g 7 I L 50 [(0, vR 87), (1, vI y1), (2, vI y2), (3, vI y3), (4, vI y4), (5, vI y5), (6, vI y6)] [] := by
  refine aw_iload X 6 dX7_mend_50 rfl ?_
  refine aw_aload_n X 0 dX7_mend_52 rfl ?_
  refine aw_getI X zf_RX7_91 rfl zs_87 dX7_mend_53 ?_
  refine aw_icmp_gen X 100 dX7_mend_56 rfl (fun c1 => ?_) (fun c1 => ?_)
  · replace h := zifp c1 h
    refine aw_iload X 6 dX7_mend_59 rfl ?_
    refine aw_iload_n X 1 dX7_mend_61 rfl ?_
    have n5 := h.1
    replace h := h.2
    have hJ6 : ∀ (u7 : Int32), u7 = (if y6 = y1 then y5 else (jmin y5 (v_J6_bitCount_0f7a4 (((I 91 y1.toNatClampNeg) ^^^ (jshl 1 y4)) ^^^ (I 91 y6.toNatClampNeg))))) → AW k g 7 I L 94 [(0, vR 87), (1, vI y1), (2, vI y2), (3, vI y3), (4, vI y4), (5, vI u7), (6, vI y6)] [] := by
      intro u7 q1
      replace h := h u7 q1
      refine aw_iinc (v := y6 + 1) X 6 dX7_mend_94 rfl rfl (by decide) rfl ?_
      refine aw_goto X 50 dX7_mend_97 rfl ?_
      refine aw_perm (ks9 := [(0, vR 87), (1, vI y1), (2, vI y2), (3, vI y3), (4, vI y4), (5, vI u7), (6, vI (y6 + 1))]) [1, 2, 3, 4, 5, 6, 0] rfl ?_
      exact h
    refine aw_icmp_eq X 94 dX7_mend_62 rfl (fun c2 => ?_) (fun c2 => ?_)
    · refine aw_perm (ks9 := [(0, vR 87), (1, vI y1), (2, vI y2), (3, vI y3), (4, vI y4), (5, vI y5), (6, vI y6)]) [0, 1, 2, 3, 4, 5, 6] rfl ?_
      exact hJ6 _ (if_pos c2).symm
    · obtain ⟨n3, n4⟩ := (n5 c2)
      refine aw_iload X 5 dX7_mend_65 rfl ?_
      refine aw_aload_n X 0 dX7_mend_67 rfl ?_
      refine aw_getR X zf_RX7_20 rfl zs_87 zr_87_4 dX7_mend_68 ?_
      refine aw_iload_n X 1 dX7_mend_71 rfl ?_
      refine aw_ialdj (j := y1.toNatClampNeg) X zs_91 n3 rfl dX7_mend_72 ?_
      refine aw_iconst (v := 1) X dX7_mend_73 (by decide) ?_
      refine aw_iload X 4 dX7_mend_74 rfl ?_
      refine aw_ishl X dX7_mend_76 ?_
      refine aw_ixor X dX7_mend_77 ?_
      refine aw_aload_n X 0 dX7_mend_78 rfl ?_
      refine aw_getR X zf_RX7_20 rfl zs_87 zr_87_4 dX7_mend_79 ?_
      refine aw_iload X 6 dX7_mend_82 rfl ?_
      refine aw_ialdj (j := y6.toNatClampNeg) X zs_91 n4 rfl dX7_mend_84 ?_
      refine aw_ixor X dX7_mend_85 ?_
      refine aw_pS X (as := [vI (((I 91 y1.toNatClampNeg) ^^^ (jshl 1 y4)) ^^^ (I 91 y6.toNatClampNeg))]) mf_J6_bitCount_0f7a4 zw_1319 (p_J6_bitCount_0f7a4) rfl rfl (by decide) (Nat.le_of_ble_eq_true rfl) dX7_mend_86 ?_
      refine aw_min X (by decide) (Nat.le_of_ble_eq_true rfl) ⟨zw_1298, zw_683, zw_69, zw_684⟩ dX7_mend_89 ?_
      refine aw_istore X dX7_mend_92 (by decide) rfl ?_
      refine aw_perm (ks9 := [(0, vR 87), (1, vI y1), (2, vI y2), (3, vI y3), (4, vI y4), (5, vI (jmin y5 (v_J6_bitCount_0f7a4 (((I 91 y1.toNatClampNeg) ^^^ (jshl 1 y4)) ^^^ (I 91 y6.toNatClampNeg))))), (6, vI y6)]) [1, 2, 3, 4, 5, 0, 6] rfl ?_
      exact hJ6 _ (if_neg c2).symm
  · replace h := zifn c1 h
    refine aw_iload X 5 dX7_mend_100 rfl ?_
    refine aw_iload_n X 3 dX7_mend_102 rfl ?_
    have hJ9 : ∀ (w1 : Int32) (w2 : Int32), w1 = (if y3 < y5 then y4 else y2) → w2 = (if y3 < y5 then y5 else y3) → AW k g 7 I L 115 [(0, vR 87), (1, vI y1), (2, vI w1), (3, vI w2), (4, vI y4)] [] := by
      intro w1 w2 q1 q2
      subst q1
      subst q2
      refine aw_iinc (v := y4 + 1) X 4 dX7_mend_115 rfl rfl (by decide) rfl ?_
      refine aw_goto X 36 dX7_mend_118 rfl ?_
      refine aw_perm (ks9 := [(0, vR 87), (1, vI y1), (2, vI (if y3 < y5 then y4 else y2)), (3, vI (if y3 < y5 then y5 else y3)), (4, vI (y4 + 1))]) [1, 2, 3, 4, 0] rfl ?_
      exact h
    refine aw_icmp_gt X 109 dX7_mend_103 rfl (fun c8 => ?_) (fun c8 => ?_)
    · refine aw_iload X 5 dX7_mend_109 rfl ?_
      refine aw_istore_n X dX7_mend_111 (by decide) rfl ?_
      refine aw_iload X 4 dX7_mend_112 rfl ?_
      refine aw_istore_n X dX7_mend_114 (by decide) rfl ?_
      refine aw_perm (ks9 := [(0, vR 87), (1, vI y1), (2, vI y4), (3, vI y5), (4, vI y4)]) [2, 3, 0, 1, 4] rfl ?_
      exact hJ9 _ _ (if_pos c8).symm (if_pos c8).symm
    · refine aw_goto X 115 dX7_mend_106 rfl ?_
      refine aw_perm (ks9 := [(0, vR 87), (1, vI y1), (2, vI y2), (3, vI y3), (4, vI y4)]) [0, 1, 2, 3, 4] rfl ?_
      exact hJ9 _ _ (if_neg c8).symm (if_neg c8).symm
set_option maxRecDepth 100000 in
theorem m_X7_mend {l : Launch} {g : zG} {Q : Option zv → zI → zL → Prop} {I : zI} {L : zL} {a1 : Int32}  (h : ∀ k : zK, kl k = l → zX k g cX7_mend RX7 7 (some .int) 3 → zE k g Q → (if (v_X7_isLetter I a1) = 0 then (Call (kl k) g 1 M_X7_no [vR 87, vI (-1)] I L (zi fun r4 I4 L4 => Q (some (vI r4)) I4 L4)) else (if (I 87 3) < 2 then (Call (kl k) g 1 M_X7_no [vR 87, vI (-5)] I L (zi fun r3 I3 L3 => Q (some (vI r3)) I3 L3)) else (AW k g 7 I L 36 [(0, vR 87), (1, vI a1), (2, vI (-1)), (3, vI (-1)), (4, vI 0)] [])))) : Call l g 3 M_X7_mend [vR 87, vI a1] I L Q := by
  refine aw_entry (by decide) (Nat.le_of_ble_eq_true rfl) (fun k hk (X : zX k g cX7_mend RX7 7 (some .int) 3) E => ?_)
  show AW k g 7 I L 0 [(0, vR 87), (1, vI a1)] []
  replace h := h k hk X E
  subst hk
  refine aw_aload_n X 0 dX7_mend_0 rfl ?_
  refine aw_iload_n X 1 dX7_mend_1 rfl ?_
  refine aw_pV X (as := [vI a1]) mf_X7_isLetter zw_1201 (p_X7_isLetter) zs_87 rfl rfl (by decide) (Nat.le_of_ble_eq_true rfl) dX7_mend_2 ?_
  refine aw_if_ne X 14 dX7_mend_5 rfl (fun c1 => ?_) (fun c1 => ?_)
  · replace h := zifn c1 h
    refine aw_aload_n X 0 dX7_mend_14 rfl ?_
    refine aw_getI X zf_RX7_91 rfl zs_87 dX7_mend_15 ?_
    refine aw_iconst (v := 2) X dX7_mend_18 (by decide) ?_
    refine aw_icmp_gen X 29 dX7_mend_19 rfl (fun c2 => ?_) (fun c2 => ?_)
    · replace h := zifp c2 h
      refine aw_aload_n X 0 dX7_mend_22 rfl ?_
      refine aw_bipush (v := (-5)) X dX7_mend_23 (by decide) ?_
      refine aw_callV X (as := [vI (-5)]) mf_X7_no zw_1137 h zs_87 rfl rfl (by decide) (Nat.le_of_ble_eq_true rfl) dX7_mend_25 (fun v I3 L3 h => ?_)
      obtain ⟨r3, rfl, h⟩ := h
      exact aw_iret X E rfl dX7_mend_28 h
    · replace h := zifn c2 h
      refine aw_iconst (v := (-1)) X dX7_mend_29 (by decide) ?_
      refine aw_istore_n X dX7_mend_30 (by decide) rfl ?_
      refine aw_iconst (v := (-1)) X dX7_mend_31 (by decide) ?_
      refine aw_istore_n X dX7_mend_32 (by decide) rfl ?_
      refine aw_iconst (v := 0) X dX7_mend_33 (by decide) ?_
      refine aw_istore X dX7_mend_34 (by decide) rfl ?_
      refine aw_perm (ks9 := [(0, vR 87), (1, vI a1), (2, vI (-1)), (3, vI (-1)), (4, vI 0)]) [3, 4, 2, 1, 0] rfl ?_
      exact h
  · replace h := zifp c1 h
    refine aw_aload_n X 0 dX7_mend_8 rfl ?_
    refine aw_iconst (v := (-1)) X dX7_mend_9 (by decide) ?_
    refine aw_callV X (as := [vI (-1)]) mf_X7_no zw_1137 h zs_87 rfl rfl (by decide) (Nat.le_of_ble_eq_true rfl) dX7_mend_10 (fun v I4 L4 h => ?_)
    obtain ⟨r4, rfl, h⟩ := h
    exact aw_iret X E rfl dX7_mend_13 h
set_option maxRecDepth 100000 in
theorem s_X7_mistaken_4 {k : zK} {g : zG} {Q : Option zv → zI → zL → Prop} {I : zI} {L : zL} {y1 : Int32} {y2 : Int32}  (X : zX k g cX7_mistaken RX7 3 (some .int) 5) (E : zE k g Q) (h : if y2 < (I 87 5) then (vp_in y2 8 ∧ (if (I 95 y2.toNatClampNeg) = (-1) then (Call (kl k) g 4 M_X7_readAt [vR 87, vI y2, vI (-1), vI 0] I L (zi fun r4 I4 L4 => AW k g 3 I4 L4 4 [(0, vR 87), (1, vI (if r4 = (-1) then y1 else (y1 ||| (jshl 1 y2)))), (2, vI (y2 + 1))] [])) else (AW k g 3 I L 4 [(0, vR 87), (1, vI y1), (2, vI (y2 + 1))] []))) else (Q (some (vI y1)) I L)) : AW k g 3 I L 4 [(0, vR 87), (1, vI y1), (2, vI y2)] [] := by
  refine aw_iload_n X 2 dX7_mistaken_4 rfl ?_
  refine aw_aload_n X 0 dX7_mistaken_5 rfl ?_
  refine aw_getI X zf_RX7_84 rfl zs_87 dX7_mistaken_6 ?_
  refine aw_icmp_gen X 45 dX7_mistaken_9 rfl (fun c1 => ?_) (fun c1 => ?_)
  · replace h := zifp c1 h
    refine aw_aload_n X 0 dX7_mistaken_12 rfl ?_
    refine aw_getR X zf_RX7_32 rfl zs_87 zr_87_9 dX7_mistaken_13 ?_
    refine aw_iload_n X 2 dX7_mistaken_16 rfl ?_
    have n2 := h.1
    replace h := h.2
    refine aw_ialdj (j := y2.toNatClampNeg) X zs_95 n2 rfl dX7_mistaken_17 ?_
    refine aw_iconst (v := (-1)) X dX7_mistaken_18 (by decide) ?_
    refine aw_icmp_ne X 39 dX7_mistaken_19 rfl (fun c3 => ?_) (fun c3 => ?_)
    · replace h := zifn c3 h
      refine aw_iinc (v := y2 + 1) X 2 dX7_mistaken_39 rfl rfl (by decide) rfl ?_
      refine aw_goto X 4 dX7_mistaken_42 rfl ?_
      refine aw_perm (ks9 := [(0, vR 87), (1, vI y1), (2, vI (y2 + 1))]) [1, 2, 0] rfl ?_
      exact h
    · replace h := zifp c3 h
      refine aw_aload_n X 0 dX7_mistaken_22 rfl ?_
      refine aw_iload_n X 2 dX7_mistaken_23 rfl ?_
      refine aw_iconst (v := (-1)) X dX7_mistaken_24 (by decide) ?_
      refine aw_iconst (v := 0) X dX7_mistaken_25 (by decide) ?_
      refine aw_callV X (as := [vI y2, vI (-1), vI 0]) mf_X7_readAt zw_1324 h zs_87 rfl rfl (by decide) (Nat.le_of_ble_eq_true rfl) dX7_mistaken_26 (fun v I4 L4 h => ?_)
      obtain ⟨r4, rfl, h⟩ := h
      refine aw_iconst (v := (-1)) X dX7_mistaken_29 (by decide) ?_
      have hJ6 : ∀ (w1 : Int32), w1 = (if r4 = (-1) then y1 else (y1 ||| (jshl 1 y2))) → AW k g 3 I4 L4 39 [(0, vR 87), (1, vI w1), (2, vI y2)] [] := by
        intro w1 q1
        subst q1
        refine aw_iinc (v := y2 + 1) X 2 dX7_mistaken_39 rfl rfl (by decide) rfl ?_
        refine aw_goto X 4 dX7_mistaken_42 rfl ?_
        refine aw_perm (ks9 := [(0, vR 87), (1, vI (if r4 = (-1) then y1 else (y1 ||| (jshl 1 y2)))), (2, vI (y2 + 1))]) [1, 2, 0] rfl ?_
        exact h
      refine aw_icmp_eq X 39 dX7_mistaken_30 rfl (fun c5 => ?_) (fun c5 => ?_)
      · refine aw_perm (ks9 := [(0, vR 87), (1, vI y1), (2, vI y2)]) [0, 1, 2] rfl ?_
        exact hJ6 _ (if_pos c5).symm
      · refine aw_iload_n X 1 dX7_mistaken_33 rfl ?_
        refine aw_iconst (v := 1) X dX7_mistaken_34 (by decide) ?_
        refine aw_iload_n X 2 dX7_mistaken_35 rfl ?_
        refine aw_ishl X dX7_mistaken_36 ?_
        refine aw_ior X dX7_mistaken_37 ?_
        refine aw_istore_n X dX7_mistaken_38 (by decide) rfl ?_
        refine aw_perm (ks9 := [(0, vR 87), (1, vI (y1 ||| (jshl 1 y2))), (2, vI y2)]) [1, 0, 2] rfl ?_
        exact hJ6 _ (if_neg c5).symm
  · replace h := zifn c1 h
    refine aw_iload_n X 1 dX7_mistaken_45 rfl ?_
    exact aw_iret X E rfl dX7_mistaken_46 h
set_option maxRecDepth 100000 in
theorem m_X7_mistaken {l : Launch} {g : zG} {Q : Option zv → zI → zL → Prop} {I : zI} {L : zL}   (h : ∀ k : zK, kl k = l → zX k g cX7_mistaken RX7 3 (some .int) 5 → zE k g Q → (AW k g 3 I L 4 [(0, vR 87), (1, vI 0), (2, vI 0)] [])) : Call l g 5 M_X7_mistaken [vR 87] I L Q := by
  refine aw_entry (by decide) (Nat.le_of_ble_eq_true rfl) (fun k hk (X : zX k g cX7_mistaken RX7 3 (some .int) 5) E => ?_)
  show AW k g 3 I L 0 [(0, vR 87)] []
  replace h := h k hk X E
  subst hk
  refine aw_iconst (v := 0) X dX7_mistaken_0 (by decide) ?_
  refine aw_istore_n X dX7_mistaken_1 (by decide) rfl ?_
  refine aw_iconst (v := 0) X dX7_mistaken_2 (by decide) ?_
  refine aw_istore_n X dX7_mistaken_3 (by decide) rfl ?_
  refine aw_perm (ks9 := [(0, vR 87), (1, vI 0), (2, vI 0)]) [2, 1, 0] rfl ?_
  exact h
set_option maxRecDepth 100000 in
theorem s_X7_night_9 {k : zK} {g : zG} {Q : Option zv → zI → zL → Prop} {I : zI} {L : zL} {y1 : Int32} {y2 : Int32}  (X : zX k g cX7_night RX7 4 (some .int) 3) (E : zE k g Q) (h : if y2 < (I 87 5) then (vp_in y2 8 ∧ (Call (kl k) g 2 M_X7_freeze [vR 87, vI y2, vI (I 95 y2.toNatClampNeg)] I L (zn fun I3 L3 => AW k g 4 I3 L3 30 [(0, vR 87), (1, vI y1), (2, vI y2), (3, vI 0)] []))) else (if y1 = 0 then (Q (some (vI y1)) I L) else (Q (some (vI y1)) (zs I 87 16 ((I 87 16) + 1)) L))) : AW k g 4 I L 9 [(0, vR 87), (1, vI y1), (2, vI y2)] [] := by
  refine aw_iload_n X 2 dX7_night_9 rfl ?_
  refine aw_aload_n X 0 dX7_night_10 rfl ?_
  refine aw_getI X zf_RX7_84 rfl zs_87 dX7_night_11 ?_
  refine aw_icmp_gen X 98 dX7_night_14 rfl (fun c1 => ?_) (fun c1 => ?_)
  · replace h := zifp c1 h
    refine aw_aload_n X 0 dX7_night_17 rfl ?_
    refine aw_iload_n X 2 dX7_night_18 rfl ?_
    refine aw_aload_n X 0 dX7_night_19 rfl ?_
    refine aw_getR X zf_RX7_32 rfl zs_87 zr_87_9 dX7_night_20 ?_
    refine aw_iload_n X 2 dX7_night_23 rfl ?_
    have n2 := h.1
    replace h := h.2
    refine aw_ialdj (j := y2.toNatClampNeg) X zs_95 n2 rfl dX7_night_24 ?_
    refine aw_callV X (as := [vI y2, vI (I 95 y2.toNatClampNeg)]) mf_X7_freeze zw_1290 h zs_87 rfl rfl (by decide) (Nat.le_of_ble_eq_true rfl) dX7_night_25 (fun v I3 L3 h => ?_)
    obtain ⟨rfl, h⟩ := h
    refine aw_iconst (v := 0) X dX7_night_28 (by decide) ?_
    refine aw_istore_n X dX7_night_29 (by decide) rfl ?_
    refine aw_perm (ks9 := [(0, vR 87), (1, vI y1), (2, vI y2), (3, vI 0)]) [1, 2, 3, 0] rfl ?_
    exact h
  · replace h := zifn c1 h
    refine aw_iload_n X 1 dX7_night_98 rfl ?_
    refine aw_if_eq X 112 dX7_night_99 rfl (fun c4 => ?_) (fun c4 => ?_)
    · replace h := zifp c4 h
      refine aw_iload_n X 1 dX7_night_112 rfl ?_
      exact aw_iret X E rfl dX7_night_113 h
    · replace h := zifn c4 h
      refine aw_aload_n X 0 dX7_night_102 rfl ?_
      refine aw_dup X dX7_night_103 rfl ?_
      refine aw_getI X zf_RX7_215 rfl zs_87 dX7_night_104 ?_
      refine aw_iconst (v := 1) X dX7_night_107 (by decide) ?_
      refine aw_iadd X dX7_night_108 ?_
      refine aw_putI X zf_RX7_215 rfl rfl rfl zs_87 dX7_night_109 ?_
      refine aw_iload_n X 1 dX7_night_112 rfl ?_
      exact aw_iret X E rfl dX7_night_113 h
set_option maxRecDepth 100000 in
theorem s_X7_night_30 {k : zK} {g : zG} {Q : Option zv → zI → zL → Prop} {I : zI} {L : zL} {y1 : Int32} {y2 : Int32} {y3 : Int32}  (X : zX k g cX7_night RX7 4 (some .int) 3) (E : zE k g Q) (h : if y3 < 16 then (vp_in y3 16 ∧ (vp_in ((16 * y2) + y3) 128 ∧ (AW k g 4 (zs I 97 (((16 * y2) + y3).toNatClampNeg) (I 101 y3.toNatClampNeg)) L 30 [(0, vR 87), (1, vI y1), (2, vI y2), (3, vI (y3 + 1))] []))) else (vp_in y2 8 ∧ ((¬ ((I 95 y2.toNatClampNeg) = (-1)) → k_X7_read I (v_X7_shapeNow I)) ∧ ((∀ u10 : Int32, u10 = (if (I 95 y2.toNatClampNeg) = (-1) then y1 else if (v_X7_read I (v_X7_shapeNow I)) = (I 95 y2.toNatClampNeg) then y1 ||| (jshl 1 y2) else y1) → AW k g 4 I L 9 [(0, vR 87), (1, vI u10), (2, vI (y2 + 1))] []))))) : AW k g 4 I L 30 [(0, vR 87), (1, vI y1), (2, vI y2), (3, vI y3)] [] := by
  refine aw_iload_n X 3 dX7_night_30 rfl ?_
  refine aw_bipush (v := 16) X dX7_night_31 (by decide) ?_
  refine aw_icmp_gen X 59 dX7_night_33 rfl (fun c1 => ?_) (fun c1 => ?_)
  · replace h := zifp c1 h
    refine aw_aload_n X 0 dX7_night_36 rfl ?_
    refine aw_getR X zf_RX7_38 rfl zs_87 zr_87_11 dX7_night_37 ?_
    refine aw_bipush (v := 16) X dX7_night_40 (by decide) ?_
    refine aw_iload_n X 2 dX7_night_42 rfl ?_
    refine aw_imul X dX7_night_43 ?_
    refine aw_iload_n X 3 dX7_night_44 rfl ?_
    refine aw_iadd X dX7_night_45 ?_
    refine aw_aload_n X 0 dX7_night_46 rfl ?_
    refine aw_getR X zf_RX7_50 rfl zs_87 zr_87_24 dX7_night_47 ?_
    refine aw_iload_n X 3 dX7_night_50 rfl ?_
    have n2 := h.1
    replace h := h.2
    refine aw_ialdj (j := y3.toNatClampNeg) X zs_101 n2 rfl dX7_night_51 ?_
    have n3 := h.1
    replace h := h.2
    refine aw_iastj (j := ((16 * y2) + y3).toNatClampNeg) X zs_97 n3 rfl dX7_night_52 ?_
    refine aw_iinc (v := y3 + 1) X 3 dX7_night_53 rfl rfl (by decide) rfl ?_
    refine aw_goto X 30 dX7_night_56 rfl ?_
    refine aw_perm (ks9 := [(0, vR 87), (1, vI y1), (2, vI y2), (3, vI (y3 + 1))]) [1, 2, 3, 0] rfl ?_
    exact h
  · replace h := zifn c1 h
    refine aw_aload_n X 0 dX7_night_59 rfl ?_
    refine aw_getR X zf_RX7_32 rfl zs_87 zr_87_9 dX7_night_60 ?_
    refine aw_iload_n X 2 dX7_night_63 rfl ?_
    have n4 := h.1
    replace h := h.2
    refine aw_ialdj (j := y2.toNatClampNeg) X zs_95 n4 rfl dX7_night_64 ?_
    refine aw_iconst (v := (-1)) X dX7_night_65 (by decide) ?_
    have n8 := h.1
    replace h := h.2
    have hJ9 : ∀ (u10 : Int32), u10 = (if (I 95 y2.toNatClampNeg) = (-1) then y1 else if (v_X7_read I (v_X7_shapeNow I)) = (I 95 y2.toNatClampNeg) then y1 ||| (jshl 1 y2) else y1) → AW k g 4 I L 92 [(0, vR 87), (1, vI u10), (2, vI y2)] [] := by
      intro u10 q1
      replace h := h u10 q1
      refine aw_iinc (v := y2 + 1) X 2 dX7_night_92 rfl rfl (by decide) rfl ?_
      refine aw_goto X 9 dX7_night_95 rfl ?_
      refine aw_perm (ks9 := [(0, vR 87), (1, vI u10), (2, vI (y2 + 1))]) [1, 2, 0] rfl ?_
      exact h
    refine aw_icmp_eq X 92 dX7_night_66 rfl (fun c5 => ?_) (fun c5 => ?_)
    · refine aw_perm (ks9 := [(0, vR 87), (1, vI y1), (2, vI y2)]) [0, 1, 2] rfl ?_
      exact hJ9 _ (if_pos c5).symm
    · have n6 := (n8 c5)
      refine aw_aload_n X 0 dX7_night_69 rfl ?_
      refine aw_aload_n X 0 dX7_night_70 rfl ?_
      refine aw_pV X (as := []) mf_X7_shapeNow zw_1303 (p_X7_shapeNow) zs_87 rfl rfl (by decide) (Nat.le_of_ble_eq_true rfl) dX7_night_71 ?_
      refine aw_pV X (as := [vI (v_X7_shapeNow I)]) mf_X7_read zw_1315 (p_X7_read n6) zs_87 rfl rfl (by decide) (Nat.le_of_ble_eq_true rfl) dX7_night_74 ?_
      refine aw_aload_n X 0 dX7_night_77 rfl ?_
      refine aw_getR X zf_RX7_32 rfl zs_87 zr_87_9 dX7_night_78 ?_
      refine aw_iload_n X 2 dX7_night_81 rfl ?_
      refine aw_ialdj (j := y2.toNatClampNeg) X zs_95 n4 rfl dX7_night_82 ?_
      refine aw_icmp_ne X 92 dX7_night_83 rfl (fun c7 => ?_) (fun c7 => ?_)
      · refine aw_perm (ks9 := [(0, vR 87), (1, vI y1), (2, vI y2)]) [0, 1, 2] rfl ?_
        exact hJ9 _ ((if_neg c7).symm.trans (if_neg c5).symm)
      · refine aw_iload_n X 1 dX7_night_86 rfl ?_
        refine aw_iconst (v := 1) X dX7_night_87 (by decide) ?_
        refine aw_iload_n X 2 dX7_night_88 rfl ?_
        refine aw_ishl X dX7_night_89 ?_
        refine aw_ior X dX7_night_90 ?_
        refine aw_istore_n X dX7_night_91 (by decide) rfl ?_
        refine aw_perm (ks9 := [(0, vR 87), (1, vI (y1 ||| (jshl 1 y2))), (2, vI y2)]) [1, 0, 2] rfl ?_
        exact hJ9 _ ((if_pos c7).symm.trans (if_neg c5).symm)
set_option maxRecDepth 100000 in
theorem m_X7_night {l : Launch} {g : zG} {Q : Option zv → zI → zL → Prop} {I : zI} {L : zL}   (h : ∀ k : zK, kl k = l → zX k g cX7_night RX7 4 (some .int) 3 → zE k g Q → (AW k g 4 (zs I 87 15 0) L 9 [(0, vR 87), (1, vI 0), (2, vI 0)] [])) : Call l g 3 M_X7_night [vR 87] I L Q := by
  refine aw_entry (by decide) (Nat.le_of_ble_eq_true rfl) (fun k hk (X : zX k g cX7_night RX7 4 (some .int) 3) E => ?_)
  show AW k g 4 I L 0 [(0, vR 87)] []
  replace h := h k hk X E
  subst hk
  refine aw_aload_n X 0 dX7_night_0 rfl ?_
  refine aw_iconst (v := 0) X dX7_night_1 (by decide) ?_
  refine aw_putI X zf_RX7_75 rfl rfl rfl zs_87 dX7_night_2 ?_
  refine aw_iconst (v := 0) X dX7_night_5 (by decide) ?_
  refine aw_istore_n X dX7_night_6 (by decide) rfl ?_
  refine aw_iconst (v := 0) X dX7_night_7 (by decide) ?_
  refine aw_istore_n X dX7_night_8 (by decide) rfl ?_
  refine aw_perm (ks9 := [(0, vR 87), (1, vI 0), (2, vI 0)]) [2, 1, 0] rfl ?_
  exact h
def v_X7_noRow (I : zI) (a1 : Int32) : Int32 := if (v_X7_within a1 0 7) = 0 then (-1) else if (I 88 a1.toNatClampNeg) < 0 then if (I 88 a1.toNatClampNeg) < 0 then (-3) else (0 : Int32) else if (v_X7_isRow I a1) = 0 then (-2) else if (I 88 a1.toNatClampNeg) < 0 then (-3) else (0 : Int32)
def k_X7_noRow (I : zI) (a1 : Int32) : Prop := (¬ ((v_X7_within a1 0 7) = 0) → (¬ ((I 88 a1.toNatClampNeg) < 0) → k_X7_isRow I a1))
set_option maxRecDepth 100000 in
theorem p_X7_noRow {l : Launch} {g : zG} {I : zI} {L : zL} {a1 : Int32}  (hk0 : k_X7_noRow I a1) : Call l g 2 M_X7_noRow [vR 87, vI a1] I L (zp (some (vI (v_X7_noRow I a1))) I L) := by
  refine aw_entry (by decide) (Nat.le_of_ble_eq_true rfl) (fun k hk (X : zX k g cX7_noRow RX7 2 (some .int) 2) E => ?_)
  show AW k g 2 I L 0 [(0, vR 87), (1, vI a1)] []
  subst hk
  have n10 : (¬ ((v_X7_within a1 0 7) = 0) → (¬ ((I 88 a1.toNatClampNeg) < 0) → k_X7_isRow I a1)) := hk0
  have hJ : ∀ w1 : Int32, w1 = (if (v_X7_within a1 0 7) = 0 then (-1) else if (I 88 a1.toNatClampNeg) < 0 then if (I 88 a1.toNatClampNeg) < 0 then (-3) else (0 : Int32) else if (v_X7_isRow I a1) = 0 then (-2) else if (I 88 a1.toNatClampNeg) < 0 then (-3) else (0 : Int32)) → zp (some (vI (v_X7_noRow I a1))) I L (some (vI w1)) I L := fun w1 e1 => ⟨by rw [e1]; rfl, rfl, rfl⟩
  refine aw_iload_n X 1 dX7_noRow_0 rfl ?_
  refine aw_iconst (v := 0) X dX7_noRow_1 (by decide) ?_
  refine aw_bipush (v := 7) X dX7_noRow_2 (by decide) ?_
  refine aw_pS X (as := [vI a1, vI 0, vI 7]) mf_X7_within zw_1134 (p_X7_within) rfl rfl (by decide) (Nat.le_of_ble_eq_true rfl) dX7_noRow_4 ?_
  refine aw_if_ne X 12 dX7_noRow_7 rfl (fun c1 => ?_) (fun c1 => ?_)
  · have n9 := (n10 c1)
    refine aw_aload_n X 0 dX7_noRow_12 rfl ?_
    refine aw_getR X zf_RX7_7 rfl zs_87 zr_87_0 dX7_noRow_13 ?_
    refine aw_iload_n X 1 dX7_noRow_16 rfl ?_
    refine aw_ialdj (j := a1.toNatClampNeg) X zs_88 (zin_within c1 (by decide)) rfl dX7_noRow_17 ?_
    refine aw_if_lt X 32 dX7_noRow_18 rfl (fun c2 => ?_) (fun c2 => ?_)
    · refine aw_aload_n X 0 dX7_noRow_32 rfl ?_
      refine aw_getR X zf_RX7_7 rfl zs_87 zr_87_0 dX7_noRow_33 ?_
      refine aw_iload_n X 1 dX7_noRow_36 rfl ?_
      refine aw_ialdj (j := a1.toNatClampNeg) X zs_88 (zin_within c1 (by decide)) rfl dX7_noRow_37 ?_
      have hJ4 : ∀ (w1 : Int32), w1 = (if (I 88 a1.toNatClampNeg) < 0 then (-3) else (0 : Int32)) → AW k g 2 I L 47 [] [vI w1] := by
        intro w1 q1
        subst q1
        exact aw_iret X E rfl dX7_noRow_47 (hJ _ ((if_pos c2).symm.trans (if_neg c1).symm))
      refine aw_if_gen X 46 dX7_noRow_38 rfl (fun c3 => ?_) (fun c3 => ?_)
      · refine aw_bipush (v := (-3)) X dX7_noRow_41 (by decide) ?_
        refine aw_goto X 47 dX7_noRow_43 rfl ?_
        refine aw_perm (ks9 := []) [] rfl ?_
        exact hJ4 _ (if_pos c3).symm
      · refine aw_iconst (v := 0) X dX7_noRow_46 (by decide) ?_
        refine aw_perm (ks9 := []) [] rfl ?_
        exact hJ4 _ (if_neg c3).symm
    · have n5 := (n9 c2)
      refine aw_aload_n X 0 dX7_noRow_21 rfl ?_
      refine aw_iload_n X 1 dX7_noRow_22 rfl ?_
      refine aw_pV X (as := [vI a1]) mf_X7_isRow zw_1149 (p_X7_isRow n5) zs_87 rfl rfl (by decide) (Nat.le_of_ble_eq_true rfl) dX7_noRow_23 ?_
      refine aw_if_ne X 32 dX7_noRow_26 rfl (fun c6 => ?_) (fun c6 => ?_)
      · refine aw_aload_n X 0 dX7_noRow_32 rfl ?_
        refine aw_getR X zf_RX7_7 rfl zs_87 zr_87_0 dX7_noRow_33 ?_
        refine aw_iload_n X 1 dX7_noRow_36 rfl ?_
        refine aw_ialdj (j := a1.toNatClampNeg) X zs_88 (zin_within c1 (by decide)) rfl dX7_noRow_37 ?_
        have hJ8 : ∀ (w1 : Int32), w1 = (if (I 88 a1.toNatClampNeg) < 0 then (-3) else (0 : Int32)) → AW k g 2 I L 47 [] [vI w1] := by
          intro w1 q1
          subst q1
          exact aw_iret X E rfl dX7_noRow_47 (hJ _ (((if_neg c6).symm.trans (if_neg c2).symm).trans (if_neg c1).symm))
        refine aw_if_gen X 46 dX7_noRow_38 rfl (fun c7 => ?_) (fun c7 => ?_)
        · refine aw_bipush (v := (-3)) X dX7_noRow_41 (by decide) ?_
          refine aw_goto X 47 dX7_noRow_43 rfl ?_
          refine aw_perm (ks9 := []) [] rfl ?_
          exact hJ8 _ (if_pos c7).symm
        · refine aw_iconst (v := 0) X dX7_noRow_46 (by decide) ?_
          refine aw_perm (ks9 := []) [] rfl ?_
          exact hJ8 _ (if_neg c7).symm
      · refine aw_bipush (v := (-2)) X dX7_noRow_29 (by decide) ?_
        exact aw_iret X E rfl dX7_noRow_31 (hJ _ (((if_pos c6).symm.trans (if_neg c2).symm).trans (if_neg c1).symm))
  · refine aw_iconst (v := (-1)) X dX7_noRow_10 (by decide) ?_
    exact aw_iret X E rfl dX7_noRow_11 (hJ _ (if_pos c1).symm)
set_option maxRecDepth 100000 in
theorem s_X7_page_21 {k : zK} {g : zG} {Q : Option zv → zI → zL → Prop} {I : zI} {L : zL} {y1 : Int32} {y2 : Int32} {y3 : Int32}  (X : zX k g cX7_page RX7 4 (some .int) 5) (E : zE k g Q) (h : if y3 < (I 87 5) then (vp_in y3 8 ∧ (if (I 95 y3.toNatClampNeg) = (-1) then (AW k g 4 I L 21 [(0, vR 87), (1, vI y1), (2, vI y2), (3, vI (y3 + 1))] []) else (Call (kl k) g 4 M_X7_readAt [vR 87, vI y3, vI (I 95 y3.toNatClampNeg), vI y1] I L (zi fun r4 I4 L4 => AW k g 4 I4 L4 21 [(0, vR 87), (1, vI y1), (2, vI (if r4 = (I4 95 y3.toNatClampNeg) then y2 ||| (jshl 1 y3) else y2)), (3, vI (y3 + 1))] [])))) else (Q (some (vI y2)) I L)) : AW k g 4 I L 21 [(0, vR 87), (1, vI y1), (2, vI y2), (3, vI y3)] [] := by
  refine aw_iload_n X 3 dX7_page_21 rfl ?_
  refine aw_aload_n X 0 dX7_page_22 rfl ?_
  refine aw_getI X zf_RX7_84 rfl zs_87 dX7_page_23 ?_
  refine aw_icmp_gen X 72 dX7_page_26 rfl (fun c1 => ?_) (fun c1 => ?_)
  · replace h := zifp c1 h
    refine aw_aload_n X 0 dX7_page_29 rfl ?_
    refine aw_getR X zf_RX7_32 rfl zs_87 zr_87_9 dX7_page_30 ?_
    refine aw_iload_n X 3 dX7_page_33 rfl ?_
    have n2 := h.1
    replace h := h.2
    refine aw_ialdj (j := y3.toNatClampNeg) X zs_95 n2 rfl dX7_page_34 ?_
    refine aw_iconst (v := (-1)) X dX7_page_35 (by decide) ?_
    refine aw_icmp_eq X 66 dX7_page_36 rfl (fun c3 => ?_) (fun c3 => ?_)
    · replace h := zifp c3 h
      refine aw_iinc (v := y3 + 1) X 3 dX7_page_66 rfl rfl (by decide) rfl ?_
      refine aw_goto X 21 dX7_page_69 rfl ?_
      refine aw_perm (ks9 := [(0, vR 87), (1, vI y1), (2, vI y2), (3, vI (y3 + 1))]) [1, 2, 3, 0] rfl ?_
      exact h
    · replace h := zifn c3 h
      refine aw_aload_n X 0 dX7_page_39 rfl ?_
      refine aw_iload_n X 3 dX7_page_40 rfl ?_
      refine aw_aload_n X 0 dX7_page_41 rfl ?_
      refine aw_getR X zf_RX7_32 rfl zs_87 zr_87_9 dX7_page_42 ?_
      refine aw_iload_n X 3 dX7_page_45 rfl ?_
      refine aw_ialdj (j := y3.toNatClampNeg) X zs_95 n2 rfl dX7_page_46 ?_
      refine aw_iload_n X 1 dX7_page_47 rfl ?_
      refine aw_callV X (as := [vI y3, vI (I 95 y3.toNatClampNeg), vI y1]) mf_X7_readAt zw_1324 h zs_87 rfl rfl (by decide) (Nat.le_of_ble_eq_true rfl) dX7_page_48 (fun v I4 L4 h => ?_)
      obtain ⟨r4, rfl, h⟩ := h
      refine aw_aload_n X 0 dX7_page_51 rfl ?_
      refine aw_getR X zf_RX7_32 rfl zs_87 zr_87_9 dX7_page_52 ?_
      refine aw_iload_n X 3 dX7_page_55 rfl ?_
      refine aw_ialdj (j := y3.toNatClampNeg) X zs_95 n2 rfl dX7_page_56 ?_
      have hJ6 : ∀ (w1 : Int32), w1 = (if r4 = (I4 95 y3.toNatClampNeg) then y2 ||| (jshl 1 y3) else y2) → AW k g 4 I4 L4 66 [(0, vR 87), (1, vI y1), (2, vI w1), (3, vI y3)] [] := by
        intro w1 q1
        subst q1
        refine aw_iinc (v := y3 + 1) X 3 dX7_page_66 rfl rfl (by decide) rfl ?_
        refine aw_goto X 21 dX7_page_69 rfl ?_
        refine aw_perm (ks9 := [(0, vR 87), (1, vI y1), (2, vI (if r4 = (I4 95 y3.toNatClampNeg) then y2 ||| (jshl 1 y3) else y2)), (3, vI (y3 + 1))]) [1, 2, 3, 0] rfl ?_
        exact h
      refine aw_icmp_ne X 66 dX7_page_57 rfl (fun c5 => ?_) (fun c5 => ?_)
      · refine aw_perm (ks9 := [(0, vR 87), (1, vI y1), (2, vI y2), (3, vI y3)]) [0, 1, 2, 3] rfl ?_
        exact hJ6 _ (if_neg c5).symm
      · refine aw_iload_n X 2 dX7_page_60 rfl ?_
        refine aw_iconst (v := 1) X dX7_page_61 (by decide) ?_
        refine aw_iload_n X 3 dX7_page_62 rfl ?_
        refine aw_ishl X dX7_page_63 ?_
        refine aw_ior X dX7_page_64 ?_
        refine aw_istore_n X dX7_page_65 (by decide) rfl ?_
        refine aw_perm (ks9 := [(0, vR 87), (1, vI y1), (2, vI (y2 ||| (jshl 1 y3))), (3, vI y3)]) [1, 2, 0, 3] rfl ?_
        exact hJ6 _ (if_pos c5).symm
  · replace h := zifn c1 h
    refine aw_iload_n X 2 dX7_page_72 rfl ?_
    exact aw_iret X E rfl dX7_page_73 h
set_option maxRecDepth 100000 in
theorem m_X7_page {l : Launch} {g : zG} {Q : Option zv → zI → zL → Prop} {I : zI} {L : zL} {a1 : Int32}  (h : ∀ k : zK, kl k = l → zX k g cX7_page RX7 4 (some .int) 5 → zE k g Q → (if (v_X7_within a1 0 24) = 0 then (Call (kl k) g 1 M_X7_no [vR 87, vI (-6)] I L (zi fun r2 I2 L2 => Q (some (vI r2)) I2 L2)) else (AW k g 4 I L 21 [(0, vR 87), (1, vI a1), (2, vI 0), (3, vI 0)] []))) : Call l g 5 M_X7_page [vR 87, vI a1] I L Q := by
  refine aw_entry (by decide) (Nat.le_of_ble_eq_true rfl) (fun k hk (X : zX k g cX7_page RX7 4 (some .int) 5) E => ?_)
  show AW k g 4 I L 0 [(0, vR 87), (1, vI a1)] []
  replace h := h k hk X E
  subst hk
  refine aw_iload_n X 1 dX7_page_0 rfl ?_
  refine aw_iconst (v := 0) X dX7_page_1 (by decide) ?_
  refine aw_bipush (v := 24) X dX7_page_2 (by decide) ?_
  refine aw_pS X (as := [vI a1, vI 0, vI 24]) mf_X7_within zw_1134 (p_X7_within) rfl rfl (by decide) (Nat.le_of_ble_eq_true rfl) dX7_page_4 ?_
  refine aw_if_ne X 17 dX7_page_7 rfl (fun c1 => ?_) (fun c1 => ?_)
  · replace h := zifn c1 h
    refine aw_iconst (v := 0) X dX7_page_17 (by decide) ?_
    refine aw_istore_n X dX7_page_18 (by decide) rfl ?_
    refine aw_iconst (v := 0) X dX7_page_19 (by decide) ?_
    refine aw_istore_n X dX7_page_20 (by decide) rfl ?_
    refine aw_perm (ks9 := [(0, vR 87), (1, vI a1), (2, vI 0), (3, vI 0)]) [2, 3, 1, 0] rfl ?_
    exact h
  · replace h := zifp c1 h
    refine aw_aload_n X 0 dX7_page_10 rfl ?_
    refine aw_bipush (v := (-6)) X dX7_page_11 (by decide) ?_
    refine aw_callV X (as := [vI (-6)]) mf_X7_no zw_1137 h zs_87 rfl rfl (by decide) (Nat.le_of_ble_eq_true rfl) dX7_page_13 (fun v I2 L2 h => ?_)
    obtain ⟨r2, rfl, h⟩ := h
    exact aw_iret X E rfl dX7_page_16 h
set_option maxRecDepth 100000 in
theorem m_X7_paneOf {l : Launch} {g : zG} {Q : Option zv → zI → zL → Prop} {I : zI} {L : zL} {a1 : Int32} {a2 : Int32}  (h : if (v_X7_isPane I a1) = 0 then (Call l g 1 M_X7_no [vR 87, vI (-5)] I L (zi fun r2 I2 L2 => Q (some (vI r2)) I2 L2)) else (if (v_X7_within a2 0 4) = 0 then (Call l g 1 M_X7_no [vR 87, vI (-5)] I L (zi fun r22 I22 L22 => Q (some (vI r22)) I22 L22)) else (if a2 = 0 then (vp_in a1 8 ∧ (Q (some (vI (I 92 a1.toNatClampNeg))) I L)) else if a2 = 1 then (vp_in a1 8 ∧ (Q (some (vI (I 93 a1.toNatClampNeg))) I L)) else if a2 = 2 then (vp_in a1 8 ∧ (Q (some (vI (I 94 a1.toNatClampNeg))) I L)) else if a2 = 3 then (k_X7_sharp I a1 ∧ (Q (some (vI (v_X7_sharp I a1))) I L)) else (vp_in a1 8 ∧ (Q (some (vI (I 96 a1.toNatClampNeg))) I L))))) : Call l g 3 M_X7_paneOf [vR 87, vI a1, vI a2] I L Q := by
  refine aw_entry (by decide) (Nat.le_of_ble_eq_true rfl) (fun k hk (X : zX k g cX7_paneOf RX7 3 (some .int) 3) E => ?_)
  show AW k g 3 I L 0 [(0, vR 87), (1, vI a1), (2, vI a2)] []
  subst hk
  refine aw_aload_n X 0 dX7_paneOf_0 rfl ?_
  refine aw_iload_n X 1 dX7_paneOf_1 rfl ?_
  refine aw_pV X (as := [vI a1]) mf_X7_isPane zw_1165 (p_X7_isPane) zs_87 rfl rfl (by decide) (Nat.le_of_ble_eq_true rfl) dX7_paneOf_2 ?_
  refine aw_if_eq X 17 dX7_paneOf_5 rfl (fun c1 => ?_) (fun c1 => ?_)
  · replace h := zifp c1 h
    refine aw_aload_n X 0 dX7_paneOf_17 rfl ?_
    refine aw_bipush (v := (-5)) X dX7_paneOf_18 (by decide) ?_
    refine aw_callV X (as := [vI (-5)]) mf_X7_no zw_1137 h zs_87 rfl rfl (by decide) (Nat.le_of_ble_eq_true rfl) dX7_paneOf_20 (fun v I2 L2 h => ?_)
    obtain ⟨r2, rfl, h⟩ := h
    exact aw_iret X E rfl dX7_paneOf_23 h
  · replace h := zifn c1 h
    refine aw_iload_n X 2 dX7_paneOf_8 rfl ?_
    refine aw_iconst (v := 0) X dX7_paneOf_9 (by decide) ?_
    refine aw_iconst (v := 4) X dX7_paneOf_10 (by decide) ?_
    refine aw_pS X (as := [vI a2, vI 0, vI 4]) mf_X7_within zw_1134 (p_X7_within) rfl rfl (by decide) (Nat.le_of_ble_eq_true rfl) dX7_paneOf_11 ?_
    refine aw_if_ne X 24 dX7_paneOf_14 rfl (fun c3 => ?_) (fun c3 => ?_)
    · replace h := zifn c3 h
      refine aw_iload_n X 2 dX7_paneOf_24 rfl ?_
      by_cases c13 : a2 = 0
      · replace h := zifp c13 h
        refine aw_tableIn X 0 56 dX7_paneOf_25 (by rw [c13]; rfl) (by decide) rfl rfl ?_
        refine aw_aload_n X 0 dX7_paneOf_56 rfl ?_
        refine aw_getR X zf_RX7_23 rfl zs_87 zr_87_6 dX7_paneOf_57 ?_
        refine aw_iload_n X 1 dX7_paneOf_60 rfl ?_
        have n14 := h.1
        replace h := h.2
        refine aw_ialdj (j := a1.toNatClampNeg) X zs_92 n14 rfl dX7_paneOf_61 ?_
        exact aw_iret X E rfl dX7_paneOf_62 h
      replace h := zifn c13 h
      by_cases c15 : a2 = 1
      · replace h := zifp c15 h
        refine aw_tableIn X 1 63 dX7_paneOf_25 (by rw [c15]; rfl) (by decide) rfl rfl ?_
        refine aw_aload_n X 0 dX7_paneOf_63 rfl ?_
        refine aw_getR X zf_RX7_26 rfl zs_87 zr_87_7 dX7_paneOf_64 ?_
        refine aw_iload_n X 1 dX7_paneOf_67 rfl ?_
        have n16 := h.1
        replace h := h.2
        refine aw_ialdj (j := a1.toNatClampNeg) X zs_93 n16 rfl dX7_paneOf_68 ?_
        exact aw_iret X E rfl dX7_paneOf_69 h
      replace h := zifn c15 h
      by_cases c17 : a2 = 2
      · replace h := zifp c17 h
        refine aw_tableIn X 2 70 dX7_paneOf_25 (by rw [c17]; rfl) (by decide) rfl rfl ?_
        refine aw_aload_n X 0 dX7_paneOf_70 rfl ?_
        refine aw_getR X zf_RX7_29 rfl zs_87 zr_87_8 dX7_paneOf_71 ?_
        refine aw_iload_n X 1 dX7_paneOf_74 rfl ?_
        have n18 := h.1
        replace h := h.2
        refine aw_ialdj (j := a1.toNatClampNeg) X zs_94 n18 rfl dX7_paneOf_75 ?_
        exact aw_iret X E rfl dX7_paneOf_76 h
      replace h := zifn c17 h
      by_cases c19 : a2 = 3
      · replace h := zifp c19 h
        refine aw_tableIn X 3 77 dX7_paneOf_25 (by rw [c19]; rfl) (by decide) rfl rfl ?_
        refine aw_aload_n X 0 dX7_paneOf_77 rfl ?_
        refine aw_iload_n X 1 dX7_paneOf_78 rfl ?_
        have n20 := h.1
        replace h := h.2
        refine aw_pV X (as := [vI a1]) mf_X7_sharp zw_1183 (p_X7_sharp n20) zs_87 rfl rfl (by decide) (Nat.le_of_ble_eq_true rfl) dX7_paneOf_79 ?_
        exact aw_iret X E rfl dX7_paneOf_82 h
      replace h := zifn c19 h
      have e0 := ztn (n := 0) rfl c13
      have e1 := ztn (n := 1) rfl c15
      have e2 := ztn (n := 2) rfl c17
      have e3 := ztn (n := 3) rfl c19
      refine aw_tableOut X 83 dX7_paneOf_25 (by omega) rfl ?_
      refine aw_aload_n X 0 dX7_paneOf_83 rfl ?_
      refine aw_getR X zf_RX7_35 rfl zs_87 zr_87_10 dX7_paneOf_84 ?_
      refine aw_iload_n X 1 dX7_paneOf_87 rfl ?_
      have n21 := h.1
      replace h := h.2
      refine aw_ialdj (j := a1.toNatClampNeg) X zs_96 n21 rfl dX7_paneOf_88 ?_
      exact aw_iret X E rfl dX7_paneOf_89 h
    · replace h := zifp c3 h
      refine aw_aload_n X 0 dX7_paneOf_17 rfl ?_
      refine aw_bipush (v := (-5)) X dX7_paneOf_18 (by decide) ?_
      refine aw_callV X (as := [vI (-5)]) mf_X7_no zw_1137 h zs_87 rfl rfl (by decide) (Nat.le_of_ble_eq_true rfl) dX7_paneOf_20 (fun v I22 L22 h => ?_)
      obtain ⟨r22, rfl, h⟩ := h
      exact aw_iret X E rfl dX7_paneOf_23 h
set_option maxRecDepth 100000 in
theorem s_X7_press_48 {k : zK} {g : zG} {Q : Option zv → zI → zL → Prop} {I : zI} {L : zL} {y1 : Int32} {y3 : Int32} {y4 : Int32} {y5 : Int32} {y6 : Int32} {y7 : Int32} {y8 : Int32}  (X : zX k g cX7_press RX7 11 (some .int) 11) (E : zE k g Q) (h : if y8 < 8 then (vp_in y8 8 ∧ (AW k g 11 (zs I 104 y8.toNatClampNeg (I 95 y8.toNatClampNeg)) L 48 [(0, vR 87), (1, vI y1), (3, vI y3), (4, vI y4), (5, vI y5), (6, vI y6), (7, vI y7), (8, vI (y8 + 1))] [])) else ((∀ I3 : zI, I3 = (zs I 87 26 y1) → AW k g 11 (zs I3 87 27 0) L 91 [(0, vR 87), (1, vI y1), (3, vI y3), (4, vI y4), (5, vI y5), (6, vI y6), (7, vI y7), (8, vI 0), (9, vI 1)] []))) : AW k g 11 I L 48 [(0, vR 87), (1, vI y1), (3, vI y3), (4, vI y4), (5, vI y5), (6, vI y6), (7, vI y7), (8, vI y8)] [] := by
  refine aw_iload X 7 dX7_press_48 rfl ?_
  refine aw_bipush (v := 8) X dX7_press_50 (by decide) ?_
  refine aw_icmp_gen X 75 dX7_press_52 rfl (fun c1 => ?_) (fun c1 => ?_)
  · replace h := zifp c1 h
    refine aw_aload_n X 0 dX7_press_55 rfl ?_
    refine aw_getR X zf_RX7_59 rfl zs_87 zr_87_29 dX7_press_56 ?_
    refine aw_iload X 7 dX7_press_59 rfl ?_
    refine aw_aload_n X 0 dX7_press_61 rfl ?_
    refine aw_getR X zf_RX7_32 rfl zs_87 zr_87_9 dX7_press_62 ?_
    refine aw_iload X 7 dX7_press_65 rfl ?_
    have n2 := h.1
    replace h := h.2
    refine aw_ialdj (j := y8.toNatClampNeg) X zs_95 n2 rfl dX7_press_67 ?_
    refine aw_iastj (j := y8.toNatClampNeg) X zs_104 n2 rfl dX7_press_68 ?_
    refine aw_iinc (v := y8 + 1) X 7 dX7_press_69 rfl rfl (by decide) rfl ?_
    refine aw_goto X 48 dX7_press_72 rfl ?_
    refine aw_perm (ks9 := [(0, vR 87), (1, vI y1), (3, vI y3), (4, vI y4), (5, vI y5), (6, vI y6), (7, vI y7), (8, vI (y8 + 1))]) [1, 2, 3, 4, 5, 6, 7, 0] rfl ?_
    exact h
  · replace h := zifn c1 h
    refine aw_aload_n X 0 dX7_press_75 rfl ?_
    refine aw_iload_n X 1 dX7_press_76 rfl ?_
    refine aw_putI X zf_RX7_137 rfl rfl rfl zs_87 dX7_press_77 ?_
    refine aw_aload_n X 0 dX7_press_80 rfl ?_
    refine aw_iconst (v := 0) X dX7_press_81 (by decide) ?_
    refine aw_nameI (fun I3 e3 => ?_)
    replace h := h I3 e3
    refine aw_putI X zf_RX7_134 rfl rfl rfl zs_87 dX7_press_82 ?_
    refine aw_iconst (v := 0) X dX7_press_85 (by decide) ?_
    refine aw_istore X dX7_press_86 (by decide) rfl ?_
    refine aw_iconst (v := 1) X dX7_press_88 (by decide) ?_
    refine aw_istore X dX7_press_89 (by decide) rfl ?_
    refine aw_perm (ks9 := [(0, vR 87), (1, vI y1), (3, vI y3), (4, vI y4), (5, vI y5), (6, vI y6), (7, vI y7), (8, vI 0), (9, vI 1)]) [2, 3, 4, 5, 6, 7, 8, 1, 0] rfl ?_
    exact h
set_option maxRecDepth 100000 in
theorem s_X7_press_91 {k : zK} {g : zG} {Q : Option zv → zI → zL → Prop} {I : zI} {L : zL} {y1 : Int32} {y3 : Int32} {y4 : Int32} {y5 : Int32} {y6 : Int32} {y7 : Int32} {y8 : Int32} {y9 : Int32}  (X : zX k g cX7_press RX7 11 (some .int) 11) (E : zE k g Q) (h : if y9 = 0 then ((∀ I2 : zI, I2 = (zs I 87 18 (I 87 27)) → (∀ I3 : zI, I3 = (zs I2 87 3 y3) → (∀ I4 : zI, I4 = (zs I3 87 5 y4) → (∀ I5 : zI, I5 = (zs I4 87 12 y5) → (∀ I6 : zI, I6 = (zs I5 87 13 y6) → AW k g 11 (zs I6 87 14 y7) L 192 [(0, vR 87), (10, vI 0)] [])))))) else (Call (kl k) g 10 M_X7_item [vR 87] I L (zi fun r7 I7 L7 => if r7 = 0 then (if r7 = 0 then (AW k g 11 I7 L7 91 [(0, vR 87), (1, vI y1), (3, vI y3), (4, vI y4), (5, vI y5), (6, vI y6), (7, vI y7), (8, vI (if r7 = 0 then y8 else (y8 + 1))), (9, vI r7)] []) else (Call (kl k) g 2 M_X7_is [vR 87, vI 59] I7 L7 (zi fun r12 I12 L12 => AW k g 11 I12 L12 91 [(0, vR 87), (1, vI y1), (3, vI y3), (4, vI y4), (5, vI y5), (6, vI y6), (7, vI y7), (8, vI (if r7 = 0 then y8 else (y8 + 1))), (9, vI r12)] []))) else (vp_in y1 8 ∧ (if (I7 87 27) = (I7 89 y1.toNatClampNeg) then (Q (some (vI (if r7 = 0 then y8 else (y8 + 1)))) (zs I7 87 18 (-1)) L7) else (if r7 = 0 then (AW k g 11 I7 L7 91 [(0, vR 87), (1, vI y1), (3, vI y3), (4, vI y4), (5, vI y5), (6, vI y6), (7, vI y7), (8, vI (if r7 = 0 then y8 else (y8 + 1))), (9, vI r7)] []) else (Call (kl k) g 2 M_X7_is [vR 87, vI 59] I7 L7 (zi fun r16 I16 L16 => AW k g 11 I16 L16 91 [(0, vR 87), (1, vI y1), (3, vI y3), (4, vI y4), (5, vI y5), (6, vI y6), (7, vI y7), (8, vI (if r7 = 0 then y8 else (y8 + 1))), (9, vI r16)] [])))))))) : AW k g 11 I L 91 [(0, vR 87), (1, vI y1), (3, vI y3), (4, vI y4), (5, vI y5), (6, vI y6), (7, vI y7), (8, vI y8), (9, vI y9)] [] := by
  refine aw_iload X 8 dX7_press_91 rfl ?_
  refine aw_if_eq X 152 dX7_press_93 rfl (fun c1 => ?_) (fun c1 => ?_)
  · replace h := zifp c1 h
    refine aw_aload_n X 0 dX7_press_152 rfl ?_
    refine aw_aload_n X 0 dX7_press_153 rfl ?_
    refine aw_getI X zf_RX7_134 rfl zs_87 dX7_press_154 ?_
    refine aw_putI X zf_RX7_81 rfl rfl rfl zs_87 dX7_press_157 ?_
    refine aw_aload_n X 0 dX7_press_160 rfl ?_
    refine aw_iload_n X 2 dX7_press_161 rfl ?_
    refine aw_nameI (fun I2 e2 => ?_)
    replace h := h I2 e2
    refine aw_putI X zf_RX7_91 rfl rfl rfl zs_87 dX7_press_162 ?_
    refine aw_aload_n X 0 dX7_press_165 rfl ?_
    refine aw_iload X 3 dX7_press_166 rfl ?_
    refine aw_nameI (fun I3 e3 => ?_)
    replace h := h I3 e3
    refine aw_putI X zf_RX7_84 rfl rfl rfl zs_87 dX7_press_168 ?_
    refine aw_aload_n X 0 dX7_press_171 rfl ?_
    refine aw_iload X 4 dX7_press_172 rfl ?_
    refine aw_nameI (fun I4 e4 => ?_)
    replace h := h I4 e4
    refine aw_putI X zf_RX7_65 rfl rfl rfl zs_87 dX7_press_174 ?_
    refine aw_aload_n X 0 dX7_press_177 rfl ?_
    refine aw_iload X 5 dX7_press_178 rfl ?_
    refine aw_nameI (fun I5 e5 => ?_)
    replace h := h I5 e5
    refine aw_putI X zf_RX7_69 rfl rfl rfl zs_87 dX7_press_180 ?_
    refine aw_aload_n X 0 dX7_press_183 rfl ?_
    refine aw_iload X 6 dX7_press_184 rfl ?_
    refine aw_nameI (fun I6 e6 => ?_)
    replace h := h I6 e6
    refine aw_putI X zf_RX7_72 rfl rfl rfl zs_87 dX7_press_186 ?_
    refine aw_iconst (v := 0) X dX7_press_189 (by decide) ?_
    refine aw_istore X dX7_press_190 (by decide) rfl ?_
    refine aw_perm (ks9 := [(0, vR 87), (10, vI 0)]) [1, 0] rfl ?_
    exact h
  · replace h := zifn c1 h
    refine aw_aload_n X 0 dX7_press_96 rfl ?_
    refine aw_callV X (as := []) mf_X7_item zw_1237 h zs_87 rfl rfl (by decide) (Nat.le_of_ble_eq_true rfl) dX7_press_97 (fun v I7 L7 h => ?_)
    obtain ⟨r7, rfl, h⟩ := h
    refine aw_istore X dX7_press_100 (by decide) rfl ?_
    refine aw_iload X 0 dX7_press_102 rfl ?_
    have hJ9 : ∀ (w1 : Int32), w1 = (if r7 = 0 then y8 else (y8 + 1)) → AW k g 11 I7 L7 110 [(0, vR 87), (1, vI y1), (3, vI y3), (4, vI y4), (5, vI y5), (6, vI y6), (7, vI y7), (8, vI w1), (9, vI r7)] [] := by
      intro w1 q1
      subst q1
      refine aw_iload X 8 dX7_press_110 rfl ?_
      refine aw_if_eq X 136 dX7_press_112 rfl (fun c10 => ?_) (fun c10 => ?_)
      · replace h := zifp c10 h
        refine aw_iload X 8 dX7_press_136 rfl ?_
        refine aw_if_eq X 91 dX7_press_138 rfl (fun c11 => ?_) (fun c11 => ?_)
        · replace h := zifp c11 h
          refine aw_perm (ks9 := [(0, vR 87), (1, vI y1), (3, vI y3), (4, vI y4), (5, vI y5), (6, vI y6), (7, vI y7), (8, vI (if r7 = 0 then y8 else (y8 + 1))), (9, vI r7)]) [0, 1, 2, 3, 4, 5, 6, 7, 8] rfl ?_
          exact h
        · replace h := zifn c11 h
          refine aw_aload_n X 0 dX7_press_141 rfl ?_
          refine aw_bipush (v := 59) X dX7_press_142 (by decide) ?_
          refine aw_callV X (as := [vI 59]) mf_X7_is zw_1256 h zs_87 rfl rfl (by decide) (Nat.le_of_ble_eq_true rfl) dX7_press_144 (fun v I12 L12 h => ?_)
          obtain ⟨r12, rfl, h⟩ := h
          refine aw_istore X dX7_press_147 (by decide) rfl ?_
          refine aw_goto X 91 dX7_press_149 rfl ?_
          refine aw_perm (ks9 := [(0, vR 87), (1, vI y1), (3, vI y3), (4, vI y4), (5, vI y5), (6, vI y6), (7, vI y7), (8, vI (if r7 = 0 then y8 else (y8 + 1))), (9, vI r12)]) [1, 2, 3, 4, 5, 6, 7, 8, 0] rfl ?_
          exact h
      · replace h := zifn c10 h
        refine aw_aload_n X 0 dX7_press_115 rfl ?_
        refine aw_getI X zf_RX7_134 rfl zs_87 dX7_press_116 ?_
        refine aw_aload_n X 0 dX7_press_119 rfl ?_
        refine aw_getR X zf_RX7_13 rfl zs_87 zr_87_1 dX7_press_120 ?_
        refine aw_iload_n X 1 dX7_press_123 rfl ?_
        have n13 := h.1
        replace h := h.2
        refine aw_ialdj (j := y1.toNatClampNeg) X zs_89 n13 rfl dX7_press_124 ?_
        refine aw_icmp_ne X 136 dX7_press_125 rfl (fun c14 => ?_) (fun c14 => ?_)
        · replace h := zifn c14 h
          refine aw_iload X 8 dX7_press_136 rfl ?_
          refine aw_if_eq X 91 dX7_press_138 rfl (fun c15 => ?_) (fun c15 => ?_)
          · replace h := zifp c15 h
            refine aw_perm (ks9 := [(0, vR 87), (1, vI y1), (3, vI y3), (4, vI y4), (5, vI y5), (6, vI y6), (7, vI y7), (8, vI (if r7 = 0 then y8 else (y8 + 1))), (9, vI r7)]) [0, 1, 2, 3, 4, 5, 6, 7, 8] rfl ?_
            exact h
          · replace h := zifn c15 h
            refine aw_aload_n X 0 dX7_press_141 rfl ?_
            refine aw_bipush (v := 59) X dX7_press_142 (by decide) ?_
            refine aw_callV X (as := [vI 59]) mf_X7_is zw_1256 h zs_87 rfl rfl (by decide) (Nat.le_of_ble_eq_true rfl) dX7_press_144 (fun v I16 L16 h => ?_)
            obtain ⟨r16, rfl, h⟩ := h
            refine aw_istore X dX7_press_147 (by decide) rfl ?_
            refine aw_goto X 91 dX7_press_149 rfl ?_
            refine aw_perm (ks9 := [(0, vR 87), (1, vI y1), (3, vI y3), (4, vI y4), (5, vI y5), (6, vI y6), (7, vI y7), (8, vI (if r7 = 0 then y8 else (y8 + 1))), (9, vI r16)]) [1, 2, 3, 4, 5, 6, 7, 8, 0] rfl ?_
            exact h
        · replace h := zifp c14 h
          refine aw_aload_n X 0 dX7_press_128 rfl ?_
          refine aw_iconst (v := (-1)) X dX7_press_129 (by decide) ?_
          refine aw_putI X zf_RX7_81 rfl rfl rfl zs_87 dX7_press_130 ?_
          refine aw_iload X 7 dX7_press_133 rfl ?_
          exact aw_iret X E rfl dX7_press_135 h
    refine aw_if_eq X 110 dX7_press_104 rfl (fun c8 => ?_) (fun c8 => ?_)
    · refine aw_perm (ks9 := [(0, vR 87), (1, vI y1), (3, vI y3), (4, vI y4), (5, vI y5), (6, vI y6), (7, vI y7), (8, vI y8), (9, vI r7)]) [1, 2, 3, 4, 5, 6, 7, 8, 0] rfl ?_
      exact hJ9 _ (if_pos c8).symm
    · refine aw_iinc (v := y8 + 1) X 8 dX7_press_107 rfl rfl (by decide) rfl ?_
      refine aw_perm (ks9 := [(0, vR 87), (1, vI y1), (3, vI y3), (4, vI y4), (5, vI y5), (6, vI y6), (7, vI y7), (8, vI (y8 + 1)), (9, vI r7)]) [2, 3, 4, 5, 6, 7, 8, 0, 1] rfl ?_
      exact hJ9 _ (if_neg c8).symm
set_option maxRecDepth 100000 in
theorem s_X7_press_192 {k : zK} {g : zG} {Q : Option zv → zI → zL → Prop} {I : zI} {L : zL} {y10 : Int32}  (X : zX k g cX7_press RX7 11 (some .int) 11) (E : zE k g Q) (h : if y10 < 8 then (vp_in y10 8 ∧ (AW k g 11 (zs I 95 y10.toNatClampNeg (I 104 y10.toNatClampNeg)) L 192 [(0, vR 87), (10, vI (y10 + 1))] [])) else (Call (kl k) g 1 M_X7_no [vR 87, vI (-6)] I L (zi fun r3 I3 L3 => Q (some (vI r3)) I3 L3))) : AW k g 11 I L 192 [(0, vR 87), (10, vI y10)] [] := by
  refine aw_iload X 1 dX7_press_192 rfl ?_
  refine aw_bipush (v := 8) X dX7_press_194 (by decide) ?_
  refine aw_icmp_gen X 219 dX7_press_196 rfl (fun c1 => ?_) (fun c1 => ?_)
  · replace h := zifp c1 h
    refine aw_aload_n X 0 dX7_press_199 rfl ?_
    refine aw_getR X zf_RX7_32 rfl zs_87 zr_87_9 dX7_press_200 ?_
    refine aw_iload X 1 dX7_press_203 rfl ?_
    refine aw_aload_n X 0 dX7_press_205 rfl ?_
    refine aw_getR X zf_RX7_59 rfl zs_87 zr_87_29 dX7_press_206 ?_
    refine aw_iload X 1 dX7_press_209 rfl ?_
    have n2 := h.1
    replace h := h.2
    refine aw_ialdj (j := y10.toNatClampNeg) X zs_104 n2 rfl dX7_press_211 ?_
    refine aw_iastj (j := y10.toNatClampNeg) X zs_95 n2 rfl dX7_press_212 ?_
    refine aw_iinc (v := y10 + 1) X 1 dX7_press_213 rfl rfl (by decide) rfl ?_
    refine aw_goto X 192 dX7_press_216 rfl ?_
    refine aw_perm (ks9 := [(0, vR 87), (10, vI (y10 + 1))]) [1, 0] rfl ?_
    exact h
  · replace h := zifn c1 h
    refine aw_aload_n X 0 dX7_press_219 rfl ?_
    refine aw_bipush (v := (-6)) X dX7_press_220 (by decide) ?_
    refine aw_callV X (as := [vI (-6)]) mf_X7_no zw_1137 h zs_87 rfl rfl (by decide) (Nat.le_of_ble_eq_true rfl) dX7_press_222 (fun v I3 L3 h => ?_)
    obtain ⟨r3, rfl, h⟩ := h
    exact aw_iret X E rfl dX7_press_225 h
set_option maxRecDepth 100000 in
theorem m_X7_press {l : Launch} {g : zG} {Q : Option zv → zI → zL → Prop} {I : zI} {L : zL} {a1 : Int32}  (h : ∀ k : zK, kl k = l → zX k g cX7_press RX7 11 (some .int) 11 → zE k g Q → (k_X7_noRow I a1 ∧ (if (v_X7_noRow I a1) < 0 then (Call (kl k) g 1 M_X7_no [vR 87, vI (v_X7_noRow I a1)] I L (zi fun r3 I3 L3 => Q (some (vI r3)) I3 L3)) else (AW k g 11 I L 48 [(0, vR 87), (1, vI a1), (3, vI (I 87 3)), (4, vI (I 87 5)), (5, vI (I 87 12)), (6, vI (I 87 13)), (7, vI (I 87 14)), (8, vI 0)] [])))) : Call l g 11 M_X7_press [vR 87, vI a1] I L Q := by
  refine aw_entry (by decide) (Nat.le_of_ble_eq_true rfl) (fun k hk (X : zX k g cX7_press RX7 11 (some .int) 11) E => ?_)
  show AW k g 11 I L 0 [(0, vR 87), (1, vI a1)] []
  replace h := h k hk X E
  subst hk
  refine aw_aload_n X 0 dX7_press_0 rfl ?_
  refine aw_iload_n X 1 dX7_press_1 rfl ?_
  have n1 := h.1
  replace h := h.2
  refine aw_pV X (as := [vI a1]) mf_X7_noRow zw_1145 (p_X7_noRow n1) zs_87 rfl rfl (by decide) (Nat.le_of_ble_eq_true rfl) dX7_press_2 ?_
  refine aw_istore_n X dX7_press_5 (by decide) rfl ?_
  refine aw_iload_n X 0 dX7_press_6 rfl ?_
  refine aw_if_gen X 16 dX7_press_7 rfl (fun c2 => ?_) (fun c2 => ?_)
  · replace h := zifp c2 h
    refine aw_aload_n X 1 dX7_press_10 rfl ?_
    refine aw_iload_n X 0 dX7_press_11 rfl ?_
    refine aw_callV X (as := [vI (v_X7_noRow I a1)]) mf_X7_no zw_1137 h zs_87 rfl rfl (by decide) (Nat.le_of_ble_eq_true rfl) dX7_press_12 (fun v I3 L3 h => ?_)
    obtain ⟨r3, rfl, h⟩ := h
    exact aw_iret X E rfl dX7_press_15 h
  · replace h := zifn c2 h
    refine aw_aload_n X 1 dX7_press_16 rfl ?_
    refine aw_getI X zf_RX7_91 rfl zs_87 dX7_press_17 ?_
    refine aw_istore_n X dX7_press_20 (by decide) rfl ?_
    refine aw_aload_n X 2 dX7_press_21 rfl ?_
    refine aw_getI X zf_RX7_84 rfl zs_87 dX7_press_22 ?_
    refine aw_istore X dX7_press_25 (by decide) rfl ?_
    refine aw_aload_n X 3 dX7_press_27 rfl ?_
    refine aw_getI X zf_RX7_65 rfl zs_87 dX7_press_28 ?_
    refine aw_istore X dX7_press_31 (by decide) rfl ?_
    refine aw_aload_n X 4 dX7_press_33 rfl ?_
    refine aw_getI X zf_RX7_69 rfl zs_87 dX7_press_34 ?_
    refine aw_istore X dX7_press_37 (by decide) rfl ?_
    refine aw_aload_n X 5 dX7_press_39 rfl ?_
    refine aw_getI X zf_RX7_72 rfl zs_87 dX7_press_40 ?_
    refine aw_istore X dX7_press_43 (by decide) rfl ?_
    refine aw_iconst (v := 0) X dX7_press_45 (by decide) ?_
    refine aw_istore X dX7_press_46 (by decide) rfl ?_
    refine aw_perm (ks9 := [(0, vR 87), (1, vI a1), (3, vI (I 87 3)), (4, vI (I 87 5)), (5, vI (I 87 12)), (6, vI (I 87 13)), (7, vI (I 87 14)), (8, vI 0)]) [7, 8, 5, 4, 3, 2, 1, 0] rfl ?_
    exact h
set_option maxRecDepth 100000 in
theorem s_X7_prints_62 {k : zK} {g : zG} {Q : Option zv → zI → zL → Prop} {I : zI} {L : zL} {y1 : Int32} {y2 : Int32} {y3 : Int32} {y4 : Int32} {y6 : Int32}  (X : zX k g cX7_prints RX7 12 (some .int) 5) (E : zE k g Q) (h : if y6 < y2 then (vp_in ((160 * y1) + y6) 1280 ∧ (if (v_X7_isLetter I ((L 90 (((160 * y1) + y6).toNatClampNeg)).toInt32)) = 0 then (Call (kl k) g 1 M_X7_no [vR 87, vI (-6)] I L (zi fun r4 I4 L4 => Q (some (vI r4)) I4 L4)) else (AW k g 12 I L 62 [(0, vR 87), (1, vI y1), (2, vI y2), (3, vI y3), (4, vI y4), (6, vI (y6 + 1))] []))) else (if (v_X7_within y3 0 24) = 0 then (Call (kl k) g 1 M_X7_no [vR 87, vI (-6)] I L (zi fun r8 I8 L8 => Q (some (vI r8)) I8 L8)) else (if (I 87 5) < y2 then (Call (kl k) g 1 M_X7_no [vR 87, vI (-7)] I L (zi fun r7 I7 L7 => Q (some (vI r7)) I7 L7)) else (AW k g 12 I L 140 [(0, vR 87), (1, vI y1), (2, vI y2), (3, vI y3), (4, vI y4), (6, vI (-1)), (7, vI 0)] [])))) : AW k g 12 I L 62 [(0, vR 87), (1, vI y1), (2, vI y2), (3, vI y3), (4, vI y4), (6, vI y6)] [] := by
  refine aw_iload X 5 dX7_prints_62 rfl ?_
  refine aw_iload_n X 2 dX7_prints_64 rfl ?_
  refine aw_icmp_gen X 102 dX7_prints_65 rfl (fun c1 => ?_) (fun c1 => ?_)
  · replace h := zifp c1 h
    refine aw_aload_n X 0 dX7_prints_68 rfl ?_
    refine aw_aload_n X 0 dX7_prints_69 rfl ?_
    refine aw_getR X zf_RX7_16 rfl zs_87 zr_87_2 dX7_prints_70 ?_
    refine aw_sipush (v := 160) X dX7_prints_73 (by decide) ?_
    refine aw_iload_n X 1 dX7_prints_76 rfl ?_
    refine aw_imul X dX7_prints_77 ?_
    refine aw_iload X 5 dX7_prints_78 rfl ?_
    refine aw_iadd X dX7_prints_80 ?_
    have n2 := h.1
    replace h := h.2
    refine aw_laldj (j := ((160 * y1) + y6).toNatClampNeg) X zs_90 n2 rfl dX7_prints_81 ?_
    refine aw_l2i X dX7_prints_82 ?_
    refine aw_pV X (as := [vI ((L 90 (((160 * y1) + y6).toNatClampNeg)).toInt32)]) mf_X7_isLetter zw_1201 (p_X7_isLetter) zs_87 rfl rfl (by decide) (Nat.le_of_ble_eq_true rfl) dX7_prints_83 ?_
    refine aw_if_ne X 96 dX7_prints_86 rfl (fun c3 => ?_) (fun c3 => ?_)
    · replace h := zifn c3 h
      refine aw_iinc (v := y6 + 1) X 5 dX7_prints_96 rfl rfl (by decide) rfl ?_
      refine aw_goto X 62 dX7_prints_99 rfl ?_
      refine aw_perm (ks9 := [(0, vR 87), (1, vI y1), (2, vI y2), (3, vI y3), (4, vI y4), (6, vI (y6 + 1))]) [1, 2, 3, 4, 5, 0] rfl ?_
      exact h
    · replace h := zifp c3 h
      refine aw_aload_n X 0 dX7_prints_89 rfl ?_
      refine aw_bipush (v := (-6)) X dX7_prints_90 (by decide) ?_
      refine aw_callV X (as := [vI (-6)]) mf_X7_no zw_1137 h zs_87 rfl rfl (by decide) (Nat.le_of_ble_eq_true rfl) dX7_prints_92 (fun v I4 L4 h => ?_)
      obtain ⟨r4, rfl, h⟩ := h
      exact aw_iret X E rfl dX7_prints_95 h
  · replace h := zifn c1 h
    refine aw_iload_n X 3 dX7_prints_102 rfl ?_
    refine aw_iconst (v := 0) X dX7_prints_103 (by decide) ?_
    refine aw_bipush (v := 24) X dX7_prints_104 (by decide) ?_
    refine aw_pS X (as := [vI y3, vI 0, vI 24]) mf_X7_within zw_1134 (p_X7_within) rfl rfl (by decide) (Nat.le_of_ble_eq_true rfl) dX7_prints_106 ?_
    refine aw_if_ne X 119 dX7_prints_109 rfl (fun c5 => ?_) (fun c5 => ?_)
    · replace h := zifn c5 h
      refine aw_iload_n X 2 dX7_prints_119 rfl ?_
      refine aw_aload_n X 0 dX7_prints_120 rfl ?_
      refine aw_getI X zf_RX7_84 rfl zs_87 dX7_prints_121 ?_
      refine aw_icmp_len X 134 dX7_prints_124 rfl (fun c6 => ?_) (fun c6 => ?_)
      · replace h := zifp c6 h
        refine aw_aload_n X 0 dX7_prints_127 rfl ?_
        refine aw_bipush (v := (-7)) X dX7_prints_128 (by decide) ?_
        refine aw_callV X (as := [vI (-7)]) mf_X7_no zw_1137 h zs_87 rfl rfl (by decide) (Nat.le_of_ble_eq_true rfl) dX7_prints_130 (fun v I7 L7 h => ?_)
        obtain ⟨r7, rfl, h⟩ := h
        exact aw_iret X E rfl dX7_prints_133 h
      · replace h := zifn c6 h
        refine aw_iconst (v := (-1)) X dX7_prints_134 (by decide) ?_
        refine aw_istore X dX7_prints_135 (by decide) rfl ?_
        refine aw_iconst (v := 0) X dX7_prints_137 (by decide) ?_
        refine aw_istore X dX7_prints_138 (by decide) rfl ?_
        refine aw_perm (ks9 := [(0, vR 87), (1, vI y1), (2, vI y2), (3, vI y3), (4, vI y4), (6, vI (-1)), (7, vI 0)]) [2, 3, 4, 5, 6, 1, 0] rfl ?_
        exact h
    · replace h := zifp c5 h
      refine aw_aload_n X 0 dX7_prints_112 rfl ?_
      refine aw_bipush (v := (-6)) X dX7_prints_113 (by decide) ?_
      refine aw_callV X (as := [vI (-6)]) mf_X7_no zw_1137 h zs_87 rfl rfl (by decide) (Nat.le_of_ble_eq_true rfl) dX7_prints_115 (fun v I8 L8 h => ?_)
      obtain ⟨r8, rfl, h⟩ := h
      exact aw_iret X E rfl dX7_prints_118 h
set_option maxRecDepth 100000 in
theorem s_X7_prints_140 {k : zK} {g : zG} {Q : Option zv → zI → zL → Prop} {I : zI} {L : zL} {y1 : Int32} {y2 : Int32} {y3 : Int32} {y4 : Int32} {y6 : Int32} {y7 : Int32}  (X : zX k g cX7_prints RX7 12 (some .int) 5) (E : zE k g Q) (h : if y7 < (jshl 1 (I 87 5)) then (if (v_J6_bitCount_0f7a4 y7) = y2 then (AW k g 12 I L 172 [(0, vR 87), (1, vI y1), (2, vI y2), (3, vI y3), (4, vI y4), (6, vI y6), (7, vI y7), (8, vI 0), (9, vI 0), (10, vI 0)] []) else (AW k g 12 I L 140 [(0, vR 87), (1, vI y1), (2, vI y2), (3, vI y3), (4, vI y4), (6, vI y6), (7, vI (y7 + 1))] [])) else ((¬ (y4 = (-1)) → vp_in y4 8) ∧ (Q (some (vI (if y4 = (-1) then y6 else (I 105 y4.toNatClampNeg)))) I L))) : AW k g 12 I L 140 [(0, vR 87), (1, vI y1), (2, vI y2), (3, vI y3), (4, vI y4), (6, vI y6), (7, vI y7)] [] := by
  refine aw_iload X 6 dX7_prints_140 rfl ?_
  refine aw_iconst (v := 1) X dX7_prints_142 (by decide) ?_
  refine aw_aload_n X 0 dX7_prints_143 rfl ?_
  refine aw_getI X zf_RX7_84 rfl zs_87 dX7_prints_144 ?_
  refine aw_ishl X dX7_prints_147 ?_
  refine aw_icmp_gen X 375 dX7_prints_148 rfl (fun c1 => ?_) (fun c1 => ?_)
  · replace h := zifp c1 h
    refine aw_iload X 6 dX7_prints_151 rfl ?_
    refine aw_pS X (as := [vI y7]) mf_J6_bitCount_0f7a4 zw_1319 (p_J6_bitCount_0f7a4) rfl rfl (by decide) (Nat.le_of_ble_eq_true rfl) dX7_prints_153 ?_
    refine aw_iload_n X 2 dX7_prints_156 rfl ?_
    refine aw_icmp_eq X 163 dX7_prints_157 rfl (fun c2 => ?_) (fun c2 => ?_)
    · replace h := zifp c2 h
      refine aw_iconst (v := 0) X dX7_prints_163 (by decide) ?_
      refine aw_istore X dX7_prints_164 (by decide) rfl ?_
      refine aw_iconst (v := 0) X dX7_prints_166 (by decide) ?_
      refine aw_istore X dX7_prints_167 (by decide) rfl ?_
      refine aw_iconst (v := 0) X dX7_prints_169 (by decide) ?_
      refine aw_istore X dX7_prints_170 (by decide) rfl ?_
      refine aw_perm (ks9 := [(0, vR 87), (1, vI y1), (2, vI y2), (3, vI y3), (4, vI y4), (6, vI y6), (7, vI y7), (8, vI 0), (9, vI 0), (10, vI 0)]) [3, 4, 5, 6, 7, 8, 9, 2, 1, 0] rfl ?_
      exact h
    · replace h := zifn c2 h
      refine aw_goto X 369 dX7_prints_160 rfl ?_
      refine aw_iinc (v := y7 + 1) X 6 dX7_prints_369 rfl rfl (by decide) rfl ?_
      refine aw_goto X 140 dX7_prints_372 rfl ?_
      refine aw_perm (ks9 := [(0, vR 87), (1, vI y1), (2, vI y2), (3, vI y3), (4, vI y4), (6, vI y6), (7, vI (y7 + 1))]) [1, 2, 3, 4, 5, 6, 0] rfl ?_
      exact h
  · replace h := zifn c1 h
    refine aw_iload X 4 dX7_prints_375 rfl ?_
    refine aw_iconst (v := (-1)) X dX7_prints_377 (by decide) ?_
    have n5 := h.1
    replace h := h.2
    have hJ6 : ∀ (w1 : Int32), w1 = (if y4 = (-1) then y6 else (I 105 y4.toNatClampNeg)) → AW k g 12 I L 393 [] [vI w1] := by
      intro w1 q1
      subst q1
      exact aw_iret X E rfl dX7_prints_393 h
    refine aw_icmp_ne X 386 dX7_prints_378 rfl (fun c3 => ?_) (fun c3 => ?_)
    · have n4 := (n5 c3)
      refine aw_aload_n X 0 dX7_prints_386 rfl ?_
      refine aw_getR X zf_RX7_62 rfl zs_87 zr_87_30 dX7_prints_387 ?_
      refine aw_iload X 4 dX7_prints_390 rfl ?_
      refine aw_ialdj (j := y4.toNatClampNeg) X zs_105 n4 rfl dX7_prints_392 ?_
      refine aw_perm (ks9 := []) [] rfl ?_
      exact hJ6 _ (if_neg c3).symm
    · refine aw_iload X 5 dX7_prints_381 rfl ?_
      refine aw_goto X 393 dX7_prints_383 rfl ?_
      refine aw_perm (ks9 := []) [] rfl ?_
      exact hJ6 _ (if_pos c3).symm
set_option maxRecDepth 100000 in
theorem s_X7_prints_172 {k : zK} {g : zG} {Q : Option zv → zI → zL → Prop} {I : zI} {L : zL} {y1 : Int32} {y2 : Int32} {y3 : Int32} {y4 : Int32} {y6 : Int32} {y7 : Int32} {y8 : Int32} {y9 : Int32} {y10 : Int32}  (X : zX k g cX7_prints RX7 12 (some .int) 5) (E : zE k g Q) (h : if y10 < (I 87 5) then (if ((jshr y7 y10) &&& 1) = 0 then (AW k g 12 I L 172 [(0, vR 87), (1, vI y1), (2, vI y2), (3, vI y3), (4, vI y4), (6, vI y6), (7, vI y7), (8, vI y8), (9, vI y9), (10, vI (y10 + 1))] []) else (vp_in ((160 * y1) + y8) 1280 ∧ (Call (kl k) g 4 M_X7_readAt [vR 87, vI y10, vI ((L 90 (((160 * y1) + y8).toNatClampNeg)).toInt32), vI y3] I L (zi fun r4 I4 L4 => (∀ u7 : Int32, u7 = (if r4 = ((L 90 (((160 * y1) + y8).toNatClampNeg)).toInt32) then y9 + 1 else y9) → vp_in y8 8 ∧ (AW k g 12 (zs I4 104 y8.toNatClampNeg y10) L4 172 [(0, vR 87), (1, vI y1), (2, vI y2), (3, vI y3), (4, vI y4), (6, vI y6), (7, vI y7), (8, vI (y8 + 1)), (9, vI u7), (10, vI (y10 + 1))] [])))))) else (AW k g 12 I L 262 [(0, vR 87), (1, vI y1), (2, vI y2), (3, vI y3), (4, vI y4), (6, vI y6), (7, vI y7), (9, vI y9), (10, vI (if y6 < y9 then 1 else (0 : Int32))), (11, vI 0)] [])) : AW k g 12 I L 172 [(0, vR 87), (1, vI y1), (2, vI y2), (3, vI y3), (4, vI y4), (6, vI y6), (7, vI y7), (8, vI y8), (9, vI y9), (10, vI y10)] [] := by
  refine aw_iload X 9 dX7_prints_172 rfl ?_
  refine aw_aload_n X 0 dX7_prints_174 rfl ?_
  refine aw_getI X zf_RX7_84 rfl zs_87 dX7_prints_175 ?_
  refine aw_icmp_gen X 245 dX7_prints_178 rfl (fun c1 => ?_) (fun c1 => ?_)
  · replace h := zifp c1 h
    refine aw_iload X 6 dX7_prints_181 rfl ?_
    refine aw_iload X 9 dX7_prints_183 rfl ?_
    refine aw_ishr X dX7_prints_185 ?_
    refine aw_iconst (v := 1) X dX7_prints_186 (by decide) ?_
    refine aw_iand X dX7_prints_187 ?_
    refine aw_if_ne X 194 dX7_prints_188 rfl (fun c2 => ?_) (fun c2 => ?_)
    · replace h := zifn c2 h
      refine aw_aload_n X 0 dX7_prints_194 rfl ?_
      refine aw_getR X zf_RX7_16 rfl zs_87 zr_87_2 dX7_prints_195 ?_
      refine aw_sipush (v := 160) X dX7_prints_198 (by decide) ?_
      refine aw_iload_n X 1 dX7_prints_201 rfl ?_
      refine aw_imul X dX7_prints_202 ?_
      refine aw_iload X 7 dX7_prints_203 rfl ?_
      refine aw_iadd X dX7_prints_205 ?_
      have n3 := h.1
      replace h := h.2
      refine aw_laldj (j := ((160 * y1) + y8).toNatClampNeg) X zs_90 n3 rfl dX7_prints_206 ?_
      refine aw_l2i X dX7_prints_207 ?_
      refine aw_istore X dX7_prints_208 (by decide) rfl ?_
      refine aw_aload_n X 1 dX7_prints_210 rfl ?_
      refine aw_iload X 10 dX7_prints_211 rfl ?_
      refine aw_iload X 0 dX7_prints_213 rfl ?_
      refine aw_iload_n X 4 dX7_prints_215 rfl ?_
      refine aw_callV X (as := [vI y10, vI ((L 90 (((160 * y1) + y8).toNatClampNeg)).toInt32), vI y3]) mf_X7_readAt zw_1324 h zs_87 rfl rfl (by decide) (Nat.le_of_ble_eq_true rfl) dX7_prints_216 (fun v I4 L4 h => ?_)
      obtain ⟨r4, rfl, h⟩ := h
      refine aw_iload X 0 dX7_prints_219 rfl ?_
      have hJ6 : ∀ (u7 : Int32), u7 = (if r4 = ((L 90 (((160 * y1) + y8).toNatClampNeg)).toInt32) then y9 + 1 else y9) → AW k g 12 I4 L4 227 [(0, vR 87), (1, vI y1), (2, vI y2), (3, vI y3), (4, vI y4), (6, vI y6), (7, vI y7), (8, vI y8), (9, vI u7), (10, vI y10)] [] := by
        intro u7 q1
        replace h := h u7 q1
        refine aw_aload_n X 0 dX7_prints_227 rfl ?_
        refine aw_getR X zf_RX7_59 rfl zs_87 zr_87_29 dX7_prints_228 ?_
        refine aw_iload X 7 dX7_prints_231 rfl ?_
        refine aw_iinc (v := y8 + 1) X 7 dX7_prints_233 rfl rfl (by decide) rfl ?_
        refine aw_iload X 9 dX7_prints_236 rfl ?_
        have n8 := h.1
        replace h := h.2
        refine aw_iastj (j := y8.toNatClampNeg) X zs_104 n8 rfl dX7_prints_238 ?_
        refine aw_iinc (v := y10 + 1) X 9 dX7_prints_239 rfl rfl (by decide) rfl ?_
        refine aw_goto X 172 dX7_prints_242 rfl ?_
        refine aw_perm (ks9 := [(0, vR 87), (1, vI y1), (2, vI y2), (3, vI y3), (4, vI y4), (6, vI y6), (7, vI y7), (8, vI (y8 + 1)), (9, vI u7), (10, vI (y10 + 1))]) [2, 3, 4, 5, 6, 7, 8, 1, 9, 0] rfl ?_
        exact h
      refine aw_icmp_ne X 227 dX7_prints_221 rfl (fun c5 => ?_) (fun c5 => ?_)
      · refine aw_perm (ks9 := [(0, vR 87), (1, vI y1), (2, vI y2), (3, vI y3), (4, vI y4), (6, vI y6), (7, vI y7), (8, vI y8), (9, vI y9), (10, vI y10)]) [1, 2, 3, 4, 5, 6, 7, 8, 9, 10] rfl ?_
        exact hJ6 _ (if_neg c5).symm
      · refine aw_iinc (v := y9 + 1) X 9 dX7_prints_224 rfl rfl (by decide) rfl ?_
        refine aw_perm (ks9 := [(0, vR 87), (1, vI y1), (2, vI y2), (3, vI y3), (4, vI y4), (6, vI y6), (7, vI y7), (8, vI y8), (9, vI (y9 + 1)), (10, vI y10)]) [2, 3, 4, 5, 6, 7, 8, 9, 0, 10] rfl ?_
        exact hJ6 _ (if_pos c5).symm
    · replace h := zifp c2 h
      refine aw_goto X 239 dX7_prints_191 rfl ?_
      refine aw_iinc (v := y10 + 1) X 9 dX7_prints_239 rfl rfl (by decide) rfl ?_
      refine aw_goto X 172 dX7_prints_242 rfl ?_
      refine aw_perm (ks9 := [(0, vR 87), (1, vI y1), (2, vI y2), (3, vI y3), (4, vI y4), (6, vI y6), (7, vI y7), (8, vI y8), (9, vI y9), (10, vI (y10 + 1))]) [1, 2, 3, 4, 5, 6, 7, 8, 9, 0] rfl ?_
      exact h
  · replace h := zifn c1 h
    refine aw_iload X 8 dX7_prints_245 rfl ?_
    refine aw_iload X 5 dX7_prints_247 rfl ?_
    have hJ10 : ∀ (w1 : Int32), w1 = (if y6 < y9 then 1 else (0 : Int32)) → AW k g 12 I L 257 [(0, vR 87), (1, vI y1), (2, vI y2), (3, vI y3), (4, vI y4), (6, vI y6), (7, vI y7), (9, vI y9)] [vI w1] := by
      intro w1 q1
      subst q1
      refine aw_istore X dX7_prints_257 (by decide) rfl ?_
      refine aw_iconst (v := 0) X dX7_prints_259 (by decide) ?_
      refine aw_istore X dX7_prints_260 (by decide) rfl ?_
      refine aw_perm (ks9 := [(0, vR 87), (1, vI y1), (2, vI y2), (3, vI y3), (4, vI y4), (6, vI y6), (7, vI y7), (9, vI y9), (10, vI (if y6 < y9 then 1 else (0 : Int32))), (11, vI 0)]) [2, 3, 4, 5, 6, 7, 8, 9, 1, 0] rfl ?_
      exact h
    refine aw_icmp_len X 256 dX7_prints_249 rfl (fun c9 => ?_) (fun c9 => ?_)
    · refine aw_iconst (v := 1) X dX7_prints_252 (by decide) ?_
      refine aw_goto X 257 dX7_prints_253 rfl ?_
      refine aw_perm (ks9 := [(0, vR 87), (1, vI y1), (2, vI y2), (3, vI y3), (4, vI y4), (6, vI y6), (7, vI y7), (9, vI y9)]) [0, 1, 2, 3, 4, 5, 6, 8] rfl ?_
      exact hJ10 _ (if_pos c9).symm
    · refine aw_iconst (v := 0) X dX7_prints_256 (by decide) ?_
      refine aw_perm (ks9 := [(0, vR 87), (1, vI y1), (2, vI y2), (3, vI y3), (4, vI y4), (6, vI y6), (7, vI y7), (9, vI y9)]) [0, 1, 2, 3, 4, 5, 6, 8] rfl ?_
      exact hJ10 _ (if_neg c9).symm
set_option maxRecDepth 100000 in
theorem s_X7_prints_262 {k : zK} {g : zG} {Q : Option zv → zI → zL → Prop} {I : zI} {L : zL} {y1 : Int32} {y2 : Int32} {y3 : Int32} {y4 : Int32} {y6 : Int32} {y7 : Int32} {y9 : Int32} {y10 : Int32} {y11 : Int32}  (X : zX k g cX7_prints RX7 12 (some .int) 5) (E : zE k g Q) (h : if y11 < y2 then (if y9 = y6 then (vp_in y11 8 ∧ (if (I 104 y11.toNatClampNeg) = (I 105 y11.toNatClampNeg) then (AW k g 12 I L 262 [(0, vR 87), (1, vI y1), (2, vI y2), (3, vI y3), (4, vI y4), (6, vI y6), (7, vI y7), (9, vI y9), (10, vI y10), (11, vI (y11 + 1))] []) else ((∀ u8 : Int32, u8 = (if (I 104 y11.toNatClampNeg) < (I 105 y11.toNatClampNeg) then 1 else (0 : Int32)) → if u8 = 0 then (AW k g 12 I L 140 [(0, vR 87), (1, vI y1), (2, vI y2), (3, vI y3), (4, vI y4), (6, vI y6), (7, vI (y7 + 1))] []) else (AW k g 12 I L 343 [(0, vR 87), (1, vI y1), (2, vI y2), (3, vI y3), (4, vI y4), (6, vI y9), (7, vI y7), (11, vI 0)] []))))) else (if y10 = 0 then (AW k g 12 I L 140 [(0, vR 87), (1, vI y1), (2, vI y2), (3, vI y3), (4, vI y4), (6, vI y6), (7, vI (y7 + 1))] []) else (AW k g 12 I L 343 [(0, vR 87), (1, vI y1), (2, vI y2), (3, vI y3), (4, vI y4), (6, vI y9), (7, vI y7), (11, vI 0)] []))) else (if y10 = 0 then (AW k g 12 I L 140 [(0, vR 87), (1, vI y1), (2, vI y2), (3, vI y3), (4, vI y4), (6, vI y6), (7, vI (y7 + 1))] []) else (AW k g 12 I L 343 [(0, vR 87), (1, vI y1), (2, vI y2), (3, vI y3), (4, vI y4), (6, vI y9), (7, vI y7), (11, vI 0)] []))) : AW k g 12 I L 262 [(0, vR 87), (1, vI y1), (2, vI y2), (3, vI y3), (4, vI y4), (6, vI y6), (7, vI y7), (9, vI y9), (10, vI y10), (11, vI y11)] [] := by
  refine aw_iload X 9 dX7_prints_262 rfl ?_
  refine aw_iload_n X 2 dX7_prints_264 rfl ?_
  refine aw_icmp_gen X 328 dX7_prints_265 rfl (fun c1 => ?_) (fun c1 => ?_)
  · replace h := zifp c1 h
    refine aw_iload X 7 dX7_prints_268 rfl ?_
    refine aw_iload X 5 dX7_prints_270 rfl ?_
    refine aw_icmp_ne X 328 dX7_prints_272 rfl (fun c2 => ?_) (fun c2 => ?_)
    · replace h := zifn c2 h
      refine aw_iload X 8 dX7_prints_328 rfl ?_
      refine aw_if_ne X 336 dX7_prints_330 rfl (fun c3 => ?_) (fun c3 => ?_)
      · replace h := zifn c3 h
        refine aw_iload X 7 dX7_prints_336 rfl ?_
        refine aw_istore X dX7_prints_338 (by decide) rfl ?_
        refine aw_iconst (v := 0) X dX7_prints_340 (by decide) ?_
        refine aw_istore X dX7_prints_341 (by decide) rfl ?_
        refine aw_perm (ks9 := [(0, vR 87), (1, vI y1), (2, vI y2), (3, vI y3), (4, vI y4), (6, vI y9), (7, vI y7), (11, vI 0)]) [2, 3, 4, 5, 6, 1, 7, 0] rfl ?_
        exact h
      · replace h := zifp c3 h
        refine aw_goto X 369 dX7_prints_333 rfl ?_
        refine aw_iinc (v := y7 + 1) X 6 dX7_prints_369 rfl rfl (by decide) rfl ?_
        refine aw_goto X 140 dX7_prints_372 rfl ?_
        refine aw_perm (ks9 := [(0, vR 87), (1, vI y1), (2, vI y2), (3, vI y3), (4, vI y4), (6, vI y6), (7, vI (y7 + 1))]) [1, 2, 3, 4, 5, 6, 0] rfl ?_
        exact h
    · replace h := zifp c2 h
      refine aw_aload_n X 0 dX7_prints_275 rfl ?_
      refine aw_getR X zf_RX7_59 rfl zs_87 zr_87_29 dX7_prints_276 ?_
      refine aw_iload X 9 dX7_prints_279 rfl ?_
      have n4 := h.1
      replace h := h.2
      refine aw_ialdj (j := y11.toNatClampNeg) X zs_104 n4 rfl dX7_prints_281 ?_
      refine aw_aload_n X 0 dX7_prints_282 rfl ?_
      refine aw_getR X zf_RX7_62 rfl zs_87 zr_87_30 dX7_prints_283 ?_
      refine aw_iload X 9 dX7_prints_286 rfl ?_
      refine aw_ialdj (j := y11.toNatClampNeg) X zs_105 n4 rfl dX7_prints_288 ?_
      refine aw_icmp_ne X 295 dX7_prints_289 rfl (fun c5 => ?_) (fun c5 => ?_)
      · replace h := zifn c5 h
        refine aw_aload_n X 0 dX7_prints_295 rfl ?_
        refine aw_getR X zf_RX7_59 rfl zs_87 zr_87_29 dX7_prints_296 ?_
        refine aw_iload X 9 dX7_prints_299 rfl ?_
        refine aw_ialdj (j := y11.toNatClampNeg) X zs_104 n4 rfl dX7_prints_301 ?_
        refine aw_aload_n X 0 dX7_prints_302 rfl ?_
        refine aw_getR X zf_RX7_62 rfl zs_87 zr_87_30 dX7_prints_303 ?_
        refine aw_iload X 9 dX7_prints_306 rfl ?_
        refine aw_ialdj (j := y11.toNatClampNeg) X zs_105 n4 rfl dX7_prints_308 ?_
        have hJ7 : ∀ (u8 : Int32), u8 = (if (I 104 y11.toNatClampNeg) < (I 105 y11.toNatClampNeg) then 1 else (0 : Int32)) → AW k g 12 I L 317 [(0, vR 87), (1, vI y1), (2, vI y2), (3, vI y3), (4, vI y4), (6, vI y6), (7, vI y7), (9, vI y9)] [vI u8] := by
          intro u8 q1
          replace h := h u8 q1
          refine aw_istore X dX7_prints_317 (by decide) rfl ?_
          refine aw_goto X 328 dX7_prints_319 rfl ?_
          refine aw_iload X 0 dX7_prints_328 rfl ?_
          refine aw_if_ne X 336 dX7_prints_330 rfl (fun c9 => ?_) (fun c9 => ?_)
          · replace h := zifn c9 h
            refine aw_iload X 8 dX7_prints_336 rfl ?_
            refine aw_istore X dX7_prints_338 (by decide) rfl ?_
            refine aw_iconst (v := 0) X dX7_prints_340 (by decide) ?_
            refine aw_istore X dX7_prints_341 (by decide) rfl ?_
            refine aw_perm (ks9 := [(0, vR 87), (1, vI y1), (2, vI y2), (3, vI y3), (4, vI y4), (6, vI y9), (7, vI y7), (11, vI 0)]) [3, 4, 5, 6, 7, 1, 8, 0] rfl ?_
            exact h
          · replace h := zifp c9 h
            refine aw_goto X 369 dX7_prints_333 rfl ?_
            refine aw_iinc (v := y7 + 1) X 7 dX7_prints_369 rfl rfl (by decide) rfl ?_
            refine aw_goto X 140 dX7_prints_372 rfl ?_
            refine aw_perm (ks9 := [(0, vR 87), (1, vI y1), (2, vI y2), (3, vI y3), (4, vI y4), (6, vI y6), (7, vI (y7 + 1))]) [2, 3, 4, 5, 6, 7, 0] rfl ?_
            exact h
        refine aw_icmp_gen X 316 dX7_prints_309 rfl (fun c6 => ?_) (fun c6 => ?_)
        · refine aw_iconst (v := 1) X dX7_prints_312 (by decide) ?_
          refine aw_goto X 317 dX7_prints_313 rfl ?_
          refine aw_perm (ks9 := [(0, vR 87), (1, vI y1), (2, vI y2), (3, vI y3), (4, vI y4), (6, vI y6), (7, vI y7), (9, vI y9)]) [0, 1, 2, 3, 4, 5, 6, 7] rfl ?_
          exact hJ7 _ (if_pos c6).symm
        · refine aw_iconst (v := 0) X dX7_prints_316 (by decide) ?_
          refine aw_perm (ks9 := [(0, vR 87), (1, vI y1), (2, vI y2), (3, vI y3), (4, vI y4), (6, vI y6), (7, vI y7), (9, vI y9)]) [0, 1, 2, 3, 4, 5, 6, 7] rfl ?_
          exact hJ7 _ (if_neg c6).symm
      · replace h := zifp c5 h
        refine aw_goto X 322 dX7_prints_292 rfl ?_
        refine aw_iinc (v := y11 + 1) X 9 dX7_prints_322 rfl rfl (by decide) rfl ?_
        refine aw_goto X 262 dX7_prints_325 rfl ?_
        refine aw_perm (ks9 := [(0, vR 87), (1, vI y1), (2, vI y2), (3, vI y3), (4, vI y4), (6, vI y6), (7, vI y7), (9, vI y9), (10, vI y10), (11, vI (y11 + 1))]) [1, 2, 3, 4, 5, 6, 7, 8, 9, 0] rfl ?_
        exact h
  · replace h := zifn c1 h
    refine aw_iload X 8 dX7_prints_328 rfl ?_
    refine aw_if_ne X 336 dX7_prints_330 rfl (fun c10 => ?_) (fun c10 => ?_)
    · replace h := zifn c10 h
      refine aw_iload X 7 dX7_prints_336 rfl ?_
      refine aw_istore X dX7_prints_338 (by decide) rfl ?_
      refine aw_iconst (v := 0) X dX7_prints_340 (by decide) ?_
      refine aw_istore X dX7_prints_341 (by decide) rfl ?_
      refine aw_perm (ks9 := [(0, vR 87), (1, vI y1), (2, vI y2), (3, vI y3), (4, vI y4), (6, vI y9), (7, vI y7), (11, vI 0)]) [2, 3, 4, 5, 6, 1, 7, 0] rfl ?_
      exact h
    · replace h := zifp c10 h
      refine aw_goto X 369 dX7_prints_333 rfl ?_
      refine aw_iinc (v := y7 + 1) X 6 dX7_prints_369 rfl rfl (by decide) rfl ?_
      refine aw_goto X 140 dX7_prints_372 rfl ?_
      refine aw_perm (ks9 := [(0, vR 87), (1, vI y1), (2, vI y2), (3, vI y3), (4, vI y4), (6, vI y6), (7, vI (y7 + 1))]) [1, 2, 3, 4, 5, 6, 0] rfl ?_
      exact h
set_option maxRecDepth 100000 in
theorem s_X7_prints_343 {k : zK} {g : zG} {Q : Option zv → zI → zL → Prop} {I : zI} {L : zL} {y1 : Int32} {y2 : Int32} {y3 : Int32} {y4 : Int32} {y6 : Int32} {y7 : Int32} {y11 : Int32}  (X : zX k g cX7_prints RX7 12 (some .int) 5) (E : zE k g Q) (h : if y11 < y2 then (vp_in y11 8 ∧ (AW k g 12 (zs I 105 y11.toNatClampNeg (I 104 y11.toNatClampNeg)) L 343 [(0, vR 87), (1, vI y1), (2, vI y2), (3, vI y3), (4, vI y4), (6, vI y6), (7, vI y7), (11, vI (y11 + 1))] [])) else (AW k g 12 I L 140 [(0, vR 87), (1, vI y1), (2, vI y2), (3, vI y3), (4, vI y4), (6, vI y6), (7, vI (y7 + 1))] [])) : AW k g 12 I L 343 [(0, vR 87), (1, vI y1), (2, vI y2), (3, vI y3), (4, vI y4), (6, vI y6), (7, vI y7), (11, vI y11)] [] := by
  refine aw_iload X 7 dX7_prints_343 rfl ?_
  refine aw_iload_n X 2 dX7_prints_345 rfl ?_
  refine aw_icmp_gen X 369 dX7_prints_346 rfl (fun c1 => ?_) (fun c1 => ?_)
  · replace h := zifp c1 h
    refine aw_aload_n X 0 dX7_prints_349 rfl ?_
    refine aw_getR X zf_RX7_62 rfl zs_87 zr_87_30 dX7_prints_350 ?_
    refine aw_iload X 7 dX7_prints_353 rfl ?_
    refine aw_aload_n X 0 dX7_prints_355 rfl ?_
    refine aw_getR X zf_RX7_59 rfl zs_87 zr_87_29 dX7_prints_356 ?_
    refine aw_iload X 7 dX7_prints_359 rfl ?_
    have n2 := h.1
    replace h := h.2
    refine aw_ialdj (j := y11.toNatClampNeg) X zs_104 n2 rfl dX7_prints_361 ?_
    refine aw_iastj (j := y11.toNatClampNeg) X zs_105 n2 rfl dX7_prints_362 ?_
    refine aw_iinc (v := y11 + 1) X 7 dX7_prints_363 rfl rfl (by decide) rfl ?_
    refine aw_goto X 343 dX7_prints_366 rfl ?_
    refine aw_perm (ks9 := [(0, vR 87), (1, vI y1), (2, vI y2), (3, vI y3), (4, vI y4), (6, vI y6), (7, vI y7), (11, vI (y11 + 1))]) [1, 2, 3, 4, 5, 6, 7, 0] rfl ?_
    exact h
  · replace h := zifn c1 h
    refine aw_iinc (v := y7 + 1) X 6 dX7_prints_369 rfl rfl (by decide) rfl ?_
    refine aw_goto X 140 dX7_prints_372 rfl ?_
    refine aw_perm (ks9 := [(0, vR 87), (1, vI y1), (2, vI y2), (3, vI y3), (4, vI y4), (6, vI y6), (7, vI (y7 + 1))]) [1, 2, 3, 4, 5, 6, 0] rfl ?_
    exact h
set_option maxRecDepth 100000 in
theorem m_X7_prints {l : Launch} {g : zG} {Q : Option zv → zI → zL → Prop} {I : zI} {L : zL} {a1 : Int32} {a2 : Int32} {a3 : Int32} {a4 : Int32}  (h : ∀ k : zK, kl k = l → zX k g cX7_prints RX7 12 (some .int) 5 → zE k g Q → (k_X7_noRow I a1 ∧ (if (v_X7_noRow I a1) < 0 then (Call (kl k) g 1 M_X7_no [vR 87, vI (v_X7_noRow I a1)] I L (zi fun r3 I3 L3 => Q (some (vI r3)) I3 L3)) else (if a2 < 0 then (Call (kl k) g 1 M_X7_no [vR 87, vI (-4)] I L (zi fun r5 I5 L5 => Q (some (vI r5)) I5 L5)) else (vp_in a1 8 ∧ (if (I 89 a1.toNatClampNeg) < a2 then (Call (kl k) g 1 M_X7_no [vR 87, vI (-5)] I L (zi fun r8 I8 L8 => Q (some (vI r8)) I8 L8)) else (if (v_X7_within a4 (-1) (a2 - 1)) = 0 then (Call (kl k) g 1 M_X7_no [vR 87, vI (-5)] I L (zi fun r10 I10 L10 => Q (some (vI r10)) I10 L10)) else (AW k g 12 I L 62 [(0, vR 87), (1, vI a1), (2, vI a2), (3, vI a3), (4, vI a4), (6, vI 0)] [])))))))) : Call l g 5 M_X7_prints [vR 87, vI a1, vI a2, vI a3, vI a4] I L Q := by
  refine aw_entry (by decide) (Nat.le_of_ble_eq_true rfl) (fun k hk (X : zX k g cX7_prints RX7 12 (some .int) 5) E => ?_)
  show AW k g 12 I L 0 [(0, vR 87), (1, vI a1), (2, vI a2), (3, vI a3), (4, vI a4)] []
  replace h := h k hk X E
  subst hk
  refine aw_aload_n X 0 dX7_prints_0 rfl ?_
  refine aw_iload_n X 1 dX7_prints_1 rfl ?_
  have n1 := h.1
  replace h := h.2
  refine aw_pV X (as := [vI a1]) mf_X7_noRow zw_1145 (p_X7_noRow n1) zs_87 rfl rfl (by decide) (Nat.le_of_ble_eq_true rfl) dX7_prints_2 ?_
  refine aw_istore X dX7_prints_5 (by decide) rfl ?_
  refine aw_iload X 0 dX7_prints_7 rfl ?_
  refine aw_if_gen X 19 dX7_prints_9 rfl (fun c2 => ?_) (fun c2 => ?_)
  · replace h := zifp c2 h
    refine aw_aload_n X 1 dX7_prints_12 rfl ?_
    refine aw_iload X 0 dX7_prints_13 rfl ?_
    refine aw_callV X (as := [vI (v_X7_noRow I a1)]) mf_X7_no zw_1137 h zs_87 rfl rfl (by decide) (Nat.le_of_ble_eq_true rfl) dX7_prints_15 (fun v I3 L3 h => ?_)
    obtain ⟨r3, rfl, h⟩ := h
    exact aw_iret X E rfl dX7_prints_18 h
  · replace h := zifn c2 h
    refine aw_iload_n X 3 dX7_prints_19 rfl ?_
    refine aw_if_gen X 30 dX7_prints_20 rfl (fun c4 => ?_) (fun c4 => ?_)
    · replace h := zifp c4 h
      refine aw_aload_n X 1 dX7_prints_23 rfl ?_
      refine aw_bipush (v := (-4)) X dX7_prints_24 (by decide) ?_
      refine aw_callV X (as := [vI (-4)]) mf_X7_no zw_1137 h zs_87 rfl rfl (by decide) (Nat.le_of_ble_eq_true rfl) dX7_prints_26 (fun v I5 L5 h => ?_)
      obtain ⟨r5, rfl, h⟩ := h
      exact aw_iret X E rfl dX7_prints_29 h
    · replace h := zifn c4 h
      refine aw_iload_n X 3 dX7_prints_30 rfl ?_
      refine aw_aload_n X 1 dX7_prints_31 rfl ?_
      refine aw_getR X zf_RX7_13 rfl zs_87 zr_87_1 dX7_prints_32 ?_
      refine aw_iload_n X 2 dX7_prints_35 rfl ?_
      have n6 := h.1
      replace h := h.2
      refine aw_ialdj (j := a1.toNatClampNeg) X zs_89 n6 rfl dX7_prints_36 ?_
      refine aw_icmp_gt X 52 dX7_prints_37 rfl (fun c7 => ?_) (fun c7 => ?_)
      · replace h := zifp c7 h
        refine aw_aload_n X 1 dX7_prints_52 rfl ?_
        refine aw_bipush (v := (-5)) X dX7_prints_53 (by decide) ?_
        refine aw_callV X (as := [vI (-5)]) mf_X7_no zw_1137 h zs_87 rfl rfl (by decide) (Nat.le_of_ble_eq_true rfl) dX7_prints_55 (fun v I8 L8 h => ?_)
        obtain ⟨r8, rfl, h⟩ := h
        exact aw_iret X E rfl dX7_prints_58 h
      · replace h := zifn c7 h
        refine aw_iload X 5 dX7_prints_40 rfl ?_
        refine aw_iconst (v := (-1)) X dX7_prints_42 (by decide) ?_
        refine aw_iload_n X 3 dX7_prints_43 rfl ?_
        refine aw_iconst (v := 1) X dX7_prints_44 (by decide) ?_
        refine aw_isub X dX7_prints_45 ?_
        refine aw_pS X (as := [vI a4, vI (-1), vI (a2 - 1)]) mf_X7_within zw_1134 (p_X7_within) rfl rfl (by decide) (Nat.le_of_ble_eq_true rfl) dX7_prints_46 ?_
        refine aw_if_ne X 59 dX7_prints_49 rfl (fun c9 => ?_) (fun c9 => ?_)
        · replace h := zifn c9 h
          refine aw_iconst (v := 0) X dX7_prints_59 (by decide) ?_
          refine aw_istore X dX7_prints_60 (by decide) rfl ?_
          refine aw_perm (ks9 := [(0, vR 87), (1, vI a1), (2, vI a2), (3, vI a3), (4, vI a4), (6, vI 0)]) [2, 3, 4, 5, 6, 0] rfl ?_
          exact h
        · replace h := zifp c9 h
          refine aw_aload_n X 1 dX7_prints_52 rfl ?_
          refine aw_bipush (v := (-5)) X dX7_prints_53 (by decide) ?_
          refine aw_callV X (as := [vI (-5)]) mf_X7_no zw_1137 h zs_87 rfl rfl (by decide) (Nat.le_of_ble_eq_true rfl) dX7_prints_55 (fun v I10 L10 h => ?_)
          obtain ⟨r10, rfl, h⟩ := h
          exact aw_iret X E rfl dX7_prints_58 h
set_option maxRecDepth 100000 in
theorem m_X7_readOf {l : Launch} {g : zG} {Q : Option zv → zI → zL → Prop} {I : zI} {L : zL} {a1 : Int32}  (h : if (v_X7_isPane I a1) = 0 then (Call l g 1 M_X7_no10 [vR 87, vI (-1)] I L (zi fun r4 I4 L4 => Q (some (vI r4)) I4 L4)) else (Call l g 1 M_X7_load [vR 87, vI a1] I L (zn fun I2 L2 => k_X7_read I2 (v_X7_shapeNow I2) ∧ (Q (some (vI (v_X7_read I2 (v_X7_shapeNow I2)))) I2 L2)))) : Call l g 3 M_X7_readOf [vR 87, vI a1] I L Q := by
  refine aw_entry (by decide) (Nat.le_of_ble_eq_true rfl) (fun k hk (X : zX k g cX7_readOf RX7 2 (some .int) 3) E => ?_)
  show AW k g 2 I L 0 [(0, vR 87), (1, vI a1)] []
  subst hk
  refine aw_aload_n X 0 dX7_readOf_0 rfl ?_
  refine aw_iload_n X 1 dX7_readOf_1 rfl ?_
  refine aw_pV X (as := [vI a1]) mf_X7_isPane zw_1165 (p_X7_isPane) zs_87 rfl rfl (by decide) (Nat.le_of_ble_eq_true rfl) dX7_readOf_2 ?_
  refine aw_if_ne X 14 dX7_readOf_5 rfl (fun c1 => ?_) (fun c1 => ?_)
  · replace h := zifn c1 h
    refine aw_aload_n X 0 dX7_readOf_14 rfl ?_
    refine aw_iload_n X 1 dX7_readOf_15 rfl ?_
    refine aw_callV X (as := [vI a1]) mf_X7_load zw_1388 h zs_87 rfl rfl (by decide) (Nat.le_of_ble_eq_true rfl) dX7_readOf_16 (fun v I2 L2 h => ?_)
    obtain ⟨rfl, h⟩ := h
    refine aw_aload_n X 0 dX7_readOf_19 rfl ?_
    refine aw_aload_n X 0 dX7_readOf_20 rfl ?_
    refine aw_pV X (as := []) mf_X7_shapeNow zw_1303 (p_X7_shapeNow) zs_87 rfl rfl (by decide) (Nat.le_of_ble_eq_true rfl) dX7_readOf_21 ?_
    have n3 := h.1
    replace h := h.2
    refine aw_pV X (as := [vI (v_X7_shapeNow I2)]) mf_X7_read zw_1315 (p_X7_read n3) zs_87 rfl rfl (by decide) (Nat.le_of_ble_eq_true rfl) dX7_readOf_24 ?_
    exact aw_iret X E rfl dX7_readOf_27 h
  · replace h := zifp c1 h
    refine aw_aload_n X 0 dX7_readOf_8 rfl ?_
    refine aw_iconst (v := (-1)) X dX7_readOf_9 (by decide) ?_
    refine aw_callV X (as := [vI (-1)]) mf_X7_no10 zw_1221 h zs_87 rfl rfl (by decide) (Nat.le_of_ble_eq_true rfl) dX7_readOf_10 (fun v I4 L4 h => ?_)
    obtain ⟨r4, rfl, h⟩ := h
    exact aw_iret X E rfl dX7_readOf_13 h
set_option maxRecDepth 100000 in
theorem m_X7_reads {l : Launch} {g : zG} {Q : Option zv → zI → zL → Prop} {I : zI} {L : zL} {a1 : Int32}  (h : if (v_X7_within a1 0 65535) = 0 then (Call l g 1 M_X7_no10 [vR 87, vI (-6)] I L (zi fun r2 I2 L2 => Q (some (vI r2)) I2 L2)) else (k_X7_read I a1 ∧ (Q (some (vI (v_X7_read I a1))) I L))) : Call l g 3 M_X7_reads [vR 87, vI a1] I L Q := by
  refine aw_entry (by decide) (Nat.le_of_ble_eq_true rfl) (fun k hk (X : zX k g cX7_reads RX7 2 (some .int) 3) E => ?_)
  show AW k g 2 I L 0 [(0, vR 87), (1, vI a1)] []
  subst hk
  refine aw_iload_n X 1 dX7_reads_0 rfl ?_
  refine aw_iconst (v := 0) X dX7_reads_1 (by decide) ?_
  refine aw_ldc X zw_1196 dX7_reads_2 ?_
  refine aw_pS X (as := [vI a1, vI 0, vI 65535]) mf_X7_within zw_1134 (p_X7_within) rfl rfl (by decide) (Nat.le_of_ble_eq_true rfl) dX7_reads_4 ?_
  refine aw_if_eq X 18 dX7_reads_7 rfl (fun c1 => ?_) (fun c1 => ?_)
  · replace h := zifp c1 h
    refine aw_aload_n X 0 dX7_reads_18 rfl ?_
    refine aw_bipush (v := (-6)) X dX7_reads_19 (by decide) ?_
    refine aw_callV X (as := [vI (-6)]) mf_X7_no10 zw_1221 h zs_87 rfl rfl (by decide) (Nat.le_of_ble_eq_true rfl) dX7_reads_21 (fun v I2 L2 h => ?_)
    obtain ⟨r2, rfl, h⟩ := h
    exact aw_iret X E rfl dX7_reads_24 h
  · replace h := zifn c1 h
    refine aw_aload_n X 0 dX7_reads_10 rfl ?_
    refine aw_iload_n X 1 dX7_reads_11 rfl ?_
    have n3 := h.1
    replace h := h.2
    refine aw_pV X (as := [vI a1]) mf_X7_read zw_1315 (p_X7_read n3) zs_87 rfl rfl (by decide) (Nat.le_of_ble_eq_true rfl) dX7_reads_12 ?_
    refine aw_goto X 24 dX7_reads_15 rfl ?_
    exact aw_iret X E rfl dX7_reads_24 h
set_option maxRecDepth 100000 in
theorem m_X7_readsAs {l : Launch} {g : zG} {Q : Option zv → zI → zL → Prop} {I : zI} {L : zL} {a1 : Int32} {a2 : Int32} {a3 : Int32}  (h : if (v_X7_isPane I a1) = 0 then (Call l g 1 M_X7_no10 [vR 87, vI (-1)] I L (zi fun r2 I2 L2 => Q (some (vI r2)) I2 L2)) else (if (v_X7_isLetterOrNone I a2) = 0 then (Call l g 1 M_X7_no10 [vR 87, vI (-1)] I L (zi fun r7 I7 L7 => Q (some (vI r7)) I7 L7)) else (if (v_X7_within a3 0 24) = 0 then (Call l g 1 M_X7_no10 [vR 87, vI (-6)] I L (zi fun r5 I5 L5 => Q (some (vI r5)) I5 L5)) else (Call l g 4 M_X7_readAt [vR 87, vI a1, vI a2, vI a3] I L (zi fun r6 I6 L6 => Q (some (vI r6)) I6 L6))))) : Call l g 5 M_X7_readsAs [vR 87, vI a1, vI a2, vI a3] I L Q := by
  refine aw_entry (by decide) (Nat.le_of_ble_eq_true rfl) (fun k hk (X : zX k g cX7_readsAs RX7 4 (some .int) 5) E => ?_)
  show AW k g 4 I L 0 [(0, vR 87), (1, vI a1), (2, vI a2), (3, vI a3)] []
  subst hk
  refine aw_aload_n X 0 dX7_readsAs_0 rfl ?_
  refine aw_iload_n X 1 dX7_readsAs_1 rfl ?_
  refine aw_pV X (as := [vI a1]) mf_X7_isPane zw_1165 (p_X7_isPane) zs_87 rfl rfl (by decide) (Nat.le_of_ble_eq_true rfl) dX7_readsAs_2 ?_
  refine aw_if_eq X 16 dX7_readsAs_5 rfl (fun c1 => ?_) (fun c1 => ?_)
  · replace h := zifp c1 h
    refine aw_aload_n X 0 dX7_readsAs_16 rfl ?_
    refine aw_iconst (v := (-1)) X dX7_readsAs_17 (by decide) ?_
    refine aw_callV X (as := [vI (-1)]) mf_X7_no10 zw_1221 h zs_87 rfl rfl (by decide) (Nat.le_of_ble_eq_true rfl) dX7_readsAs_18 (fun v I2 L2 h => ?_)
    obtain ⟨r2, rfl, h⟩ := h
    exact aw_iret X E rfl dX7_readsAs_21 h
  · replace h := zifn c1 h
    refine aw_aload_n X 0 dX7_readsAs_8 rfl ?_
    refine aw_iload_n X 2 dX7_readsAs_9 rfl ?_
    refine aw_pV X (as := [vI a2]) mf_X7_isLetterOrNone zw_1282 (p_X7_isLetterOrNone) zs_87 rfl rfl (by decide) (Nat.le_of_ble_eq_true rfl) dX7_readsAs_10 ?_
    refine aw_if_ne X 22 dX7_readsAs_13 rfl (fun c3 => ?_) (fun c3 => ?_)
    · replace h := zifn c3 h
      refine aw_iload_n X 3 dX7_readsAs_22 rfl ?_
      refine aw_iconst (v := 0) X dX7_readsAs_23 (by decide) ?_
      refine aw_bipush (v := 24) X dX7_readsAs_24 (by decide) ?_
      refine aw_pS X (as := [vI a3, vI 0, vI 24]) mf_X7_within zw_1134 (p_X7_within) rfl rfl (by decide) (Nat.le_of_ble_eq_true rfl) dX7_readsAs_26 ?_
      refine aw_if_eq X 42 dX7_readsAs_29 rfl (fun c4 => ?_) (fun c4 => ?_)
      · replace h := zifp c4 h
        refine aw_aload_n X 0 dX7_readsAs_42 rfl ?_
        refine aw_bipush (v := (-6)) X dX7_readsAs_43 (by decide) ?_
        refine aw_callV X (as := [vI (-6)]) mf_X7_no10 zw_1221 h zs_87 rfl rfl (by decide) (Nat.le_of_ble_eq_true rfl) dX7_readsAs_45 (fun v I5 L5 h => ?_)
        obtain ⟨r5, rfl, h⟩ := h
        exact aw_iret X E rfl dX7_readsAs_48 h
      · replace h := zifn c4 h
        refine aw_aload_n X 0 dX7_readsAs_32 rfl ?_
        refine aw_iload_n X 1 dX7_readsAs_33 rfl ?_
        refine aw_iload_n X 2 dX7_readsAs_34 rfl ?_
        refine aw_iload_n X 3 dX7_readsAs_35 rfl ?_
        refine aw_callV X (as := [vI a1, vI a2, vI a3]) mf_X7_readAt zw_1324 h zs_87 rfl rfl (by decide) (Nat.le_of_ble_eq_true rfl) dX7_readsAs_36 (fun v I6 L6 h => ?_)
        obtain ⟨r6, rfl, h⟩ := h
        refine aw_goto X 48 dX7_readsAs_39 rfl ?_
        exact aw_iret X E rfl dX7_readsAs_48 h
    · replace h := zifp c3 h
      refine aw_aload_n X 0 dX7_readsAs_16 rfl ?_
      refine aw_iconst (v := (-1)) X dX7_readsAs_17 (by decide) ?_
      refine aw_callV X (as := [vI (-1)]) mf_X7_no10 zw_1221 h zs_87 rfl rfl (by decide) (Nat.le_of_ble_eq_true rfl) dX7_readsAs_18 (fun v I7 L7 h => ?_)
      obtain ⟨r7, rfl, h⟩ := h
      exact aw_iret X E rfl dX7_readsAs_21 h
set_option maxRecDepth 100000 in
theorem s_X7_restore_16 {k : zK} {g : zG} {Q : Option zv → zI → zL → Prop} {I : zI} {L : zL} {y1 : Int32}  (X : zX k g cX7_restore RX7 2 (some .int) 2) (E : zE k g Q) (h : if y1 < 8 then (vp_in y1 184 ∧ (vp_in y1 8 ∧ ((∀ I4 : zI, I4 = (zs I 91 y1.toNatClampNeg (I 100 y1.toNatClampNeg)) → vp_in (8 + y1) 184 ∧ ((∀ I6 : zI, I6 = (zs I4 92 y1.toNatClampNeg (I4 100 ((8 + y1).toNatClampNeg))) → vp_in (16 + y1) 184 ∧ ((∀ I8 : zI, I8 = (zs I6 93 y1.toNatClampNeg (I6 100 ((16 + y1).toNatClampNeg))) → vp_in (24 + y1) 184 ∧ ((∀ I10 : zI, I10 = (zs I8 94 y1.toNatClampNeg (I8 100 ((24 + y1).toNatClampNeg))) → vp_in (32 + y1) 184 ∧ ((∀ I12 : zI, I12 = (zs I10 95 y1.toNatClampNeg (I10 100 ((32 + y1).toNatClampNeg))) → vp_in (40 + y1) 184 ∧ (AW k g 2 (zs I12 96 y1.toNatClampNeg (I12 100 ((40 + y1).toNatClampNeg))) L 16 [(0, vR 87), (1, vI (y1 + 1))] []))))))))))))) else (AW k g 2 I L 117 [(0, vR 87), (1, vI 0)] [])) : AW k g 2 I L 16 [(0, vR 87), (1, vI y1)] [] := by
  refine aw_iload_n X 1 dX7_restore_16 rfl ?_
  refine aw_bipush (v := 8) X dX7_restore_17 (by decide) ?_
  refine aw_icmp_gen X 115 dX7_restore_19 rfl (fun c1 => ?_) (fun c1 => ?_)
  · replace h := zifp c1 h
    refine aw_aload_n X 0 dX7_restore_22 rfl ?_
    refine aw_getR X zf_RX7_20 rfl zs_87 zr_87_4 dX7_restore_23 ?_
    refine aw_iload_n X 1 dX7_restore_26 rfl ?_
    refine aw_aload_n X 0 dX7_restore_27 rfl ?_
    refine aw_getR X zf_RX7_47 rfl zs_87 zr_87_23 dX7_restore_28 ?_
    refine aw_iload_n X 1 dX7_restore_31 rfl ?_
    have n2 := h.1
    replace h := h.2
    refine aw_ialdj (j := y1.toNatClampNeg) X zs_100 n2 rfl dX7_restore_32 ?_
    have n3 := h.1
    replace h := h.2
    refine aw_iastj (j := y1.toNatClampNeg) X zs_91 n3 rfl dX7_restore_33 ?_
    refine aw_aload_n X 0 dX7_restore_34 rfl ?_
    refine aw_nameI (fun I4 e4 => ?_)
    replace h := h I4 e4
    refine aw_getR X zf_RX7_23 rfl zs_87 zr_87_6 dX7_restore_35 ?_
    refine aw_iload_n X 1 dX7_restore_38 rfl ?_
    refine aw_aload_n X 0 dX7_restore_39 rfl ?_
    refine aw_getR X zf_RX7_47 rfl zs_87 zr_87_23 dX7_restore_40 ?_
    refine aw_bipush (v := 8) X dX7_restore_43 (by decide) ?_
    refine aw_iload_n X 1 dX7_restore_45 rfl ?_
    refine aw_iadd X dX7_restore_46 ?_
    have n5 := h.1
    replace h := h.2
    refine aw_ialdj (j := (8 + y1).toNatClampNeg) X zs_100 n5 rfl dX7_restore_47 ?_
    refine aw_iastj (j := y1.toNatClampNeg) X zs_92 n3 rfl dX7_restore_48 ?_
    refine aw_aload_n X 0 dX7_restore_49 rfl ?_
    refine aw_nameI (fun I6 e6 => ?_)
    replace h := h I6 e6
    refine aw_getR X zf_RX7_26 rfl zs_87 zr_87_7 dX7_restore_50 ?_
    refine aw_iload_n X 1 dX7_restore_53 rfl ?_
    refine aw_aload_n X 0 dX7_restore_54 rfl ?_
    refine aw_getR X zf_RX7_47 rfl zs_87 zr_87_23 dX7_restore_55 ?_
    refine aw_bipush (v := 16) X dX7_restore_58 (by decide) ?_
    refine aw_iload_n X 1 dX7_restore_60 rfl ?_
    refine aw_iadd X dX7_restore_61 ?_
    have n7 := h.1
    replace h := h.2
    refine aw_ialdj (j := (16 + y1).toNatClampNeg) X zs_100 n7 rfl dX7_restore_62 ?_
    refine aw_iastj (j := y1.toNatClampNeg) X zs_93 n3 rfl dX7_restore_63 ?_
    refine aw_aload_n X 0 dX7_restore_64 rfl ?_
    refine aw_nameI (fun I8 e8 => ?_)
    replace h := h I8 e8
    refine aw_getR X zf_RX7_29 rfl zs_87 zr_87_8 dX7_restore_65 ?_
    refine aw_iload_n X 1 dX7_restore_68 rfl ?_
    refine aw_aload_n X 0 dX7_restore_69 rfl ?_
    refine aw_getR X zf_RX7_47 rfl zs_87 zr_87_23 dX7_restore_70 ?_
    refine aw_bipush (v := 24) X dX7_restore_73 (by decide) ?_
    refine aw_iload_n X 1 dX7_restore_75 rfl ?_
    refine aw_iadd X dX7_restore_76 ?_
    have n9 := h.1
    replace h := h.2
    refine aw_ialdj (j := (24 + y1).toNatClampNeg) X zs_100 n9 rfl dX7_restore_77 ?_
    refine aw_iastj (j := y1.toNatClampNeg) X zs_94 n3 rfl dX7_restore_78 ?_
    refine aw_aload_n X 0 dX7_restore_79 rfl ?_
    refine aw_nameI (fun I10 e10 => ?_)
    replace h := h I10 e10
    refine aw_getR X zf_RX7_32 rfl zs_87 zr_87_9 dX7_restore_80 ?_
    refine aw_iload_n X 1 dX7_restore_83 rfl ?_
    refine aw_aload_n X 0 dX7_restore_84 rfl ?_
    refine aw_getR X zf_RX7_47 rfl zs_87 zr_87_23 dX7_restore_85 ?_
    refine aw_bipush (v := 32) X dX7_restore_88 (by decide) ?_
    refine aw_iload_n X 1 dX7_restore_90 rfl ?_
    refine aw_iadd X dX7_restore_91 ?_
    have n11 := h.1
    replace h := h.2
    refine aw_ialdj (j := (32 + y1).toNatClampNeg) X zs_100 n11 rfl dX7_restore_92 ?_
    refine aw_iastj (j := y1.toNatClampNeg) X zs_95 n3 rfl dX7_restore_93 ?_
    refine aw_aload_n X 0 dX7_restore_94 rfl ?_
    refine aw_nameI (fun I12 e12 => ?_)
    replace h := h I12 e12
    refine aw_getR X zf_RX7_35 rfl zs_87 zr_87_10 dX7_restore_95 ?_
    refine aw_iload_n X 1 dX7_restore_98 rfl ?_
    refine aw_aload_n X 0 dX7_restore_99 rfl ?_
    refine aw_getR X zf_RX7_47 rfl zs_87 zr_87_23 dX7_restore_100 ?_
    refine aw_bipush (v := 40) X dX7_restore_103 (by decide) ?_
    refine aw_iload_n X 1 dX7_restore_105 rfl ?_
    refine aw_iadd X dX7_restore_106 ?_
    have n13 := h.1
    replace h := h.2
    refine aw_ialdj (j := (40 + y1).toNatClampNeg) X zs_100 n13 rfl dX7_restore_107 ?_
    refine aw_iastj (j := y1.toNatClampNeg) X zs_96 n3 rfl dX7_restore_108 ?_
    refine aw_iinc (v := y1 + 1) X 1 dX7_restore_109 rfl rfl (by decide) rfl ?_
    refine aw_goto X 16 dX7_restore_112 rfl ?_
    refine aw_perm (ks9 := [(0, vR 87), (1, vI (y1 + 1))]) [1, 0] rfl ?_
    exact h
  · replace h := zifn c1 h
    refine aw_iconst (v := 0) X dX7_restore_115 (by decide) ?_
    refine aw_istore_n X dX7_restore_116 (by decide) rfl ?_
    refine aw_perm (ks9 := [(0, vR 87), (1, vI 0)]) [1, 0] rfl ?_
    exact h
set_option maxRecDepth 100000 in
theorem s_X7_restore_117 {k : zK} {g : zG} {Q : Option zv → zI → zL → Prop} {I : zI} {L : zL} {y1 : Int32}  (X : zX k g cX7_restore RX7 2 (some .int) 2) (E : zE k g Q) (h : if y1 < 128 then (vp_in (48 + y1) 184 ∧ (vp_in y1 128 ∧ (AW k g 2 (zs I 97 y1.toNatClampNeg (I 100 ((48 + y1).toNatClampNeg))) L 117 [(0, vR 87), (1, vI (y1 + 1))] []))) else ((∀ I4 : zI, I4 = (zs I 87 3 (I 100 176)) → (∀ I5 : zI, I5 = (zs I4 87 5 (I4 100 177)) → (∀ I6 : zI, I6 = (zs I5 87 12 (I5 100 178)) → (∀ I7 : zI, I7 = (zs I6 87 13 (I6 100 179)) → (∀ I8 : zI, I8 = (zs I7 87 14 (I7 100 180)) → (∀ I9 : zI, I9 = (zs I8 87 15 (I8 100 181)) → (∀ I10 : zI, I10 = (zs I9 87 16 (I9 100 182)) → AW k g 2 (zs I10 87 17 (I10 100 183)) L 243 [(0, vR 87), (1, vI 0)] []))))))))) : AW k g 2 I L 117 [(0, vR 87), (1, vI y1)] [] := by
  refine aw_iload_n X 1 dX7_restore_117 rfl ?_
  refine aw_sipush (v := 128) X dX7_restore_118 (by decide) ?_
  refine aw_icmp_gen X 145 dX7_restore_121 rfl (fun c1 => ?_) (fun c1 => ?_)
  · replace h := zifp c1 h
    refine aw_aload_n X 0 dX7_restore_124 rfl ?_
    refine aw_getR X zf_RX7_38 rfl zs_87 zr_87_11 dX7_restore_125 ?_
    refine aw_iload_n X 1 dX7_restore_128 rfl ?_
    refine aw_aload_n X 0 dX7_restore_129 rfl ?_
    refine aw_getR X zf_RX7_47 rfl zs_87 zr_87_23 dX7_restore_130 ?_
    refine aw_bipush (v := 48) X dX7_restore_133 (by decide) ?_
    refine aw_iload_n X 1 dX7_restore_135 rfl ?_
    refine aw_iadd X dX7_restore_136 ?_
    have n2 := h.1
    replace h := h.2
    refine aw_ialdj (j := (48 + y1).toNatClampNeg) X zs_100 n2 rfl dX7_restore_137 ?_
    have n3 := h.1
    replace h := h.2
    refine aw_iastj (j := y1.toNatClampNeg) X zs_97 n3 rfl dX7_restore_138 ?_
    refine aw_iinc (v := y1 + 1) X 1 dX7_restore_139 rfl rfl (by decide) rfl ?_
    refine aw_goto X 117 dX7_restore_142 rfl ?_
    refine aw_perm (ks9 := [(0, vR 87), (1, vI (y1 + 1))]) [1, 0] rfl ?_
    exact h
  · replace h := zifn c1 h
    refine aw_aload_n X 0 dX7_restore_145 rfl ?_
    refine aw_aload_n X 0 dX7_restore_146 rfl ?_
    refine aw_getR X zf_RX7_47 rfl zs_87 zr_87_23 dX7_restore_147 ?_
    refine aw_sipush (v := 176) X dX7_restore_150 (by decide) ?_
    refine aw_ialdj (j := 176) X zs_100 (zinof (m := 184) (by decide) (by decide) (by decide)) (by decide) dX7_restore_153 ?_
    refine aw_putI X zf_RX7_91 rfl rfl rfl zs_87 dX7_restore_154 ?_
    refine aw_aload_n X 0 dX7_restore_157 rfl ?_
    refine aw_aload_n X 0 dX7_restore_158 rfl ?_
    refine aw_nameI (fun I4 e4 => ?_)
    replace h := h I4 e4
    refine aw_getR X zf_RX7_47 rfl zs_87 zr_87_23 dX7_restore_159 ?_
    refine aw_sipush (v := 177) X dX7_restore_162 (by decide) ?_
    refine aw_ialdj (j := 177) X zs_100 (zinof (m := 184) (by decide) (by decide) (by decide)) (by decide) dX7_restore_165 ?_
    refine aw_putI X zf_RX7_84 rfl rfl rfl zs_87 dX7_restore_166 ?_
    refine aw_aload_n X 0 dX7_restore_169 rfl ?_
    refine aw_aload_n X 0 dX7_restore_170 rfl ?_
    refine aw_nameI (fun I5 e5 => ?_)
    replace h := h I5 e5
    refine aw_getR X zf_RX7_47 rfl zs_87 zr_87_23 dX7_restore_171 ?_
    refine aw_sipush (v := 178) X dX7_restore_174 (by decide) ?_
    refine aw_ialdj (j := 178) X zs_100 (zinof (m := 184) (by decide) (by decide) (by decide)) (by decide) dX7_restore_177 ?_
    refine aw_putI X zf_RX7_65 rfl rfl rfl zs_87 dX7_restore_178 ?_
    refine aw_aload_n X 0 dX7_restore_181 rfl ?_
    refine aw_aload_n X 0 dX7_restore_182 rfl ?_
    refine aw_nameI (fun I6 e6 => ?_)
    replace h := h I6 e6
    refine aw_getR X zf_RX7_47 rfl zs_87 zr_87_23 dX7_restore_183 ?_
    refine aw_sipush (v := 179) X dX7_restore_186 (by decide) ?_
    refine aw_ialdj (j := 179) X zs_100 (zinof (m := 184) (by decide) (by decide) (by decide)) (by decide) dX7_restore_189 ?_
    refine aw_putI X zf_RX7_69 rfl rfl rfl zs_87 dX7_restore_190 ?_
    refine aw_aload_n X 0 dX7_restore_193 rfl ?_
    refine aw_aload_n X 0 dX7_restore_194 rfl ?_
    refine aw_nameI (fun I7 e7 => ?_)
    replace h := h I7 e7
    refine aw_getR X zf_RX7_47 rfl zs_87 zr_87_23 dX7_restore_195 ?_
    refine aw_sipush (v := 180) X dX7_restore_198 (by decide) ?_
    refine aw_ialdj (j := 180) X zs_100 (zinof (m := 184) (by decide) (by decide) (by decide)) (by decide) dX7_restore_201 ?_
    refine aw_putI X zf_RX7_72 rfl rfl rfl zs_87 dX7_restore_202 ?_
    refine aw_aload_n X 0 dX7_restore_205 rfl ?_
    refine aw_aload_n X 0 dX7_restore_206 rfl ?_
    refine aw_nameI (fun I8 e8 => ?_)
    replace h := h I8 e8
    refine aw_getR X zf_RX7_47 rfl zs_87 zr_87_23 dX7_restore_207 ?_
    refine aw_sipush (v := 181) X dX7_restore_210 (by decide) ?_
    refine aw_ialdj (j := 181) X zs_100 (zinof (m := 184) (by decide) (by decide) (by decide)) (by decide) dX7_restore_213 ?_
    refine aw_putI X zf_RX7_75 rfl rfl rfl zs_87 dX7_restore_214 ?_
    refine aw_aload_n X 0 dX7_restore_217 rfl ?_
    refine aw_aload_n X 0 dX7_restore_218 rfl ?_
    refine aw_nameI (fun I9 e9 => ?_)
    replace h := h I9 e9
    refine aw_getR X zf_RX7_47 rfl zs_87 zr_87_23 dX7_restore_219 ?_
    refine aw_sipush (v := 182) X dX7_restore_222 (by decide) ?_
    refine aw_ialdj (j := 182) X zs_100 (zinof (m := 184) (by decide) (by decide) (by decide)) (by decide) dX7_restore_225 ?_
    refine aw_putI X zf_RX7_215 rfl rfl rfl zs_87 dX7_restore_226 ?_
    refine aw_aload_n X 0 dX7_restore_229 rfl ?_
    refine aw_aload_n X 0 dX7_restore_230 rfl ?_
    refine aw_nameI (fun I10 e10 => ?_)
    replace h := h I10 e10
    refine aw_getR X zf_RX7_47 rfl zs_87 zr_87_23 dX7_restore_231 ?_
    refine aw_sipush (v := 183) X dX7_restore_234 (by decide) ?_
    refine aw_ialdj (j := 183) X zs_100 (zinof (m := 184) (by decide) (by decide) (by decide)) (by decide) dX7_restore_237 ?_
    refine aw_putI X zf_RX7_78 rfl rfl rfl zs_87 dX7_restore_238 ?_
    refine aw_iconst (v := 0) X dX7_restore_241 (by decide) ?_
    refine aw_istore_n X dX7_restore_242 (by decide) rfl ?_
    refine aw_perm (ks9 := [(0, vR 87), (1, vI 0)]) [1, 0] rfl ?_
    exact h
set_option maxRecDepth 100000 in
theorem s_X7_restore_243 {k : zK} {g : zG} {Q : Option zv → zI → zL → Prop} {I : zI} {L : zL} {y1 : Int32}  (X : zX k g cX7_restore RX7 2 (some .int) 2) (E : zE k g Q) (h : if y1 < 8 then (k_X7_isRow I y1 ∧ (if (v_X7_isRow I y1) = 0 then (vp_in y1 8 ∧ (if (I 88 y1.toNatClampNeg) < (I 87 5) then (AW k g 2 I L 243 [(0, vR 87), (1, vI (y1 + 1))] []) else (AW k g 2 (zs I 88 y1.toNatClampNeg (-1)) L 243 [(0, vR 87), (1, vI (y1 + 1))] []))) else (AW k g 2 I L 243 [(0, vR 87), (1, vI (y1 + 1))] []))) else (Q (some (vI (I 87 5))) I L)) : AW k g 2 I L 243 [(0, vR 87), (1, vI y1)] [] := by
  refine aw_iload_n X 1 dX7_restore_243 rfl ?_
  refine aw_bipush (v := 8) X dX7_restore_244 (by decide) ?_
  refine aw_icmp_gen X 283 dX7_restore_246 rfl (fun c1 => ?_) (fun c1 => ?_)
  · replace h := zifp c1 h
    refine aw_aload_n X 0 dX7_restore_249 rfl ?_
    refine aw_iload_n X 1 dX7_restore_250 rfl ?_
    have n2 := h.1
    replace h := h.2
    refine aw_pV X (as := [vI y1]) mf_X7_isRow zw_1149 (p_X7_isRow n2) zs_87 rfl rfl (by decide) (Nat.le_of_ble_eq_true rfl) dX7_restore_251 ?_
    refine aw_if_ne X 277 dX7_restore_254 rfl (fun c3 => ?_) (fun c3 => ?_)
    · replace h := zifn c3 h
      refine aw_iinc (v := y1 + 1) X 1 dX7_restore_277 rfl rfl (by decide) rfl ?_
      refine aw_goto X 243 dX7_restore_280 rfl ?_
      refine aw_perm (ks9 := [(0, vR 87), (1, vI (y1 + 1))]) [1, 0] rfl ?_
      exact h
    · replace h := zifp c3 h
      refine aw_aload_n X 0 dX7_restore_257 rfl ?_
      refine aw_getR X zf_RX7_7 rfl zs_87 zr_87_0 dX7_restore_258 ?_
      refine aw_iload_n X 1 dX7_restore_261 rfl ?_
      have n4 := h.1
      replace h := h.2
      refine aw_ialdj (j := y1.toNatClampNeg) X zs_88 n4 rfl dX7_restore_262 ?_
      refine aw_aload_n X 0 dX7_restore_263 rfl ?_
      refine aw_getI X zf_RX7_84 rfl zs_87 dX7_restore_264 ?_
      refine aw_icmp_lt X 277 dX7_restore_267 rfl (fun c5 => ?_) (fun c5 => ?_)
      · replace h := zifp c5 h
        refine aw_iinc (v := y1 + 1) X 1 dX7_restore_277 rfl rfl (by decide) rfl ?_
        refine aw_goto X 243 dX7_restore_280 rfl ?_
        refine aw_perm (ks9 := [(0, vR 87), (1, vI (y1 + 1))]) [1, 0] rfl ?_
        exact h
      · replace h := zifn c5 h
        refine aw_aload_n X 0 dX7_restore_270 rfl ?_
        refine aw_getR X zf_RX7_7 rfl zs_87 zr_87_0 dX7_restore_271 ?_
        refine aw_iload_n X 1 dX7_restore_274 rfl ?_
        refine aw_iconst (v := (-1)) X dX7_restore_275 (by decide) ?_
        refine aw_iastj (j := y1.toNatClampNeg) X zs_88 n4 rfl dX7_restore_276 ?_
        refine aw_iinc (v := y1 + 1) X 1 dX7_restore_277 rfl rfl (by decide) rfl ?_
        refine aw_goto X 243 dX7_restore_280 rfl ?_
        refine aw_perm (ks9 := [(0, vR 87), (1, vI (y1 + 1))]) [1, 0] rfl ?_
        exact h
  · replace h := zifn c1 h
    refine aw_aload_n X 0 dX7_restore_283 rfl ?_
    refine aw_getI X zf_RX7_84 rfl zs_87 dX7_restore_284 ?_
    exact aw_iret X E rfl dX7_restore_287 h
set_option maxRecDepth 100000 in
theorem m_X7_restore {l : Launch} {g : zG} {Q : Option zv → zI → zL → Prop} {I : zI} {L : zL}   (h : ∀ k : zK, kl k = l → zX k g cX7_restore RX7 2 (some .int) 2 → zE k g Q → (if (I 87 22) = 0 then (Call (kl k) g 1 M_X7_no [vR 87, vI (-6)] I L (zi fun r2 I2 L2 => Q (some (vI r2)) I2 L2)) else (AW k g 2 I L 16 [(0, vR 87), (1, vI 0)] []))) : Call l g 2 M_X7_restore [vR 87] I L Q := by
  refine aw_entry (by decide) (Nat.le_of_ble_eq_true rfl) (fun k hk (X : zX k g cX7_restore RX7 2 (some .int) 2) E => ?_)
  show AW k g 2 I L 0 [(0, vR 87)] []
  replace h := h k hk X E
  subst hk
  refine aw_aload_n X 0 dX7_restore_0 rfl ?_
  refine aw_getI X zf_RX7_259 rfl zs_87 dX7_restore_1 ?_
  refine aw_if_ne X 14 dX7_restore_4 rfl (fun c1 => ?_) (fun c1 => ?_)
  · replace h := zifn c1 h
    refine aw_iconst (v := 0) X dX7_restore_14 (by decide) ?_
    refine aw_istore_n X dX7_restore_15 (by decide) rfl ?_
    refine aw_perm (ks9 := [(0, vR 87), (1, vI 0)]) [1, 0] rfl ?_
    exact h
  · replace h := zifp c1 h
    refine aw_aload_n X 0 dX7_restore_7 rfl ?_
    refine aw_bipush (v := (-6)) X dX7_restore_8 (by decide) ?_
    refine aw_callV X (as := [vI (-6)]) mf_X7_no zw_1137 h zs_87 rfl rfl (by decide) (Nat.le_of_ble_eq_true rfl) dX7_restore_10 (fun v I2 L2 h => ?_)
    obtain ⟨r2, rfl, h⟩ := h
    exact aw_iret X E rfl dX7_restore_13 h
set_option maxRecDepth 100000 in
theorem m_X7_room {l : Launch} {g : zG} {Q : Option zv → zI → zL → Prop} {I : zI} {L : zL} {a1 : Int32} {a2 : Int32}  (h : if (v_X7_isPane I a1) = 0 then (Call l g 1 M_X7_no [vR 87, vI (-1)] I L (zi fun r5 I5 L5 => Q (some (vI r5)) I5 L5)) else (if (v_X7_within a2 0 9) = 0 then (Call l g 1 M_X7_no [vR 87, vI (-6)] I L (zi fun r4 I4 L4 => Q (some (vI r4)) I4 L4)) else (vp_in a1 8 ∧ (Q (some (vI (I 93 a1.toNatClampNeg))) (zs I 93 a1.toNatClampNeg a2) L)))) : Call l g 3 M_X7_room [vR 87, vI a1, vI a2] I L Q := by
  refine aw_entry (by decide) (Nat.le_of_ble_eq_true rfl) (fun k hk (X : zX k g cX7_room RX7 4 (some .int) 3) E => ?_)
  show AW k g 4 I L 0 [(0, vR 87), (1, vI a1), (2, vI a2)] []
  subst hk
  refine aw_aload_n X 0 dX7_room_0 rfl ?_
  refine aw_iload_n X 1 dX7_room_1 rfl ?_
  refine aw_pV X (as := [vI a1]) mf_X7_isPane zw_1165 (p_X7_isPane) zs_87 rfl rfl (by decide) (Nat.le_of_ble_eq_true rfl) dX7_room_2 ?_
  refine aw_if_ne X 14 dX7_room_5 rfl (fun c1 => ?_) (fun c1 => ?_)
  · replace h := zifn c1 h
    refine aw_iload_n X 2 dX7_room_14 rfl ?_
    refine aw_iconst (v := 0) X dX7_room_15 (by decide) ?_
    refine aw_bipush (v := 9) X dX7_room_16 (by decide) ?_
    refine aw_pS X (as := [vI a2, vI 0, vI 9]) mf_X7_within zw_1134 (p_X7_within) rfl rfl (by decide) (Nat.le_of_ble_eq_true rfl) dX7_room_18 ?_
    refine aw_if_ne X 31 dX7_room_21 rfl (fun c2 => ?_) (fun c2 => ?_)
    · replace h := zifn c2 h
      refine aw_aload_n X 0 dX7_room_31 rfl ?_
      refine aw_getR X zf_RX7_26 rfl zs_87 zr_87_7 dX7_room_32 ?_
      refine aw_iload_n X 1 dX7_room_35 rfl ?_
      have n3 := h.1
      replace h := h.2
      refine aw_ialdj (j := a1.toNatClampNeg) X zs_93 n3 rfl dX7_room_36 ?_
      refine aw_istore_n X dX7_room_37 (by decide) rfl ?_
      refine aw_aload_n X 1 dX7_room_38 rfl ?_
      refine aw_getR X zf_RX7_26 rfl zs_87 zr_87_7 dX7_room_39 ?_
      refine aw_iload_n X 2 dX7_room_42 rfl ?_
      refine aw_iload_n X 3 dX7_room_43 rfl ?_
      refine aw_iastj (j := a1.toNatClampNeg) X zs_93 n3 rfl dX7_room_44 ?_
      refine aw_iload_n X 0 dX7_room_45 rfl ?_
      exact aw_iret X E rfl dX7_room_46 h
    · replace h := zifp c2 h
      refine aw_aload_n X 0 dX7_room_24 rfl ?_
      refine aw_bipush (v := (-6)) X dX7_room_25 (by decide) ?_
      refine aw_callV X (as := [vI (-6)]) mf_X7_no zw_1137 h zs_87 rfl rfl (by decide) (Nat.le_of_ble_eq_true rfl) dX7_room_27 (fun v I4 L4 h => ?_)
      obtain ⟨r4, rfl, h⟩ := h
      exact aw_iret X E rfl dX7_room_30 h
  · replace h := zifp c1 h
    refine aw_aload_n X 0 dX7_room_8 rfl ?_
    refine aw_iconst (v := (-1)) X dX7_room_9 (by decide) ?_
    refine aw_callV X (as := [vI (-1)]) mf_X7_no zw_1137 h zs_87 rfl rfl (by decide) (Nat.le_of_ble_eq_true rfl) dX7_room_10 (fun v I5 L5 h => ?_)
    obtain ⟨r5, rfl, h⟩ := h
    exact aw_iret X E rfl dX7_room_13 h
set_option maxRecDepth 100000 in
theorem s_X7_row_77 {k : zK} {g : zG} {Q : Option zv → zI → zL → Prop} {I : zI} {L : zL} {y1 : Int32} {y4 : Int32}  (X : zX k g cX7_row RX7 5 (some .int) 2) (E : zE k g Q) (h : if y4 < 160 then (vp_in ((160 * y1) + y4) 1280 ∧ (AW k g 5 I (zs L 90 (((160 * y1) + y4).toNatClampNeg) 0) 77 [(0, vR 87), (1, vI y1), (4, vI (y4 + 1))] [])) else (Q (some (vI 1)) I L)) : AW k g 5 I L 77 [(0, vR 87), (1, vI y1), (4, vI y4)] [] := by
  refine aw_iload X 2 dX7_row_77 rfl ?_
  refine aw_sipush (v := 160) X dX7_row_79 (by decide) ?_
  refine aw_icmp_gen X 105 dX7_row_82 rfl (fun c1 => ?_) (fun c1 => ?_)
  · replace h := zifp c1 h
    refine aw_aload_n X 0 dX7_row_85 rfl ?_
    refine aw_getR X zf_RX7_16 rfl zs_87 zr_87_2 dX7_row_86 ?_
    refine aw_sipush (v := 160) X dX7_row_89 (by decide) ?_
    refine aw_iload_n X 1 dX7_row_92 rfl ?_
    refine aw_imul X dX7_row_93 ?_
    refine aw_iload X 2 dX7_row_94 rfl ?_
    refine aw_iadd X dX7_row_96 ?_
    refine aw_lconst (v := 0) X dX7_row_97 (by decide) ?_
    have n2 := h.1
    replace h := h.2
    refine aw_lastj (j := ((160 * y1) + y4).toNatClampNeg) X zs_90 n2 rfl dX7_row_98 ?_
    refine aw_iinc (v := y4 + 1) X 2 dX7_row_99 rfl rfl (by decide) rfl ?_
    refine aw_goto X 77 dX7_row_102 rfl ?_
    refine aw_perm (ks9 := [(0, vR 87), (1, vI y1), (4, vI (y4 + 1))]) [1, 2, 0] rfl ?_
    exact h
  · replace h := zifn c1 h
    refine aw_iconst (v := 1) X dX7_row_105 (by decide) ?_
    exact aw_iret X E rfl dX7_row_106 h
set_option maxRecDepth 100000 in
theorem m_X7_row {l : Launch} {g : zG} {Q : Option zv → zI → zL → Prop} {I : zI} {L : zL} {a1 : Int32} {a2 : Int32} {a3 : Int32}  (h : ∀ k : zK, kl k = l → zX k g cX7_row RX7 5 (some .int) 2 → zE k g Q → (if (v_X7_within a1 0 7) = 0 then (Call (kl k) g 1 M_X7_no [vR 87, vI (-1)] I L (zi fun r9 I9 L9 => Q (some (vI r9)) I9 L9)) else (if a3 < 0 then (Call (kl k) g 1 M_X7_no [vR 87, vI (-4)] I L (zi fun r3 I3 L3 => Q (some (vI r3)) I3 L3)) else (if (v_X7_within a2 0 3) = 0 then (Call (kl k) g 1 M_X7_no [vR 87, vI (-6)] I L (zi fun r8 I8 L8 => Q (some (vI r8)) I8 L8)) else (if 160 < a3 then (Call (kl k) g 1 M_X7_no [vR 87, vI (-7)] I L (zi fun r6 I6 L6 => Q (some (vI r6)) I6 L6)) else ((∀ I7 : zI, I7 = (zs I 88 a1.toNatClampNeg (100 + a2)) → AW k g 5 (zs I7 89 a1.toNatClampNeg a3) L 77 [(0, vR 87), (1, vI a1), (4, vI 0)] []))))))) : Call l g 2 M_X7_row [vR 87, vI a1, vI a2, vI a3] I L Q := by
  refine aw_entry (by decide) (Nat.le_of_ble_eq_true rfl) (fun k hk (X : zX k g cX7_row RX7 5 (some .int) 2) E => ?_)
  show AW k g 5 I L 0 [(0, vR 87), (1, vI a1), (2, vI a2), (3, vI a3)] []
  replace h := h k hk X E
  subst hk
  refine aw_iload_n X 1 dX7_row_0 rfl ?_
  refine aw_iconst (v := 0) X dX7_row_1 (by decide) ?_
  refine aw_bipush (v := 7) X dX7_row_2 (by decide) ?_
  refine aw_pS X (as := [vI a1, vI 0, vI 7]) mf_X7_within zw_1134 (p_X7_within) rfl rfl (by decide) (Nat.le_of_ble_eq_true rfl) dX7_row_4 ?_
  refine aw_if_ne X 16 dX7_row_7 rfl (fun c1 => ?_) (fun c1 => ?_)
  · replace h := zifn c1 h
    refine aw_iload_n X 3 dX7_row_16 rfl ?_
    refine aw_if_gen X 27 dX7_row_17 rfl (fun c2 => ?_) (fun c2 => ?_)
    · replace h := zifp c2 h
      refine aw_aload_n X 0 dX7_row_20 rfl ?_
      refine aw_bipush (v := (-4)) X dX7_row_21 (by decide) ?_
      refine aw_callV X (as := [vI (-4)]) mf_X7_no zw_1137 h zs_87 rfl rfl (by decide) (Nat.le_of_ble_eq_true rfl) dX7_row_23 (fun v I3 L3 h => ?_)
      obtain ⟨r3, rfl, h⟩ := h
      exact aw_iret X E rfl dX7_row_26 h
    · replace h := zifn c2 h
      refine aw_iload_n X 2 dX7_row_27 rfl ?_
      refine aw_iconst (v := 0) X dX7_row_28 (by decide) ?_
      refine aw_iconst (v := 3) X dX7_row_29 (by decide) ?_
      refine aw_pS X (as := [vI a2, vI 0, vI 3]) mf_X7_within zw_1134 (p_X7_within) rfl rfl (by decide) (Nat.le_of_ble_eq_true rfl) dX7_row_30 ?_
      refine aw_if_ne X 43 dX7_row_33 rfl (fun c4 => ?_) (fun c4 => ?_)
      · replace h := zifn c4 h
        refine aw_iload_n X 3 dX7_row_43 rfl ?_
        refine aw_sipush (v := 160) X dX7_row_44 (by decide) ?_
        refine aw_icmp_len X 57 dX7_row_47 rfl (fun c5 => ?_) (fun c5 => ?_)
        · replace h := zifp c5 h
          refine aw_aload_n X 0 dX7_row_50 rfl ?_
          refine aw_bipush (v := (-7)) X dX7_row_51 (by decide) ?_
          refine aw_callV X (as := [vI (-7)]) mf_X7_no zw_1137 h zs_87 rfl rfl (by decide) (Nat.le_of_ble_eq_true rfl) dX7_row_53 (fun v I6 L6 h => ?_)
          obtain ⟨r6, rfl, h⟩ := h
          exact aw_iret X E rfl dX7_row_56 h
        · replace h := zifn c5 h
          refine aw_aload_n X 0 dX7_row_57 rfl ?_
          refine aw_getR X zf_RX7_7 rfl zs_87 zr_87_0 dX7_row_58 ?_
          refine aw_iload_n X 1 dX7_row_61 rfl ?_
          refine aw_bipush (v := 100) X dX7_row_62 (by decide) ?_
          refine aw_iload_n X 2 dX7_row_64 rfl ?_
          refine aw_iadd X dX7_row_65 ?_
          refine aw_iastj (j := a1.toNatClampNeg) X zs_88 (zin_within c1 (by decide)) rfl dX7_row_66 ?_
          refine aw_aload_n X 0 dX7_row_67 rfl ?_
          refine aw_nameI (fun I7 e7 => ?_)
          replace h := h I7 e7
          refine aw_getR X zf_RX7_13 rfl zs_87 zr_87_1 dX7_row_68 ?_
          refine aw_iload_n X 1 dX7_row_71 rfl ?_
          refine aw_iload_n X 3 dX7_row_72 rfl ?_
          refine aw_iastj (j := a1.toNatClampNeg) X zs_89 (zin_within c1 (by decide)) rfl dX7_row_73 ?_
          refine aw_iconst (v := 0) X dX7_row_74 (by decide) ?_
          refine aw_istore X dX7_row_75 (by decide) rfl ?_
          refine aw_perm (ks9 := [(0, vR 87), (1, vI a1), (4, vI 0)]) [1, 2, 0] rfl ?_
          exact h
      · replace h := zifp c4 h
        refine aw_aload_n X 0 dX7_row_36 rfl ?_
        refine aw_bipush (v := (-6)) X dX7_row_37 (by decide) ?_
        refine aw_callV X (as := [vI (-6)]) mf_X7_no zw_1137 h zs_87 rfl rfl (by decide) (Nat.le_of_ble_eq_true rfl) dX7_row_39 (fun v I8 L8 h => ?_)
        obtain ⟨r8, rfl, h⟩ := h
        exact aw_iret X E rfl dX7_row_42 h
  · replace h := zifp c1 h
    refine aw_aload_n X 0 dX7_row_10 rfl ?_
    refine aw_iconst (v := (-1)) X dX7_row_11 (by decide) ?_
    refine aw_callV X (as := [vI (-1)]) mf_X7_no zw_1137 h zs_87 rfl rfl (by decide) (Nat.le_of_ble_eq_true rfl) dX7_row_12 (fun v I9 L9 h => ?_)
    obtain ⟨r9, rfl, h⟩ := h
    exact aw_iret X E rfl dX7_row_15 h
set_option maxRecDepth 100000 in
theorem m_X7_says {l : Launch} {g : zG} {Q : Option zv → zI → zL → Prop} {I : zI} {L : zL} {a1 : Int32} {a2 : Int32}  (h : if (v_X7_within a1 0 7) = 0 then (Call l g 1 M_X7_no [vR 87, vI (-1)] I L (zi fun r2 I2 L2 => Q (some (vI r2)) I2 L2)) else (if (v_X7_within a2 0 6) = 0 then (Call l g 1 M_X7_no [vR 87, vI (-1)] I L (zi fun r48 I48 L48 => Q (some (vI r48)) I48 L48)) else (if (I 88 a1.toNatClampNeg) < 0 then (if (I 88 a1.toNatClampNeg) < 0 then (Call l g 1 M_X7_no [vR 87, vI (-3)] I L (zi fun r6 I6 L6 => Q (some (vI r6)) I6 L6)) else (if a2 = 0 then (k_X7_sharp I (I 88 a1.toNatClampNeg) ∧ (Q (some (vI (v_X7_sharp I (I 88 a1.toNatClampNeg)))) I L)) else if a2 = 1 then (Q (some (vI (I 94 ((I 88 a1.toNatClampNeg).toNatClampNeg)))) I L) else if a2 = 2 then (Q (some (vI (jmax 0 ((I 87 12) - (I 94 ((I 88 a1.toNatClampNeg).toNatClampNeg)))))) I L) else if a2 = 3 then (Q (some (vI (I 93 ((I 88 a1.toNatClampNeg).toNatClampNeg)))) I L) else if a2 = 4 then (k_X7_melts I (I 88 a1.toNatClampNeg) 23 ∧ (Q (some (vI (v_X7_melts I (I 88 a1.toNatClampNeg) 23))) I L)) else if a2 = 5 then (Q (some (vI (jrem (I 94 ((I 88 a1.toNatClampNeg).toNatClampNeg)) 4))) I L) else (Q (some (vI (I 93 ((I 88 a1.toNatClampNeg).toNatClampNeg)))) I L))) else (k_X7_isRow I a1 ∧ (if (v_X7_isRow I a1) = 0 then (vp_in (I 88 a1.toNatClampNeg) 8 ∧ (k_X7_isUnder (I 92 ((I 88 a1.toNatClampNeg).toNatClampNeg)) a2 ∧ (if (v_X7_isUnder (I 92 ((I 88 a1.toNatClampNeg).toNatClampNeg)) a2) = 0 then (Call l g 1 M_X7_no [vR 87, vI (-2)] I L (zi fun r47 I47 L47 => Q (some (vI r47)) I47 L47)) else (if (I 88 a1.toNatClampNeg) < 0 then (Call l g 1 M_X7_no [vR 87, vI (-3)] I L (zi fun r30 I30 L30 => Q (some (vI r30)) I30 L30)) else (if a2 = 0 then (k_X7_sharp I (I 88 a1.toNatClampNeg) ∧ (Q (some (vI (v_X7_sharp I (I 88 a1.toNatClampNeg)))) I L)) else if a2 = 1 then (Q (some (vI (I 94 ((I 88 a1.toNatClampNeg).toNatClampNeg)))) I L) else if a2 = 2 then (Q (some (vI (jmax 0 ((I 87 12) - (I 94 ((I 88 a1.toNatClampNeg).toNatClampNeg)))))) I L) else if a2 = 3 then (Q (some (vI (I 93 ((I 88 a1.toNatClampNeg).toNatClampNeg)))) I L) else if a2 = 4 then (k_X7_melts I (I 88 a1.toNatClampNeg) 23 ∧ (Q (some (vI (v_X7_melts I (I 88 a1.toNatClampNeg) 23))) I L)) else if a2 = 5 then (Q (some (vI (jrem (I 94 ((I 88 a1.toNatClampNeg).toNatClampNeg)) 4))) I L) else (Q (some (vI (I 93 ((I 88 a1.toNatClampNeg).toNatClampNeg)))) I L)))))) else (Call l g 1 M_X7_no [vR 87, vI (-2)] I L (zi fun r25 I25 L25 => Q (some (vI r25)) I25 L25))))))) : Call l g 3 M_X7_says [vR 87, vI a1, vI a2] I L Q := by
  refine aw_entry (by decide) (Nat.le_of_ble_eq_true rfl) (fun k hk (X : zX k g cX7_says RX7 4 (some .int) 3) E => ?_)
  show AW k g 4 I L 0 [(0, vR 87), (1, vI a1), (2, vI a2)] []
  subst hk
  refine aw_iload_n X 1 dX7_says_0 rfl ?_
  refine aw_iconst (v := 0) X dX7_says_1 (by decide) ?_
  refine aw_bipush (v := 7) X dX7_says_2 (by decide) ?_
  refine aw_pS X (as := [vI a1, vI 0, vI 7]) mf_X7_within zw_1134 (p_X7_within) rfl rfl (by decide) (Nat.le_of_ble_eq_true rfl) dX7_says_4 ?_
  refine aw_if_eq X 20 dX7_says_7 rfl (fun c1 => ?_) (fun c1 => ?_)
  · replace h := zifp c1 h
    refine aw_aload_n X 0 dX7_says_20 rfl ?_
    refine aw_iconst (v := (-1)) X dX7_says_21 (by decide) ?_
    refine aw_callV X (as := [vI (-1)]) mf_X7_no zw_1137 h zs_87 rfl rfl (by decide) (Nat.le_of_ble_eq_true rfl) dX7_says_22 (fun v I2 L2 h => ?_)
    obtain ⟨r2, rfl, h⟩ := h
    exact aw_iret X E rfl dX7_says_25 h
  · replace h := zifn c1 h
    refine aw_iload_n X 2 dX7_says_10 rfl ?_
    refine aw_iconst (v := 0) X dX7_says_11 (by decide) ?_
    refine aw_bipush (v := 6) X dX7_says_12 (by decide) ?_
    refine aw_pS X (as := [vI a2, vI 0, vI 6]) mf_X7_within zw_1134 (p_X7_within) rfl rfl (by decide) (Nat.le_of_ble_eq_true rfl) dX7_says_14 ?_
    refine aw_if_ne X 26 dX7_says_17 rfl (fun c3 => ?_) (fun c3 => ?_)
    · replace h := zifn c3 h
      refine aw_aload_n X 0 dX7_says_26 rfl ?_
      refine aw_getR X zf_RX7_7 rfl zs_87 zr_87_0 dX7_says_27 ?_
      refine aw_iload_n X 1 dX7_says_30 rfl ?_
      refine aw_ialdj (j := a1.toNatClampNeg) X zs_88 (zin_within c1 (by decide)) rfl dX7_says_31 ?_
      refine aw_istore_n X dX7_says_32 (by decide) rfl ?_
      refine aw_iload_n X 0 dX7_says_33 rfl ?_
      refine aw_if_lt X 65 dX7_says_34 rfl (fun c4 => ?_) (fun c4 => ?_)
      · replace h := zifp c4 h
        refine aw_iload_n X 0 dX7_says_65 rfl ?_
        refine aw_if_gen X 76 dX7_says_66 rfl (fun c5 => ?_) (fun c5 => ?_)
        · replace h := zifp c5 h
          refine aw_aload_n X 1 dX7_says_69 rfl ?_
          refine aw_bipush (v := (-3)) X dX7_says_70 (by decide) ?_
          refine aw_callV X (as := [vI (-3)]) mf_X7_no zw_1137 h zs_87 rfl rfl (by decide) (Nat.le_of_ble_eq_true rfl) dX7_says_72 (fun v I6 L6 h => ?_)
          obtain ⟨r6, rfl, h⟩ := h
          exact aw_iret X E rfl dX7_says_75 h
        · replace h := zifn c5 h
          refine aw_iload_n X 3 dX7_says_76 rfl ?_
          by_cases c15 : a2 = 0
          · replace h := zifp c15 h
            refine aw_tableIn X 0 116 dX7_says_77 (by rw [c15]; rfl) (by decide) rfl rfl ?_
            refine aw_aload_n X 1 dX7_says_116 rfl ?_
            refine aw_iload_n X 0 dX7_says_117 rfl ?_
            have n16 := h.1
            replace h := h.2
            refine aw_pV X (as := [vI (I 88 a1.toNatClampNeg)]) mf_X7_sharp zw_1183 (p_X7_sharp n16) zs_87 rfl rfl (by decide) (Nat.le_of_ble_eq_true rfl) dX7_says_118 ?_
            exact aw_iret X E rfl dX7_says_121 h
          replace h := zifn c15 h
          by_cases c17 : a2 = 1
          · replace h := zifp c17 h
            refine aw_tableIn X 1 122 dX7_says_77 (by rw [c17]; rfl) (by decide) rfl rfl ?_
            refine aw_aload_n X 1 dX7_says_122 rfl ?_
            refine aw_getR X zf_RX7_29 rfl zs_87 zr_87_8 dX7_says_123 ?_
            refine aw_iload_n X 0 dX7_says_126 rfl ?_
            refine aw_ialdj (j := (I 88 a1.toNatClampNeg).toNatClampNeg) X zs_94 (zinof c5 c4 (by decide)) rfl dX7_says_127 ?_
            exact aw_iret X E rfl dX7_says_128 h
          replace h := zifn c17 h
          by_cases c18 : a2 = 2
          · replace h := zifp c18 h
            refine aw_tableIn X 2 129 dX7_says_77 (by rw [c18]; rfl) (by decide) rfl rfl ?_
            refine aw_iconst (v := 0) X dX7_says_129 (by decide) ?_
            refine aw_aload_n X 1 dX7_says_130 rfl ?_
            refine aw_getI X zf_RX7_65 rfl zs_87 dX7_says_131 ?_
            refine aw_aload_n X 1 dX7_says_134 rfl ?_
            refine aw_getR X zf_RX7_29 rfl zs_87 zr_87_8 dX7_says_135 ?_
            refine aw_iload_n X 0 dX7_says_138 rfl ?_
            refine aw_ialdj (j := (I 88 a1.toNatClampNeg).toNatClampNeg) X zs_94 (zinof c5 c4 (by decide)) rfl dX7_says_139 ?_
            refine aw_isub X dX7_says_140 ?_
            refine aw_max X (by decide) (Nat.le_of_ble_eq_true rfl) ⟨zw_1187, zw_407, zw_69, zw_408⟩ dX7_says_141 ?_
            exact aw_iret X E rfl dX7_says_144 h
          replace h := zifn c18 h
          by_cases c19 : a2 = 3
          · replace h := zifp c19 h
            refine aw_tableIn X 3 162 dX7_says_77 (by rw [c19]; rfl) (by decide) rfl rfl ?_
            refine aw_aload_n X 1 dX7_says_162 rfl ?_
            refine aw_getR X zf_RX7_26 rfl zs_87 zr_87_7 dX7_says_163 ?_
            refine aw_iload_n X 0 dX7_says_166 rfl ?_
            refine aw_ialdj (j := (I 88 a1.toNatClampNeg).toNatClampNeg) X zs_93 (zinof c5 c4 (by decide)) rfl dX7_says_167 ?_
            exact aw_iret X E rfl dX7_says_168 h
          replace h := zifn c19 h
          by_cases c20 : a2 = 4
          · replace h := zifp c20 h
            refine aw_tableIn X 4 145 dX7_says_77 (by rw [c20]; rfl) (by decide) rfl rfl ?_
            refine aw_aload_n X 1 dX7_says_145 rfl ?_
            refine aw_iload_n X 0 dX7_says_146 rfl ?_
            refine aw_bipush (v := 23) X dX7_says_147 (by decide) ?_
            have n21 := h.1
            replace h := h.2
            refine aw_pV X (as := [vI (I 88 a1.toNatClampNeg), vI 23]) mf_X7_melts zw_1188 (p_X7_melts n21) zs_87 rfl rfl (by decide) (Nat.le_of_ble_eq_true rfl) dX7_says_149 ?_
            exact aw_iret X E rfl dX7_says_152 h
          replace h := zifn c20 h
          by_cases c22 : a2 = 5
          · replace h := zifp c22 h
            refine aw_tableIn X 5 153 dX7_says_77 (by rw [c22]; rfl) (by decide) rfl rfl ?_
            refine aw_aload_n X 1 dX7_says_153 rfl ?_
            refine aw_getR X zf_RX7_29 rfl zs_87 zr_87_8 dX7_says_154 ?_
            refine aw_iload_n X 0 dX7_says_157 rfl ?_
            refine aw_ialdj (j := (I 88 a1.toNatClampNeg).toNatClampNeg) X zs_94 (zinof c5 c4 (by decide)) rfl dX7_says_158 ?_
            refine aw_iconst (v := 4) X dX7_says_159 (by decide) ?_
            refine aw_irem X dX7_says_160 (by decide) ?_
            exact aw_iret X E rfl dX7_says_161 h
          replace h := zifn c22 h
          have e0 := ztn (n := 0) rfl c15
          have e1 := ztn (n := 1) rfl c17
          have e2 := ztn (n := 2) rfl c18
          have e3 := ztn (n := 3) rfl c19
          have e4 := ztn (n := 4) rfl c20
          have e5 := ztn (n := 5) rfl c22
          refine aw_tableOut X 162 dX7_says_77 (by omega) rfl ?_
          refine aw_aload_n X 1 dX7_says_162 rfl ?_
          refine aw_getR X zf_RX7_26 rfl zs_87 zr_87_7 dX7_says_163 ?_
          refine aw_iload_n X 0 dX7_says_166 rfl ?_
          refine aw_ialdj (j := (I 88 a1.toNatClampNeg).toNatClampNeg) X zs_93 (zinof c5 c4 (by decide)) rfl dX7_says_167 ?_
          exact aw_iret X E rfl dX7_says_168 h
      · replace h := zifn c4 h
        refine aw_aload_n X 1 dX7_says_37 rfl ?_
        refine aw_iload_n X 2 dX7_says_38 rfl ?_
        have n23 := h.1
        replace h := h.2
        refine aw_pV X (as := [vI a1]) mf_X7_isRow zw_1149 (p_X7_isRow n23) zs_87 rfl rfl (by decide) (Nat.le_of_ble_eq_true rfl) dX7_says_39 ?_
        refine aw_if_ne X 58 dX7_says_42 rfl (fun c24 => ?_) (fun c24 => ?_)
        · replace h := zifn c24 h
          refine aw_aload_n X 1 dX7_says_58 rfl ?_
          refine aw_bipush (v := (-2)) X dX7_says_59 (by decide) ?_
          refine aw_callV X (as := [vI (-2)]) mf_X7_no zw_1137 h zs_87 rfl rfl (by decide) (Nat.le_of_ble_eq_true rfl) dX7_says_61 (fun v I25 L25 h => ?_)
          obtain ⟨r25, rfl, h⟩ := h
          exact aw_iret X E rfl dX7_says_64 h
        · replace h := zifp c24 h
          refine aw_aload_n X 1 dX7_says_45 rfl ?_
          refine aw_getR X zf_RX7_23 rfl zs_87 zr_87_6 dX7_says_46 ?_
          refine aw_iload_n X 0 dX7_says_49 rfl ?_
          have n26 := h.1
          replace h := h.2
          refine aw_ialdj (j := (I 88 a1.toNatClampNeg).toNatClampNeg) X zs_92 n26 rfl dX7_says_50 ?_
          refine aw_iload_n X 3 dX7_says_51 rfl ?_
          have n27 := h.1
          replace h := h.2
          refine aw_pS X (as := [vI (I 92 ((I 88 a1.toNatClampNeg).toNatClampNeg)), vI a2]) mf_X7_isUnder zw_1177 (p_X7_isUnder n27) rfl rfl (by decide) (Nat.le_of_ble_eq_true rfl) dX7_says_52 ?_
          refine aw_if_ne X 65 dX7_says_55 rfl (fun c28 => ?_) (fun c28 => ?_)
          · replace h := zifn c28 h
            refine aw_iload_n X 0 dX7_says_65 rfl ?_
            refine aw_if_gen X 76 dX7_says_66 rfl (fun c29 => ?_) (fun c29 => ?_)
            · replace h := zifp c29 h
              refine aw_aload_n X 1 dX7_says_69 rfl ?_
              refine aw_bipush (v := (-3)) X dX7_says_70 (by decide) ?_
              refine aw_callV X (as := [vI (-3)]) mf_X7_no zw_1137 h zs_87 rfl rfl (by decide) (Nat.le_of_ble_eq_true rfl) dX7_says_72 (fun v I30 L30 h => ?_)
              obtain ⟨r30, rfl, h⟩ := h
              exact aw_iret X E rfl dX7_says_75 h
            · replace h := zifn c29 h
              refine aw_iload_n X 3 dX7_says_76 rfl ?_
              by_cases c39 : a2 = 0
              · replace h := zifp c39 h
                refine aw_tableIn X 0 116 dX7_says_77 (by rw [c39]; rfl) (by decide) rfl rfl ?_
                refine aw_aload_n X 1 dX7_says_116 rfl ?_
                refine aw_iload_n X 0 dX7_says_117 rfl ?_
                have n40 := h.1
                replace h := h.2
                refine aw_pV X (as := [vI (I 88 a1.toNatClampNeg)]) mf_X7_sharp zw_1183 (p_X7_sharp n40) zs_87 rfl rfl (by decide) (Nat.le_of_ble_eq_true rfl) dX7_says_118 ?_
                exact aw_iret X E rfl dX7_says_121 h
              replace h := zifn c39 h
              by_cases c41 : a2 = 1
              · replace h := zifp c41 h
                refine aw_tableIn X 1 122 dX7_says_77 (by rw [c41]; rfl) (by decide) rfl rfl ?_
                refine aw_aload_n X 1 dX7_says_122 rfl ?_
                refine aw_getR X zf_RX7_29 rfl zs_87 zr_87_8 dX7_says_123 ?_
                refine aw_iload_n X 0 dX7_says_126 rfl ?_
                refine aw_ialdj (j := (I 88 a1.toNatClampNeg).toNatClampNeg) X zs_94 n26 rfl dX7_says_127 ?_
                exact aw_iret X E rfl dX7_says_128 h
              replace h := zifn c41 h
              by_cases c42 : a2 = 2
              · replace h := zifp c42 h
                refine aw_tableIn X 2 129 dX7_says_77 (by rw [c42]; rfl) (by decide) rfl rfl ?_
                refine aw_iconst (v := 0) X dX7_says_129 (by decide) ?_
                refine aw_aload_n X 1 dX7_says_130 rfl ?_
                refine aw_getI X zf_RX7_65 rfl zs_87 dX7_says_131 ?_
                refine aw_aload_n X 1 dX7_says_134 rfl ?_
                refine aw_getR X zf_RX7_29 rfl zs_87 zr_87_8 dX7_says_135 ?_
                refine aw_iload_n X 0 dX7_says_138 rfl ?_
                refine aw_ialdj (j := (I 88 a1.toNatClampNeg).toNatClampNeg) X zs_94 n26 rfl dX7_says_139 ?_
                refine aw_isub X dX7_says_140 ?_
                refine aw_max X (by decide) (Nat.le_of_ble_eq_true rfl) ⟨zw_1187, zw_407, zw_69, zw_408⟩ dX7_says_141 ?_
                exact aw_iret X E rfl dX7_says_144 h
              replace h := zifn c42 h
              by_cases c43 : a2 = 3
              · replace h := zifp c43 h
                refine aw_tableIn X 3 162 dX7_says_77 (by rw [c43]; rfl) (by decide) rfl rfl ?_
                refine aw_aload_n X 1 dX7_says_162 rfl ?_
                refine aw_getR X zf_RX7_26 rfl zs_87 zr_87_7 dX7_says_163 ?_
                refine aw_iload_n X 0 dX7_says_166 rfl ?_
                refine aw_ialdj (j := (I 88 a1.toNatClampNeg).toNatClampNeg) X zs_93 n26 rfl dX7_says_167 ?_
                exact aw_iret X E rfl dX7_says_168 h
              replace h := zifn c43 h
              by_cases c44 : a2 = 4
              · replace h := zifp c44 h
                refine aw_tableIn X 4 145 dX7_says_77 (by rw [c44]; rfl) (by decide) rfl rfl ?_
                refine aw_aload_n X 1 dX7_says_145 rfl ?_
                refine aw_iload_n X 0 dX7_says_146 rfl ?_
                refine aw_bipush (v := 23) X dX7_says_147 (by decide) ?_
                have n45 := h.1
                replace h := h.2
                refine aw_pV X (as := [vI (I 88 a1.toNatClampNeg), vI 23]) mf_X7_melts zw_1188 (p_X7_melts n45) zs_87 rfl rfl (by decide) (Nat.le_of_ble_eq_true rfl) dX7_says_149 ?_
                exact aw_iret X E rfl dX7_says_152 h
              replace h := zifn c44 h
              by_cases c46 : a2 = 5
              · replace h := zifp c46 h
                refine aw_tableIn X 5 153 dX7_says_77 (by rw [c46]; rfl) (by decide) rfl rfl ?_
                refine aw_aload_n X 1 dX7_says_153 rfl ?_
                refine aw_getR X zf_RX7_29 rfl zs_87 zr_87_8 dX7_says_154 ?_
                refine aw_iload_n X 0 dX7_says_157 rfl ?_
                refine aw_ialdj (j := (I 88 a1.toNatClampNeg).toNatClampNeg) X zs_94 n26 rfl dX7_says_158 ?_
                refine aw_iconst (v := 4) X dX7_says_159 (by decide) ?_
                refine aw_irem X dX7_says_160 (by decide) ?_
                exact aw_iret X E rfl dX7_says_161 h
              replace h := zifn c46 h
              have e0 := ztn (n := 0) rfl c39
              have e1 := ztn (n := 1) rfl c41
              have e2 := ztn (n := 2) rfl c42
              have e3 := ztn (n := 3) rfl c43
              have e4 := ztn (n := 4) rfl c44
              have e5 := ztn (n := 5) rfl c46
              refine aw_tableOut X 162 dX7_says_77 (by omega) rfl ?_
              refine aw_aload_n X 1 dX7_says_162 rfl ?_
              refine aw_getR X zf_RX7_26 rfl zs_87 zr_87_7 dX7_says_163 ?_
              refine aw_iload_n X 0 dX7_says_166 rfl ?_
              refine aw_ialdj (j := (I 88 a1.toNatClampNeg).toNatClampNeg) X zs_93 n26 rfl dX7_says_167 ?_
              exact aw_iret X E rfl dX7_says_168 h
          · replace h := zifp c28 h
            refine aw_aload_n X 1 dX7_says_58 rfl ?_
            refine aw_bipush (v := (-2)) X dX7_says_59 (by decide) ?_
            refine aw_callV X (as := [vI (-2)]) mf_X7_no zw_1137 h zs_87 rfl rfl (by decide) (Nat.le_of_ble_eq_true rfl) dX7_says_61 (fun v I47 L47 h => ?_)
            obtain ⟨r47, rfl, h⟩ := h
            exact aw_iret X E rfl dX7_says_64 h
    · replace h := zifp c3 h
      refine aw_aload_n X 0 dX7_says_20 rfl ?_
      refine aw_iconst (v := (-1)) X dX7_says_21 (by decide) ?_
      refine aw_callV X (as := [vI (-1)]) mf_X7_no zw_1137 h zs_87 rfl rfl (by decide) (Nat.le_of_ble_eq_true rfl) dX7_says_22 (fun v I48 L48 h => ?_)
      obtain ⟨r48, rfl, h⟩ := h
      exact aw_iret X E rfl dX7_says_25 h
set_option maxRecDepth 100000 in
theorem m_X7_scratch {l : Launch} {g : zG} {Q : Option zv → zI → zL → Prop} {I : zI} {L : zL} {a1 : Int32} {a2 : Int32}  (h : if (v_X7_isPane I a1) = 0 then (Call l g 1 M_X7_no [vR 87, vI (-1)] I L (zi fun r9 I9 L9 => Q (some (vI r9)) I9 L9)) else (if (v_X7_within a2 0 15) = 0 then (Call l g 1 M_X7_no [vR 87, vI (-5)] I L (zi fun r8 I8 L8 => Q (some (vI r8)) I8 L8)) else (vp_in a1 8 ∧ (if ((jshr (I 96 a1.toNatClampNeg) a2) &&& 1) = 1 then (Call l g 1 M_X7_no [vR 87, vI (-6)] I L (zi fun r7 I7 L7 => Q (some (vI r7)) I7 L7)) else ((∀ I5 : zI, I5 = (zs I 96 a1.toNatClampNeg ((I 96 a1.toNatClampNeg) ||| (jshl 1 a2))) → vp_in ((16 * a1) + a2) 128 ∧ (Q (some (vI (I5 97 (((16 * a1) + a2).toNatClampNeg)))) (zs I5 97 (((16 * a1) + a2).toNatClampNeg) 0) L))))))) : Call l g 3 M_X7_scratch [vR 87, vI a1, vI a2] I L Q := by
  refine aw_entry (by decide) (Nat.le_of_ble_eq_true rfl) (fun k hk (X : zX k g cX7_scratch RX7 4 (some .int) 3) E => ?_)
  show AW k g 4 I L 0 [(0, vR 87), (1, vI a1), (2, vI a2)] []
  subst hk
  refine aw_aload_n X 0 dX7_scratch_0 rfl ?_
  refine aw_iload_n X 1 dX7_scratch_1 rfl ?_
  refine aw_pV X (as := [vI a1]) mf_X7_isPane zw_1165 (p_X7_isPane) zs_87 rfl rfl (by decide) (Nat.le_of_ble_eq_true rfl) dX7_scratch_2 ?_
  refine aw_if_ne X 14 dX7_scratch_5 rfl (fun c1 => ?_) (fun c1 => ?_)
  · replace h := zifn c1 h
    refine aw_iload_n X 2 dX7_scratch_14 rfl ?_
    refine aw_iconst (v := 0) X dX7_scratch_15 (by decide) ?_
    refine aw_bipush (v := 15) X dX7_scratch_16 (by decide) ?_
    refine aw_pS X (as := [vI a2, vI 0, vI 15]) mf_X7_within zw_1134 (p_X7_within) rfl rfl (by decide) (Nat.le_of_ble_eq_true rfl) dX7_scratch_18 ?_
    refine aw_if_ne X 31 dX7_scratch_21 rfl (fun c2 => ?_) (fun c2 => ?_)
    · replace h := zifn c2 h
      refine aw_aload_n X 0 dX7_scratch_31 rfl ?_
      refine aw_getR X zf_RX7_35 rfl zs_87 zr_87_10 dX7_scratch_32 ?_
      refine aw_iload_n X 1 dX7_scratch_35 rfl ?_
      have n3 := h.1
      replace h := h.2
      refine aw_ialdj (j := a1.toNatClampNeg) X zs_96 n3 rfl dX7_scratch_36 ?_
      refine aw_iload_n X 2 dX7_scratch_37 rfl ?_
      refine aw_ishr X dX7_scratch_38 ?_
      refine aw_iconst (v := 1) X dX7_scratch_39 (by decide) ?_
      refine aw_iand X dX7_scratch_40 ?_
      refine aw_iconst (v := 1) X dX7_scratch_41 (by decide) ?_
      refine aw_icmp_ne X 52 dX7_scratch_42 rfl (fun c4 => ?_) (fun c4 => ?_)
      · replace h := zifn c4 h
        refine aw_aload_n X 0 dX7_scratch_52 rfl ?_
        refine aw_getR X zf_RX7_35 rfl zs_87 zr_87_10 dX7_scratch_53 ?_
        refine aw_iload_n X 1 dX7_scratch_56 rfl ?_
        refine aw_dup2 X dX7_scratch_57 rfl rfl ?_
        refine aw_ialdj (j := a1.toNatClampNeg) X zs_96 n3 rfl dX7_scratch_58 ?_
        refine aw_iconst (v := 1) X dX7_scratch_59 (by decide) ?_
        refine aw_iload_n X 2 dX7_scratch_60 rfl ?_
        refine aw_ishl X dX7_scratch_61 ?_
        refine aw_ior X dX7_scratch_62 ?_
        refine aw_iastj (j := a1.toNatClampNeg) X zs_96 n3 rfl dX7_scratch_63 ?_
        refine aw_aload_n X 0 dX7_scratch_64 rfl ?_
        refine aw_nameI (fun I5 e5 => ?_)
        replace h := h I5 e5
        refine aw_getR X zf_RX7_38 rfl zs_87 zr_87_11 dX7_scratch_65 ?_
        refine aw_bipush (v := 16) X dX7_scratch_68 (by decide) ?_
        refine aw_iload_n X 1 dX7_scratch_70 rfl ?_
        refine aw_imul X dX7_scratch_71 ?_
        refine aw_iload_n X 2 dX7_scratch_72 rfl ?_
        refine aw_iadd X dX7_scratch_73 ?_
        have n6 := h.1
        replace h := h.2
        refine aw_ialdj (j := ((16 * a1) + a2).toNatClampNeg) X zs_97 n6 rfl dX7_scratch_74 ?_
        refine aw_istore_n X dX7_scratch_75 (by decide) rfl ?_
        refine aw_aload_n X 1 dX7_scratch_76 rfl ?_
        refine aw_getR X zf_RX7_38 rfl zs_87 zr_87_11 dX7_scratch_77 ?_
        refine aw_bipush (v := 16) X dX7_scratch_80 (by decide) ?_
        refine aw_iload_n X 2 dX7_scratch_82 rfl ?_
        refine aw_imul X dX7_scratch_83 ?_
        refine aw_iload_n X 3 dX7_scratch_84 rfl ?_
        refine aw_iadd X dX7_scratch_85 ?_
        refine aw_iconst (v := 0) X dX7_scratch_86 (by decide) ?_
        refine aw_iastj (j := ((16 * a1) + a2).toNatClampNeg) X zs_97 n6 rfl dX7_scratch_87 ?_
        refine aw_iload_n X 0 dX7_scratch_88 rfl ?_
        exact aw_iret X E rfl dX7_scratch_89 h
      · replace h := zifp c4 h
        refine aw_aload_n X 0 dX7_scratch_45 rfl ?_
        refine aw_bipush (v := (-6)) X dX7_scratch_46 (by decide) ?_
        refine aw_callV X (as := [vI (-6)]) mf_X7_no zw_1137 h zs_87 rfl rfl (by decide) (Nat.le_of_ble_eq_true rfl) dX7_scratch_48 (fun v I7 L7 h => ?_)
        obtain ⟨r7, rfl, h⟩ := h
        exact aw_iret X E rfl dX7_scratch_51 h
    · replace h := zifp c2 h
      refine aw_aload_n X 0 dX7_scratch_24 rfl ?_
      refine aw_bipush (v := (-5)) X dX7_scratch_25 (by decide) ?_
      refine aw_callV X (as := [vI (-5)]) mf_X7_no zw_1137 h zs_87 rfl rfl (by decide) (Nat.le_of_ble_eq_true rfl) dX7_scratch_27 (fun v I8 L8 h => ?_)
      obtain ⟨r8, rfl, h⟩ := h
      exact aw_iret X E rfl dX7_scratch_30 h
  · replace h := zifp c1 h
    refine aw_aload_n X 0 dX7_scratch_8 rfl ?_
    refine aw_iconst (v := (-1)) X dX7_scratch_9 (by decide) ?_
    refine aw_callV X (as := [vI (-1)]) mf_X7_no zw_1137 h zs_87 rfl rfl (by decide) (Nat.le_of_ble_eq_true rfl) dX7_scratch_10 (fun v I9 L9 h => ?_)
    obtain ⟨r9, rfl, h⟩ := h
    exact aw_iret X E rfl dX7_scratch_13 h
set_option maxRecDepth 100000 in
theorem m_X7_seed {l : Launch} {g : zG} {Q : Option zv → zI → zL → Prop} {I : zI} {L : zL} {a1 : Int32}  (h : Q (some (vI (I 87 17))) (zs I 87 17 a1) L) : Call l g 1 M_X7_seed [vR 87, vI a1] I L Q := by
  refine aw_entry (by decide) (Nat.le_of_ble_eq_true rfl) (fun k hk (X : zX k g cX7_seed RX7 3 (some .int) 1) E => ?_)
  show AW k g 3 I L 0 [(0, vR 87), (1, vI a1)] []
  subst hk
  refine aw_aload_n X 0 dX7_seed_0 rfl ?_
  refine aw_getI X zf_RX7_78 rfl zs_87 dX7_seed_1 ?_
  refine aw_istore_n X dX7_seed_4 (by decide) rfl ?_
  refine aw_aload_n X 1 dX7_seed_5 rfl ?_
  refine aw_iload_n X 2 dX7_seed_6 rfl ?_
  refine aw_putI X zf_RX7_78 rfl rfl rfl zs_87 dX7_seed_7 ?_
  refine aw_iload_n X 0 dX7_seed_10 rfl ?_
  exact aw_iret X E rfl dX7_seed_11 h
set_option maxRecDepth 100000 in
theorem m_X7_set {l : Launch} {g : zG} {Q : Option zv → zI → zL → Prop} {I : zI} {L : zL} {a1 : Int32} {a2 : Int32} {a3 : Int64}  (h : k_X7_noRow I a1 ∧ (if (v_X7_noRow I a1) < 0 then (Call l g 1 M_X7_no [vR 87, vI (v_X7_noRow I a1)] I L (zi fun r3 I3 L3 => Q (some (vI r3)) I3 L3)) else (vp_in a1 8 ∧ (if (v_X7_within a2 0 ((I 89 a1.toNatClampNeg) - 1)) = 0 then (Call l g 1 M_X7_no [vR 87, vI (-5)] I L (zi fun r12 I12 L12 => Q (some (vI r12)) I12 L12)) else ((∀ u10 : Int64, u10 = (if ((I 88 a1.toNatClampNeg) - 100) = 0 then a3.toInt32.toInt8.toInt32.toInt64 else if ((I 88 a1.toNatClampNeg) - 100) = 1 then a3.toInt32.toInt16.toInt32.toInt64 else if ((I 88 a1.toNatClampNeg) - 100) = 2 then a3.toInt32.toInt64 else a3) → vp_in ((160 * a1) + a2) 1280 ∧ (Q (some (vI 1)) I (zs L 90 (((160 * a1) + a2).toNatClampNeg) u10)))))))) : Call l g 3 M_X7_set [vR 87, vI a1, vI a2, vL a3] I L Q := by
  refine aw_entry (by decide) (Nat.le_of_ble_eq_true rfl) (fun k hk (X : zX k g cX7_set RX7 7 (some .int) 3) E => ?_)
  show AW k g 7 I L 0 [(0, vR 87), (1, vI a1), (2, vI a2), (3, vL a3)] []
  subst hk
  refine aw_aload_n X 0 dX7_set_0 rfl ?_
  refine aw_iload_n X 1 dX7_set_1 rfl ?_
  have n1 := h.1
  replace h := h.2
  refine aw_pV X (as := [vI a1]) mf_X7_noRow zw_1145 (p_X7_noRow n1) zs_87 rfl rfl (by decide) (Nat.le_of_ble_eq_true rfl) dX7_set_2 ?_
  refine aw_istore X dX7_set_5 (by decide) rfl ?_
  refine aw_iload X 0 dX7_set_7 rfl ?_
  refine aw_if_gen X 19 dX7_set_9 rfl (fun c2 => ?_) (fun c2 => ?_)
  · replace h := zifp c2 h
    refine aw_aload_n X 1 dX7_set_12 rfl ?_
    refine aw_iload X 0 dX7_set_13 rfl ?_
    refine aw_callV X (as := [vI (v_X7_noRow I a1)]) mf_X7_no zw_1137 h zs_87 rfl rfl (by decide) (Nat.le_of_ble_eq_true rfl) dX7_set_15 (fun v I3 L3 h => ?_)
    obtain ⟨r3, rfl, h⟩ := h
    exact aw_iret X E rfl dX7_set_18 h
  · replace h := zifn c2 h
    refine aw_iload_n X 3 dX7_set_19 rfl ?_
    refine aw_iconst (v := 0) X dX7_set_20 (by decide) ?_
    refine aw_aload_n X 1 dX7_set_21 rfl ?_
    refine aw_getR X zf_RX7_13 rfl zs_87 zr_87_1 dX7_set_22 ?_
    refine aw_iload_n X 2 dX7_set_25 rfl ?_
    have n4 := h.1
    replace h := h.2
    refine aw_ialdj (j := a1.toNatClampNeg) X zs_89 n4 rfl dX7_set_26 ?_
    refine aw_iconst (v := 1) X dX7_set_27 (by decide) ?_
    refine aw_isub X dX7_set_28 ?_
    refine aw_pS X (as := [vI a2, vI 0, vI ((I 89 a1.toNatClampNeg) - 1)]) mf_X7_within zw_1134 (p_X7_within) rfl rfl (by decide) (Nat.le_of_ble_eq_true rfl) dX7_set_29 ?_
    refine aw_if_ne X 42 dX7_set_32 rfl (fun c5 => ?_) (fun c5 => ?_)
    · replace h := zifn c5 h
      refine aw_aload_n X 1 dX7_set_42 rfl ?_
      refine aw_getR X zf_RX7_7 rfl zs_87 zr_87_0 dX7_set_43 ?_
      refine aw_iload_n X 2 dX7_set_46 rfl ?_
      refine aw_ialdj (j := a1.toNatClampNeg) X zs_88 n4 rfl dX7_set_47 ?_
      refine aw_bipush (v := 100) X dX7_set_48 (by decide) ?_
      refine aw_isub X dX7_set_50 ?_
      refine aw_istore X dX7_set_51 (by decide) rfl ?_
      refine aw_aload_n X 2 dX7_set_53 rfl ?_
      refine aw_getR X zf_RX7_16 rfl zs_87 zr_87_2 dX7_set_54 ?_
      refine aw_sipush (v := 160) X dX7_set_57 (by decide) ?_
      refine aw_iload_n X 3 dX7_set_60 rfl ?_
      refine aw_imul X dX7_set_61 ?_
      refine aw_iload_n X 4 dX7_set_62 rfl ?_
      refine aw_iadd X dX7_set_63 ?_
      refine aw_iload X 0 dX7_set_64 rfl ?_
      have hJ9 : ∀ (u10 : Int64), u10 = (if ((I 88 a1.toNatClampNeg) - 100) = 0 then a3.toInt32.toInt8.toInt32.toInt64 else if ((I 88 a1.toNatClampNeg) - 100) = 1 then a3.toInt32.toInt16.toInt32.toInt64 else if ((I 88 a1.toNatClampNeg) - 100) = 2 then a3.toInt32.toInt64 else a3) → AW k g 7 I L 102 [] [vL u10, vI ((160 * a1) + a2), vR 90] := by
        intro u10 q1
        replace h := h u10 q1
        have n11 := h.1
        replace h := h.2
        refine aw_lastj (j := ((160 * a1) + a2).toNatClampNeg) X zs_90 n11 rfl dX7_set_102 ?_
        refine aw_iconst (v := 1) X dX7_set_103 (by decide) ?_
        exact aw_iret X E rfl dX7_set_104 h
      refine aw_if_ne X 76 dX7_set_66 rfl (fun c6 => ?_) (fun c6 => ?_)
      · refine aw_iload X 0 dX7_set_76 rfl ?_
        refine aw_iconst (v := 1) X dX7_set_78 (by decide) ?_
        refine aw_icmp_ne X 89 dX7_set_79 rfl (fun c7 => ?_) (fun c7 => ?_)
        · refine aw_iload X 0 dX7_set_89 rfl ?_
          refine aw_iconst (v := 2) X dX7_set_91 (by decide) ?_
          refine aw_icmp_ne X 101 dX7_set_92 rfl (fun c8 => ?_) (fun c8 => ?_)
          · refine aw_lload_n X 5 dX7_set_101 rfl ?_
            refine aw_perm (ks9 := []) [] rfl ?_
            exact hJ9 _ (((if_neg c8).symm.trans (if_neg c7).symm).trans (if_neg c6).symm)
          · refine aw_lload_n X 5 dX7_set_95 rfl ?_
            refine aw_l2i X dX7_set_96 ?_
            refine aw_i2l X dX7_set_97 ?_
            refine aw_goto X 102 dX7_set_98 rfl ?_
            refine aw_perm (ks9 := []) [] rfl ?_
            exact hJ9 _ (((if_pos c8).symm.trans (if_neg c7).symm).trans (if_neg c6).symm)
        · refine aw_lload_n X 5 dX7_set_82 rfl ?_
          refine aw_l2i X dX7_set_83 ?_
          refine aw_i2s X dX7_set_84 ?_
          refine aw_i2l X dX7_set_85 ?_
          refine aw_goto X 102 dX7_set_86 rfl ?_
          refine aw_perm (ks9 := []) [] rfl ?_
          exact hJ9 _ ((if_pos c7).symm.trans (if_neg c6).symm)
      · refine aw_lload_n X 5 dX7_set_69 rfl ?_
        refine aw_l2i X dX7_set_70 ?_
        refine aw_i2b X dX7_set_71 ?_
        refine aw_i2l X dX7_set_72 ?_
        refine aw_goto X 102 dX7_set_73 rfl ?_
        refine aw_perm (ks9 := []) [] rfl ?_
        exact hJ9 _ (if_pos c6).symm
    · replace h := zifp c5 h
      refine aw_aload_n X 1 dX7_set_35 rfl ?_
      refine aw_bipush (v := (-5)) X dX7_set_36 (by decide) ?_
      refine aw_callV X (as := [vI (-5)]) mf_X7_no zw_1137 h zs_87 rfl rfl (by decide) (Nat.le_of_ble_eq_true rfl) dX7_set_38 (fun v I12 L12 h => ?_)
      obtain ⟨r12, rfl, h⟩ := h
      exact aw_iret X E rfl dX7_set_41 h
set_option maxRecDepth 100000 in
theorem m_X7_shape {l : Launch} {g : zG} {Q : Option zv → zI → zL → Prop} {I : zI} {L : zL} {a1 : Int32} {a2 : Int32} {a3 : Int32}  (h : if (v_X7_isPane I a1) = 0 then (Call l g 1 M_X7_no [vR 87, vI (-1)] I L (zi fun r2 I2 L2 => Q (some (vI r2)) I2 L2)) else (if (v_X7_isLetterOrNone I a2) = 0 then (Call l g 1 M_X7_no [vR 87, vI (-1)] I L (zi fun r7 I7 L7 => Q (some (vI r7)) I7 L7)) else (if (v_X7_within a3 0 24) = 0 then (Call l g 1 M_X7_no [vR 87, vI (-6)] I L (zi fun r5 I5 L5 => Q (some (vI r5)) I5 L5)) else (Call l g 3 M_X7_shapeAt [vR 87, vI a1, vI a2, vI a3] I L (zi fun r6 I6 L6 => Q (some (vI r6)) I6 L6))))) : Call l g 4 M_X7_shape [vR 87, vI a1, vI a2, vI a3] I L Q := by
  refine aw_entry (by decide) (Nat.le_of_ble_eq_true rfl) (fun k hk (X : zX k g cX7_shape RX7 4 (some .int) 4) E => ?_)
  show AW k g 4 I L 0 [(0, vR 87), (1, vI a1), (2, vI a2), (3, vI a3)] []
  subst hk
  refine aw_aload_n X 0 dX7_shape_0 rfl ?_
  refine aw_iload_n X 1 dX7_shape_1 rfl ?_
  refine aw_pV X (as := [vI a1]) mf_X7_isPane zw_1165 (p_X7_isPane) zs_87 rfl rfl (by decide) (Nat.le_of_ble_eq_true rfl) dX7_shape_2 ?_
  refine aw_if_eq X 16 dX7_shape_5 rfl (fun c1 => ?_) (fun c1 => ?_)
  · replace h := zifp c1 h
    refine aw_aload_n X 0 dX7_shape_16 rfl ?_
    refine aw_iconst (v := (-1)) X dX7_shape_17 (by decide) ?_
    refine aw_callV X (as := [vI (-1)]) mf_X7_no zw_1137 h zs_87 rfl rfl (by decide) (Nat.le_of_ble_eq_true rfl) dX7_shape_18 (fun v I2 L2 h => ?_)
    obtain ⟨r2, rfl, h⟩ := h
    exact aw_iret X E rfl dX7_shape_21 h
  · replace h := zifn c1 h
    refine aw_aload_n X 0 dX7_shape_8 rfl ?_
    refine aw_iload_n X 2 dX7_shape_9 rfl ?_
    refine aw_pV X (as := [vI a2]) mf_X7_isLetterOrNone zw_1282 (p_X7_isLetterOrNone) zs_87 rfl rfl (by decide) (Nat.le_of_ble_eq_true rfl) dX7_shape_10 ?_
    refine aw_if_ne X 22 dX7_shape_13 rfl (fun c3 => ?_) (fun c3 => ?_)
    · replace h := zifn c3 h
      refine aw_iload_n X 3 dX7_shape_22 rfl ?_
      refine aw_iconst (v := 0) X dX7_shape_23 (by decide) ?_
      refine aw_bipush (v := 24) X dX7_shape_24 (by decide) ?_
      refine aw_pS X (as := [vI a3, vI 0, vI 24]) mf_X7_within zw_1134 (p_X7_within) rfl rfl (by decide) (Nat.le_of_ble_eq_true rfl) dX7_shape_26 ?_
      refine aw_if_eq X 42 dX7_shape_29 rfl (fun c4 => ?_) (fun c4 => ?_)
      · replace h := zifp c4 h
        refine aw_aload_n X 0 dX7_shape_42 rfl ?_
        refine aw_bipush (v := (-6)) X dX7_shape_43 (by decide) ?_
        refine aw_callV X (as := [vI (-6)]) mf_X7_no zw_1137 h zs_87 rfl rfl (by decide) (Nat.le_of_ble_eq_true rfl) dX7_shape_45 (fun v I5 L5 h => ?_)
        obtain ⟨r5, rfl, h⟩ := h
        exact aw_iret X E rfl dX7_shape_48 h
      · replace h := zifn c4 h
        refine aw_aload_n X 0 dX7_shape_32 rfl ?_
        refine aw_iload_n X 1 dX7_shape_33 rfl ?_
        refine aw_iload_n X 2 dX7_shape_34 rfl ?_
        refine aw_iload_n X 3 dX7_shape_35 rfl ?_
        refine aw_callV X (as := [vI a1, vI a2, vI a3]) mf_X7_shapeAt zw_1286 h zs_87 rfl rfl (by decide) (Nat.le_of_ble_eq_true rfl) dX7_shape_36 (fun v I6 L6 h => ?_)
        obtain ⟨r6, rfl, h⟩ := h
        refine aw_goto X 48 dX7_shape_39 rfl ?_
        exact aw_iret X E rfl dX7_shape_48 h
    · replace h := zifp c3 h
      refine aw_aload_n X 0 dX7_shape_16 rfl ?_
      refine aw_iconst (v := (-1)) X dX7_shape_17 (by decide) ?_
      refine aw_callV X (as := [vI (-1)]) mf_X7_no zw_1137 h zs_87 rfl rfl (by decide) (Nat.le_of_ble_eq_true rfl) dX7_shape_18 (fun v I7 L7 h => ?_)
      obtain ⟨r7, rfl, h⟩ := h
      exact aw_iret X E rfl dX7_shape_21 h
set_option maxRecDepth 100000 in
theorem m_X7_show {l : Launch} {g : zG} {Q : Option zv → zI → zL → Prop} {I : zI} {L : zL} {a1 : Int32} {a2 : Int32}  (h : if (v_X7_within a1 0 7) = 0 then (Call l g 1 M_X7_no [vR 87, vI (-1)] I L (zi fun r2 I2 L2 => Q (some (vI r2)) I2 L2)) else (if a2 = (-1) then ((∀ I4 : zI, I4 = (zs I 88 a1.toNatClampNeg a2) → Q (some (vI (if a2 = (-1) then 0 else (1 : Int32)))) I4 L)) else (if (v_X7_isPane I a2) = 0 then (Call l g 1 M_X7_no [vR 87, vI (-1)] I L (zi fun r11 I11 L11 => Q (some (vI r11)) I11 L11)) else ((∀ I8 : zI, I8 = (zs I 88 a1.toNatClampNeg a2) → Q (some (vI (if a2 = (-1) then 0 else (1 : Int32)))) I8 L))))) : Call l g 3 M_X7_show [vR 87, vI a1, vI a2] I L Q := by
  refine aw_entry (by decide) (Nat.le_of_ble_eq_true rfl) (fun k hk (X : zX k g cX7_show RX7 3 (some .int) 3) E => ?_)
  show AW k g 3 I L 0 [(0, vR 87), (1, vI a1), (2, vI a2)] []
  subst hk
  refine aw_iload_n X 1 dX7_show_0 rfl ?_
  refine aw_iconst (v := 0) X dX7_show_1 (by decide) ?_
  refine aw_bipush (v := 7) X dX7_show_2 (by decide) ?_
  refine aw_pS X (as := [vI a1, vI 0, vI 7]) mf_X7_within zw_1134 (p_X7_within) rfl rfl (by decide) (Nat.le_of_ble_eq_true rfl) dX7_show_4 ?_
  refine aw_if_eq X 23 dX7_show_7 rfl (fun c1 => ?_) (fun c1 => ?_)
  · replace h := zifp c1 h
    refine aw_aload_n X 0 dX7_show_23 rfl ?_
    refine aw_iconst (v := (-1)) X dX7_show_24 (by decide) ?_
    refine aw_callV X (as := [vI (-1)]) mf_X7_no zw_1137 h zs_87 rfl rfl (by decide) (Nat.le_of_ble_eq_true rfl) dX7_show_25 (fun v I2 L2 h => ?_)
    obtain ⟨r2, rfl, h⟩ := h
    exact aw_iret X E rfl dX7_show_28 h
  · replace h := zifn c1 h
    refine aw_iload_n X 2 dX7_show_10 rfl ?_
    refine aw_iconst (v := (-1)) X dX7_show_11 (by decide) ?_
    refine aw_icmp_eq X 29 dX7_show_12 rfl (fun c3 => ?_) (fun c3 => ?_)
    · replace h := zifp c3 h
      refine aw_aload_n X 0 dX7_show_29 rfl ?_
      refine aw_getR X zf_RX7_7 rfl zs_87 zr_87_0 dX7_show_30 ?_
      refine aw_iload_n X 1 dX7_show_33 rfl ?_
      refine aw_iload_n X 2 dX7_show_34 rfl ?_
      refine aw_iastj (j := a1.toNatClampNeg) X zs_88 (zin_within c1 (by decide)) rfl dX7_show_35 ?_
      refine aw_iload_n X 2 dX7_show_36 rfl ?_
      refine aw_iconst (v := (-1)) X dX7_show_37 (by decide) ?_
      refine aw_nameI (fun I4 e4 => ?_)
      replace h := h I4 e4
      have hJ6 : ∀ (w1 : Int32), w1 = (if a2 = (-1) then 0 else (1 : Int32)) → AW k g 3 I4 L 46 [] [vI w1] := by
        intro w1 q1
        subst q1
        exact aw_iret X E rfl dX7_show_46 h
      refine aw_icmp_ne X 45 dX7_show_38 rfl (fun c5 => ?_) (fun c5 => ?_)
      · refine aw_iconst (v := 1) X dX7_show_45 (by decide) ?_
        refine aw_perm (ks9 := []) [] rfl ?_
        exact hJ6 _ (if_neg c5).symm
      · refine aw_iconst (v := 0) X dX7_show_41 (by decide) ?_
        refine aw_goto X 46 dX7_show_42 rfl ?_
        refine aw_perm (ks9 := []) [] rfl ?_
        exact hJ6 _ (if_pos c5).symm
    · replace h := zifn c3 h
      refine aw_aload_n X 0 dX7_show_15 rfl ?_
      refine aw_iload_n X 2 dX7_show_16 rfl ?_
      refine aw_pV X (as := [vI a2]) mf_X7_isPane zw_1165 (p_X7_isPane) zs_87 rfl rfl (by decide) (Nat.le_of_ble_eq_true rfl) dX7_show_17 ?_
      refine aw_if_ne X 29 dX7_show_20 rfl (fun c7 => ?_) (fun c7 => ?_)
      · replace h := zifn c7 h
        refine aw_aload_n X 0 dX7_show_29 rfl ?_
        refine aw_getR X zf_RX7_7 rfl zs_87 zr_87_0 dX7_show_30 ?_
        refine aw_iload_n X 1 dX7_show_33 rfl ?_
        refine aw_iload_n X 2 dX7_show_34 rfl ?_
        refine aw_iastj (j := a1.toNatClampNeg) X zs_88 (zin_within c1 (by decide)) rfl dX7_show_35 ?_
        refine aw_iload_n X 2 dX7_show_36 rfl ?_
        refine aw_iconst (v := (-1)) X dX7_show_37 (by decide) ?_
        refine aw_nameI (fun I8 e8 => ?_)
        replace h := h I8 e8
        have hJ10 : ∀ (w1 : Int32), w1 = (if a2 = (-1) then 0 else (1 : Int32)) → AW k g 3 I8 L 46 [] [vI w1] := by
          intro w1 q1
          subst q1
          exact aw_iret X E rfl dX7_show_46 h
        refine aw_icmp_ne X 45 dX7_show_38 rfl (fun c9 => ?_) (fun c9 => ?_)
        · refine aw_iconst (v := 1) X dX7_show_45 (by decide) ?_
          refine aw_perm (ks9 := []) [] rfl ?_
          exact hJ10 _ (if_neg c9).symm
        · refine aw_iconst (v := 0) X dX7_show_41 (by decide) ?_
          refine aw_goto X 46 dX7_show_42 rfl ?_
          refine aw_perm (ks9 := []) [] rfl ?_
          exact hJ10 _ (if_pos c9).symm
      · replace h := zifp c7 h
        refine aw_aload_n X 0 dX7_show_23 rfl ?_
        refine aw_iconst (v := (-1)) X dX7_show_24 (by decide) ?_
        refine aw_callV X (as := [vI (-1)]) mf_X7_no zw_1137 h zs_87 rfl rfl (by decide) (Nat.le_of_ble_eq_true rfl) dX7_show_25 (fun v I11 L11 h => ?_)
        obtain ⟨r11, rfl, h⟩ := h
        exact aw_iret X E rfl dX7_show_28 h
set_option maxRecDepth 100000 in
theorem m_X7_status {l : Launch} {g : zG} {Q : Option zv → zI → zL → Prop} {I : zI} {L : zL} {a1 : Int32}  (h : if a1 = 0 then (Q (some (vI (I 87 3))) I L) else if a1 = 1 then (Q (some (vI (I 87 5))) I L) else if a1 = 2 then (Q (some (vI (I 87 12))) I L) else if a1 = 3 then (Q (some (vI (I 87 13))) I L) else if a1 = 4 then (Q (some (vI (I 87 14))) I L) else if a1 = 5 then (Q (some (vI (I 87 15))) I L) else if a1 = 6 then (Q (some (vI (I 87 16))) I L) else if a1 = 7 then (Q (some (vI (I 87 17))) I L) else if a1 = 8 then (Q (some (vI (I 87 20))) I L) else ((¬ ((v_X7_within a1 11 17) = 0) → vp_in (a1 - 10) 8) ∧ ((∀ u27 : Int32, u27 = (if (v_X7_within a1 11 17) = 0 then (-1) else (I 98 ((a1 - 10).toNatClampNeg))) → Q (some (vI u27)) I L)))) : Call l g 2 M_X7_status [vR 87, vI a1] I L Q := by
  refine aw_entry (by decide) (Nat.le_of_ble_eq_true rfl) (fun k hk (X : zX k g cX7_status RX7 2 (some .int) 2) E => ?_)
  show AW k g 2 I L 0 [(0, vR 87), (1, vI a1)] []
  subst hk
  refine aw_iload_n X 1 dX7_status_0 rfl ?_
  by_cases c14 : a1 = 0
  · replace h := zifp c14 h
    refine aw_tableIn X 0 52 dX7_status_1 (by rw [c14]; rfl) (by decide) rfl rfl ?_
    refine aw_aload_n X 0 dX7_status_52 rfl ?_
    refine aw_getI X zf_RX7_91 rfl zs_87 dX7_status_53 ?_
    exact aw_iret X E rfl dX7_status_56 h
  replace h := zifn c14 h
  by_cases c15 : a1 = 1
  · replace h := zifp c15 h
    refine aw_tableIn X 1 57 dX7_status_1 (by rw [c15]; rfl) (by decide) rfl rfl ?_
    refine aw_aload_n X 0 dX7_status_57 rfl ?_
    refine aw_getI X zf_RX7_84 rfl zs_87 dX7_status_58 ?_
    exact aw_iret X E rfl dX7_status_61 h
  replace h := zifn c15 h
  by_cases c16 : a1 = 2
  · replace h := zifp c16 h
    refine aw_tableIn X 2 62 dX7_status_1 (by rw [c16]; rfl) (by decide) rfl rfl ?_
    refine aw_aload_n X 0 dX7_status_62 rfl ?_
    refine aw_getI X zf_RX7_65 rfl zs_87 dX7_status_63 ?_
    exact aw_iret X E rfl dX7_status_66 h
  replace h := zifn c16 h
  by_cases c17 : a1 = 3
  · replace h := zifp c17 h
    refine aw_tableIn X 3 67 dX7_status_1 (by rw [c17]; rfl) (by decide) rfl rfl ?_
    refine aw_aload_n X 0 dX7_status_67 rfl ?_
    refine aw_getI X zf_RX7_69 rfl zs_87 dX7_status_68 ?_
    exact aw_iret X E rfl dX7_status_71 h
  replace h := zifn c17 h
  by_cases c18 : a1 = 4
  · replace h := zifp c18 h
    refine aw_tableIn X 4 72 dX7_status_1 (by rw [c18]; rfl) (by decide) rfl rfl ?_
    refine aw_aload_n X 0 dX7_status_72 rfl ?_
    refine aw_getI X zf_RX7_72 rfl zs_87 dX7_status_73 ?_
    exact aw_iret X E rfl dX7_status_76 h
  replace h := zifn c18 h
  by_cases c19 : a1 = 5
  · replace h := zifp c19 h
    refine aw_tableIn X 5 77 dX7_status_1 (by rw [c19]; rfl) (by decide) rfl rfl ?_
    refine aw_aload_n X 0 dX7_status_77 rfl ?_
    refine aw_getI X zf_RX7_75 rfl zs_87 dX7_status_78 ?_
    exact aw_iret X E rfl dX7_status_81 h
  replace h := zifn c19 h
  by_cases c20 : a1 = 6
  · replace h := zifp c20 h
    refine aw_tableIn X 6 82 dX7_status_1 (by rw [c20]; rfl) (by decide) rfl rfl ?_
    refine aw_aload_n X 0 dX7_status_82 rfl ?_
    refine aw_getI X zf_RX7_215 rfl zs_87 dX7_status_83 ?_
    exact aw_iret X E rfl dX7_status_86 h
  replace h := zifn c20 h
  by_cases c21 : a1 = 7
  · replace h := zifp c21 h
    refine aw_tableIn X 7 87 dX7_status_1 (by rw [c21]; rfl) (by decide) rfl rfl ?_
    refine aw_aload_n X 0 dX7_status_87 rfl ?_
    refine aw_getI X zf_RX7_78 rfl zs_87 dX7_status_88 ?_
    exact aw_iret X E rfl dX7_status_91 h
  replace h := zifn c21 h
  by_cases c22 : a1 = 8
  · replace h := zifp c22 h
    refine aw_tableIn X 8 92 dX7_status_1 (by rw [c22]; rfl) (by decide) rfl rfl ?_
    refine aw_aload_n X 0 dX7_status_92 rfl ?_
    refine aw_getI X zf_RX7_232 rfl zs_87 dX7_status_93 ?_
    exact aw_iret X E rfl dX7_status_96 h
  replace h := zifn c22 h
  have e0 := ztn (n := 0) rfl c14
  have e1 := ztn (n := 1) rfl c15
  have e2 := ztn (n := 2) rfl c16
  have e3 := ztn (n := 3) rfl c17
  have e4 := ztn (n := 4) rfl c18
  have e5 := ztn (n := 5) rfl c19
  have e6 := ztn (n := 6) rfl c20
  have e7 := ztn (n := 7) rfl c21
  have e8 := ztn (n := 8) rfl c22
  refine aw_tableOut X 97 dX7_status_1 (by omega) rfl ?_
  refine aw_iload_n X 1 dX7_status_97 rfl ?_
  refine aw_bipush (v := 11) X dX7_status_98 (by decide) ?_
  refine aw_bipush (v := 17) X dX7_status_100 (by decide) ?_
  refine aw_pS X (as := [vI a1, vI 11, vI 17]) mf_X7_within zw_1134 (p_X7_within) rfl rfl (by decide) (Nat.le_of_ble_eq_true rfl) dX7_status_102 ?_
  have n25 := h.1
  replace h := h.2
  have hJ26 : ∀ (u27 : Int32), u27 = (if (v_X7_within a1 11 17) = 0 then (-1) else (I 98 ((a1 - 10).toNatClampNeg))) → AW k g 2 I L 121 [] [vI u27] := by
    intro u27 q1
    replace h := h u27 q1
    exact aw_iret X E rfl dX7_status_121 h
  refine aw_if_eq X 120 dX7_status_105 rfl (fun c23 => ?_) (fun c23 => ?_)
  · refine aw_iconst (v := (-1)) X dX7_status_120 (by decide) ?_
    refine aw_perm (ks9 := []) [] rfl ?_
    exact hJ26 _ (if_pos c23).symm
  · have n24 := (n25 c23)
    refine aw_aload_n X 0 dX7_status_108 rfl ?_
    refine aw_getR X zf_RX7_41 rfl zs_87 zr_87_19 dX7_status_109 ?_
    refine aw_iload_n X 1 dX7_status_112 rfl ?_
    refine aw_bipush (v := 10) X dX7_status_113 (by decide) ?_
    refine aw_isub X dX7_status_115 ?_
    refine aw_ialdj (j := (a1 - 10).toNatClampNeg) X zs_98 n24 rfl dX7_status_116 ?_
    refine aw_goto X 121 dX7_status_117 rfl ?_
    refine aw_perm (ks9 := []) [] rfl ?_
    exact hJ26 _ (if_neg c23).symm
set_option maxRecDepth 100000 in
theorem s_X7_stove_54 {k : zK} {g : zG} {Q : Option zv → zI → zL → Prop} {I : zI} {L : zL} {y1 : Int32} {y2 : Int32} {y3 : Int32} {y4 : Int32} {y5 : Int32} {y6 : Int32}  (X : zX k g cX7_stove RX7 7 (some .int) 5) (E : zE k g Q) (h : if y6 < 0 then (vp_in y1 8 ∧ (Q (some (vI y5)) (zs I 93 y1.toNatClampNeg y4) L)) else (if y5 < 0 then (vp_in y1 8 ∧ ((∀ I5 : zI, I5 = (zs I 93 y1.toNatClampNeg y6) → Call (kl k) g 4 M_X7_readAt [vR 87, vI y1, vI y2, vI y3] I5 L (zi fun r6 I6 L6 => AW k g 7 I6 L6 54 [(0, vR 87), (1, vI y1), (2, vI y2), (3, vI y3), (4, vI y4), (5, vI (if r6 = y2 then y6 else y5)), (6, vI (y6 + (-1)))] [])))) else (vp_in y1 8 ∧ (Q (some (vI y5)) (zs I 93 y1.toNatClampNeg y4) L)))) : AW k g 7 I L 54 [(0, vR 87), (1, vI y1), (2, vI y2), (3, vI y3), (4, vI y4), (5, vI y5), (6, vI y6)] [] := by
  refine aw_iload X 6 dX7_stove_54 rfl ?_
  refine aw_if_lt X 93 dX7_stove_56 rfl (fun c1 => ?_) (fun c1 => ?_)
  · replace h := zifp c1 h
    refine aw_aload_n X 0 dX7_stove_93 rfl ?_
    refine aw_getR X zf_RX7_26 rfl zs_87 zr_87_7 dX7_stove_94 ?_
    refine aw_iload_n X 1 dX7_stove_97 rfl ?_
    refine aw_iload X 4 dX7_stove_98 rfl ?_
    have n2 := h.1
    replace h := h.2
    refine aw_iastj (j := y1.toNatClampNeg) X zs_93 n2 rfl dX7_stove_100 ?_
    refine aw_iload X 5 dX7_stove_101 rfl ?_
    exact aw_iret X E rfl dX7_stove_103 h
  · replace h := zifn c1 h
    refine aw_iload X 5 dX7_stove_59 rfl ?_
    refine aw_if_gen X 93 dX7_stove_61 rfl (fun c3 => ?_) (fun c3 => ?_)
    · replace h := zifp c3 h
      refine aw_aload_n X 0 dX7_stove_64 rfl ?_
      refine aw_getR X zf_RX7_26 rfl zs_87 zr_87_7 dX7_stove_65 ?_
      refine aw_iload_n X 1 dX7_stove_68 rfl ?_
      refine aw_iload X 6 dX7_stove_69 rfl ?_
      have n4 := h.1
      replace h := h.2
      refine aw_iastj (j := y1.toNatClampNeg) X zs_93 n4 rfl dX7_stove_71 ?_
      refine aw_aload_n X 0 dX7_stove_72 rfl ?_
      refine aw_iload_n X 1 dX7_stove_73 rfl ?_
      refine aw_iload_n X 2 dX7_stove_74 rfl ?_
      refine aw_iload_n X 3 dX7_stove_75 rfl ?_
      refine aw_nameI (fun I5 e5 => ?_)
      replace h := h I5 e5
      refine aw_callV X (as := [vI y1, vI y2, vI y3]) mf_X7_readAt zw_1324 h zs_87 rfl rfl (by decide) (Nat.le_of_ble_eq_true rfl) dX7_stove_76 (fun v I6 L6 h => ?_)
      obtain ⟨r6, rfl, h⟩ := h
      refine aw_iload_n X 2 dX7_stove_79 rfl ?_
      have hJ8 : ∀ (w1 : Int32), w1 = (if r6 = y2 then y6 else y5) → AW k g 7 I6 L6 87 [(0, vR 87), (1, vI y1), (2, vI y2), (3, vI y3), (4, vI y4), (5, vI w1), (6, vI y6)] [] := by
        intro w1 q1
        subst q1
        refine aw_iinc (v := y6 + (-1)) X 6 dX7_stove_87 rfl rfl (by decide) rfl ?_
        refine aw_goto X 54 dX7_stove_90 rfl ?_
        refine aw_perm (ks9 := [(0, vR 87), (1, vI y1), (2, vI y2), (3, vI y3), (4, vI y4), (5, vI (if r6 = y2 then y6 else y5)), (6, vI (y6 + (-1)))]) [1, 2, 3, 4, 5, 6, 0] rfl ?_
        exact h
      refine aw_icmp_ne X 87 dX7_stove_80 rfl (fun c7 => ?_) (fun c7 => ?_)
      · refine aw_perm (ks9 := [(0, vR 87), (1, vI y1), (2, vI y2), (3, vI y3), (4, vI y4), (5, vI y5), (6, vI y6)]) [0, 1, 2, 3, 4, 5, 6] rfl ?_
        exact hJ8 _ (if_neg c7).symm
      · refine aw_iload X 6 dX7_stove_83 rfl ?_
        refine aw_istore X dX7_stove_85 (by decide) rfl ?_
        refine aw_perm (ks9 := [(0, vR 87), (1, vI y1), (2, vI y2), (3, vI y3), (4, vI y4), (5, vI y6), (6, vI y6)]) [1, 2, 3, 4, 5, 0, 6] rfl ?_
        exact hJ8 _ (if_pos c7).symm
    · replace h := zifn c3 h
      refine aw_aload_n X 0 dX7_stove_93 rfl ?_
      refine aw_getR X zf_RX7_26 rfl zs_87 zr_87_7 dX7_stove_94 ?_
      refine aw_iload_n X 1 dX7_stove_97 rfl ?_
      refine aw_iload X 4 dX7_stove_98 rfl ?_
      have n9 := h.1
      replace h := h.2
      refine aw_iastj (j := y1.toNatClampNeg) X zs_93 n9 rfl dX7_stove_100 ?_
      refine aw_iload X 5 dX7_stove_101 rfl ?_
      exact aw_iret X E rfl dX7_stove_103 h
set_option maxRecDepth 100000 in
theorem m_X7_stove {l : Launch} {g : zG} {Q : Option zv → zI → zL → Prop} {I : zI} {L : zL} {a1 : Int32} {a2 : Int32} {a3 : Int32}  (h : ∀ k : zK, kl k = l → zX k g cX7_stove RX7 7 (some .int) 5 → zE k g Q → (if (v_X7_isPane I a1) = 0 then (Call (kl k) g 1 M_X7_no10 [vR 87, vI (-1)] I L (zi fun r2 I2 L2 => Q (some (vI r2)) I2 L2)) else (if (v_X7_isLetter I a2) = 0 then (Call (kl k) g 1 M_X7_no10 [vR 87, vI (-1)] I L (zi fun r7 I7 L7 => Q (some (vI r7)) I7 L7)) else (if (v_X7_within a3 0 24) = 0 then (Call (kl k) g 1 M_X7_no10 [vR 87, vI (-6)] I L (zi fun r6 I6 L6 => Q (some (vI r6)) I6 L6)) else (vp_in a1 8 ∧ (AW k g 7 I L 54 [(0, vR 87), (1, vI a1), (2, vI a2), (3, vI a3), (4, vI (I 93 a1.toNatClampNeg)), (5, vI (-1)), (6, vI 9)] [])))))) : Call l g 5 M_X7_stove [vR 87, vI a1, vI a2, vI a3] I L Q := by
  refine aw_entry (by decide) (Nat.le_of_ble_eq_true rfl) (fun k hk (X : zX k g cX7_stove RX7 7 (some .int) 5) E => ?_)
  show AW k g 7 I L 0 [(0, vR 87), (1, vI a1), (2, vI a2), (3, vI a3)] []
  replace h := h k hk X E
  subst hk
  refine aw_aload_n X 0 dX7_stove_0 rfl ?_
  refine aw_iload_n X 1 dX7_stove_1 rfl ?_
  refine aw_pV X (as := [vI a1]) mf_X7_isPane zw_1165 (p_X7_isPane) zs_87 rfl rfl (by decide) (Nat.le_of_ble_eq_true rfl) dX7_stove_2 ?_
  refine aw_if_eq X 16 dX7_stove_5 rfl (fun c1 => ?_) (fun c1 => ?_)
  · replace h := zifp c1 h
    refine aw_aload_n X 0 dX7_stove_16 rfl ?_
    refine aw_iconst (v := (-1)) X dX7_stove_17 (by decide) ?_
    refine aw_callV X (as := [vI (-1)]) mf_X7_no10 zw_1221 h zs_87 rfl rfl (by decide) (Nat.le_of_ble_eq_true rfl) dX7_stove_18 (fun v I2 L2 h => ?_)
    obtain ⟨r2, rfl, h⟩ := h
    exact aw_iret X E rfl dX7_stove_21 h
  · replace h := zifn c1 h
    refine aw_aload_n X 0 dX7_stove_8 rfl ?_
    refine aw_iload_n X 2 dX7_stove_9 rfl ?_
    refine aw_pV X (as := [vI a2]) mf_X7_isLetter zw_1201 (p_X7_isLetter) zs_87 rfl rfl (by decide) (Nat.le_of_ble_eq_true rfl) dX7_stove_10 ?_
    refine aw_if_ne X 22 dX7_stove_13 rfl (fun c3 => ?_) (fun c3 => ?_)
    · replace h := zifn c3 h
      refine aw_iload_n X 3 dX7_stove_22 rfl ?_
      refine aw_iconst (v := 0) X dX7_stove_23 (by decide) ?_
      refine aw_bipush (v := 24) X dX7_stove_24 (by decide) ?_
      refine aw_pS X (as := [vI a3, vI 0, vI 24]) mf_X7_within zw_1134 (p_X7_within) rfl rfl (by decide) (Nat.le_of_ble_eq_true rfl) dX7_stove_26 ?_
      refine aw_if_ne X 39 dX7_stove_29 rfl (fun c4 => ?_) (fun c4 => ?_)
      · replace h := zifn c4 h
        refine aw_aload_n X 0 dX7_stove_39 rfl ?_
        refine aw_getR X zf_RX7_26 rfl zs_87 zr_87_7 dX7_stove_40 ?_
        refine aw_iload_n X 1 dX7_stove_43 rfl ?_
        have n5 := h.1
        replace h := h.2
        refine aw_ialdj (j := a1.toNatClampNeg) X zs_93 n5 rfl dX7_stove_44 ?_
        refine aw_istore X dX7_stove_45 (by decide) rfl ?_
        refine aw_iconst (v := (-1)) X dX7_stove_47 (by decide) ?_
        refine aw_istore X dX7_stove_48 (by decide) rfl ?_
        refine aw_bipush (v := 9) X dX7_stove_50 (by decide) ?_
        refine aw_istore X dX7_stove_52 (by decide) rfl ?_
        refine aw_perm (ks9 := [(0, vR 87), (1, vI a1), (2, vI a2), (3, vI a3), (4, vI (I 93 a1.toNatClampNeg)), (5, vI (-1)), (6, vI 9)]) [3, 4, 5, 6, 2, 1, 0] rfl ?_
        exact h
      · replace h := zifp c4 h
        refine aw_aload_n X 0 dX7_stove_32 rfl ?_
        refine aw_bipush (v := (-6)) X dX7_stove_33 (by decide) ?_
        refine aw_callV X (as := [vI (-6)]) mf_X7_no10 zw_1221 h zs_87 rfl rfl (by decide) (Nat.le_of_ble_eq_true rfl) dX7_stove_35 (fun v I6 L6 h => ?_)
        obtain ⟨r6, rfl, h⟩ := h
        exact aw_iret X E rfl dX7_stove_38 h
    · replace h := zifp c3 h
      refine aw_aload_n X 0 dX7_stove_16 rfl ?_
      refine aw_iconst (v := (-1)) X dX7_stove_17 (by decide) ?_
      refine aw_callV X (as := [vI (-1)]) mf_X7_no10 zw_1221 h zs_87 rfl rfl (by decide) (Nat.le_of_ble_eq_true rfl) dX7_stove_18 (fun v I7 L7 h => ?_)
      obtain ⟨r7, rfl, h⟩ := h
      exact aw_iret X E rfl dX7_stove_21 h
def v_X7_trace (I : zI) (a1 : Int32) : Int32 := if a1 < 0 then (-1) else if a1 < (I 87 20) then if a1 < 20 then I 99 a1.toNatClampNeg else ((-1) : Int32) else ((-1) : Int32)
set_option maxRecDepth 100000 in
theorem p_X7_trace {l : Launch} {g : zG} {I : zI} {L : zL} {a1 : Int32}  : Call l g 1 M_X7_trace [vR 87, vI a1] I L (zp (some (vI (v_X7_trace I a1))) I L) := by
  refine aw_entry (by decide) (Nat.le_of_ble_eq_true rfl) (fun k hk (X : zX k g cX7_trace RX7 2 (some .int) 1) E => ?_)
  show AW k g 2 I L 0 [(0, vR 87), (1, vI a1)] []
  subst hk
  have hJ : ∀ w1 : Int32, w1 = (if a1 < 0 then (-1) else if a1 < (I 87 20) then if a1 < 20 then I 99 a1.toNatClampNeg else ((-1) : Int32) else ((-1) : Int32)) → zp (some (vI (v_X7_trace I a1))) I L (some (vI w1)) I L := fun w1 e1 => ⟨by rw [e1]; rfl, rfl, rfl⟩
  refine aw_iload_n X 1 dX7_trace_0 rfl ?_
  have hJ4 : ∀ (w1 : Int32), w1 = (if a1 < 0 then (-1) else if a1 < (I 87 20) then if a1 < 20 then I 99 a1.toNatClampNeg else ((-1) : Int32) else ((-1) : Int32)) → AW k g 2 I L 28 [] [vI w1] := by
    intro w1 q1
    subst q1
    exact aw_iret X E rfl dX7_trace_28 (hJ _ rfl)
  refine aw_if_lt X 27 dX7_trace_1 rfl (fun c1 => ?_) (fun c1 => ?_)
  · refine aw_iconst (v := (-1)) X dX7_trace_27 (by decide) ?_
    refine aw_perm (ks9 := []) [] rfl ?_
    exact hJ4 _ (if_pos c1).symm
  · refine aw_iload_n X 1 dX7_trace_4 rfl ?_
    refine aw_aload_n X 0 dX7_trace_5 rfl ?_
    refine aw_getI X zf_RX7_232 rfl zs_87 dX7_trace_6 ?_
    refine aw_icmp_gen X 27 dX7_trace_9 rfl (fun c2 => ?_) (fun c2 => ?_)
    · refine aw_iload_n X 1 dX7_trace_12 rfl ?_
      refine aw_bipush (v := 20) X dX7_trace_13 (by decide) ?_
      refine aw_icmp_gen X 27 dX7_trace_15 rfl (fun c3 => ?_) (fun c3 => ?_)
      · refine aw_aload_n X 0 dX7_trace_18 rfl ?_
        refine aw_getR X zf_RX7_44 rfl zs_87 zr_87_21 dX7_trace_19 ?_
        refine aw_iload_n X 1 dX7_trace_22 rfl ?_
        refine aw_ialdj (j := a1.toNatClampNeg) X zs_99 (zinof c1 c3 (by decide)) rfl dX7_trace_23 ?_
        refine aw_goto X 28 dX7_trace_24 rfl ?_
        refine aw_perm (ks9 := []) [] rfl ?_
        exact hJ4 _ (((if_pos c3).symm.trans (if_pos c2).symm).trans (if_neg c1).symm)
      · refine aw_iconst (v := (-1)) X dX7_trace_27 (by decide) ?_
        refine aw_perm (ks9 := []) [] rfl ?_
        exact hJ4 _ (((if_neg c3).symm.trans (if_pos c2).symm).trans (if_neg c1).symm)
    · refine aw_iconst (v := (-1)) X dX7_trace_27 (by decide) ?_
      refine aw_perm (ks9 := []) [] rfl ?_
      exact hJ4 _ ((if_neg c2).symm.trans (if_neg c1).symm)
set_option maxRecDepth 100000 in
theorem m_X7_truth {l : Launch} {g : zG} {Q : Option zv → zI → zL → Prop} {I : zI} {L : zL} {a1 : Int32} {a2 : Int32}  (h : if (v_X7_isPane I a1) = 0 then (Call l g 1 M_X7_no [vR 87, vI (-1)] I L (zi fun r9 I9 L9 => Q (some (vI r9)) I9 L9)) else (if (v_X7_within a2 0 16) = 0 then (Call l g 1 M_X7_no [vR 87, vI (-5)] I L (zi fun r8 I8 L8 => Q (some (vI r8)) I8 L8)) else (Call l g 1 M_X7_load [vR 87, vI a1] I L (zn fun I3 L3 => (a2 < 16 → vp_in a2 16) ∧ (Q (some (vI (if a2 < 16 then I3 101 a2.toNatClampNeg else (v_X7_shapeNow I3)))) I3 L3))))) : Call l g 3 M_X7_truth [vR 87, vI a1, vI a2] I L Q := by
  refine aw_entry (by decide) (Nat.le_of_ble_eq_true rfl) (fun k hk (X : zX k g cX7_truth RX7 3 (some .int) 3) E => ?_)
  show AW k g 3 I L 0 [(0, vR 87), (1, vI a1), (2, vI a2)] []
  subst hk
  refine aw_aload_n X 0 dX7_truth_0 rfl ?_
  refine aw_iload_n X 1 dX7_truth_1 rfl ?_
  refine aw_pV X (as := [vI a1]) mf_X7_isPane zw_1165 (p_X7_isPane) zs_87 rfl rfl (by decide) (Nat.le_of_ble_eq_true rfl) dX7_truth_2 ?_
  refine aw_if_ne X 14 dX7_truth_5 rfl (fun c1 => ?_) (fun c1 => ?_)
  · replace h := zifn c1 h
    refine aw_iload_n X 2 dX7_truth_14 rfl ?_
    refine aw_iconst (v := 0) X dX7_truth_15 (by decide) ?_
    refine aw_bipush (v := 16) X dX7_truth_16 (by decide) ?_
    refine aw_pS X (as := [vI a2, vI 0, vI 16]) mf_X7_within zw_1134 (p_X7_within) rfl rfl (by decide) (Nat.le_of_ble_eq_true rfl) dX7_truth_18 ?_
    refine aw_if_ne X 31 dX7_truth_21 rfl (fun c2 => ?_) (fun c2 => ?_)
    · replace h := zifn c2 h
      refine aw_aload_n X 0 dX7_truth_31 rfl ?_
      refine aw_iload_n X 1 dX7_truth_32 rfl ?_
      refine aw_callV X (as := [vI a1]) mf_X7_load zw_1388 h zs_87 rfl rfl (by decide) (Nat.le_of_ble_eq_true rfl) dX7_truth_33 (fun v I3 L3 h => ?_)
      obtain ⟨rfl, h⟩ := h
      refine aw_iload_n X 2 dX7_truth_36 rfl ?_
      refine aw_bipush (v := 16) X dX7_truth_37 (by decide) ?_
      have n6 := h.1
      replace h := h.2
      have hJ7 : ∀ (w1 : Int32), w1 = (if a2 < 16 then I3 101 a2.toNatClampNeg else (v_X7_shapeNow I3)) → AW k g 3 I3 L3 55 [] [vI w1] := by
        intro w1 q1
        subst q1
        exact aw_iret X E rfl dX7_truth_55 h
      refine aw_icmp_gen X 51 dX7_truth_39 rfl (fun c4 => ?_) (fun c4 => ?_)
      · have n5 := (n6 c4)
        refine aw_aload_n X 0 dX7_truth_42 rfl ?_
        refine aw_getR X zf_RX7_50 rfl zs_87 zr_87_24 dX7_truth_43 ?_
        refine aw_iload_n X 2 dX7_truth_46 rfl ?_
        refine aw_ialdj (j := a2.toNatClampNeg) X zs_101 n5 rfl dX7_truth_47 ?_
        refine aw_goto X 55 dX7_truth_48 rfl ?_
        refine aw_perm (ks9 := []) [] rfl ?_
        exact hJ7 _ (if_pos c4).symm
      · refine aw_aload_n X 0 dX7_truth_51 rfl ?_
        refine aw_pV X (as := []) mf_X7_shapeNow zw_1303 (p_X7_shapeNow) zs_87 rfl rfl (by decide) (Nat.le_of_ble_eq_true rfl) dX7_truth_52 ?_
        refine aw_perm (ks9 := []) [] rfl ?_
        exact hJ7 _ (if_neg c4).symm
    · replace h := zifp c2 h
      refine aw_aload_n X 0 dX7_truth_24 rfl ?_
      refine aw_bipush (v := (-5)) X dX7_truth_25 (by decide) ?_
      refine aw_callV X (as := [vI (-5)]) mf_X7_no zw_1137 h zs_87 rfl rfl (by decide) (Nat.le_of_ble_eq_true rfl) dX7_truth_27 (fun v I8 L8 h => ?_)
      obtain ⟨r8, rfl, h⟩ := h
      exact aw_iret X E rfl dX7_truth_30 h
  · replace h := zifp c1 h
    refine aw_aload_n X 0 dX7_truth_8 rfl ?_
    refine aw_iconst (v := (-1)) X dX7_truth_9 (by decide) ?_
    refine aw_callV X (as := [vI (-1)]) mf_X7_no zw_1137 h zs_87 rfl rfl (by decide) (Nat.le_of_ble_eq_true rfl) dX7_truth_10 (fun v I9 L9 h => ?_)
    obtain ⟨r9, rfl, h⟩ := h
    exact aw_iret X E rfl dX7_truth_13 h
set_option maxRecDepth 100000 in
theorem s_X7_turns_33 {k : zK} {g : zG} {Q : Option zv → zI → zL → Prop} {I : zI} {L : zL} {y1 : Int32} {y2 : Int32} {y3 : Int32} {y4 : Int32}  (X : zX k g cX7_turns RX7 5 (some .int) 5) (E : zE k g Q) (h : if y4 < 25 then (Call (kl k) g 4 M_X7_readAt [vR 87, vI y1, vI y2, vI y4] I L (zi fun r2 I2 L2 => if r2 = y3 then (Q (some (vI y4)) I2 L2) else (AW k g 5 I2 L2 33 [(0, vR 87), (1, vI y1), (2, vI y2), (3, vI y3), (4, vI (y4 + 1))] []))) else (Q (some (vI (-1))) I L)) : AW k g 5 I L 33 [(0, vR 87), (1, vI y1), (2, vI y2), (3, vI y3), (4, vI y4)] [] := by
  refine aw_iload X 4 dX7_turns_33 rfl ?_
  refine aw_bipush (v := 25) X dX7_turns_35 (by decide) ?_
  refine aw_icmp_gen X 61 dX7_turns_37 rfl (fun c1 => ?_) (fun c1 => ?_)
  · replace h := zifp c1 h
    refine aw_aload_n X 0 dX7_turns_40 rfl ?_
    refine aw_iload_n X 1 dX7_turns_41 rfl ?_
    refine aw_iload_n X 2 dX7_turns_42 rfl ?_
    refine aw_iload X 4 dX7_turns_43 rfl ?_
    refine aw_callV X (as := [vI y1, vI y2, vI y4]) mf_X7_readAt zw_1324 h zs_87 rfl rfl (by decide) (Nat.le_of_ble_eq_true rfl) dX7_turns_45 (fun v I2 L2 h => ?_)
    obtain ⟨r2, rfl, h⟩ := h
    refine aw_iload_n X 3 dX7_turns_48 rfl ?_
    refine aw_icmp_ne X 55 dX7_turns_49 rfl (fun c3 => ?_) (fun c3 => ?_)
    · replace h := zifn c3 h
      refine aw_iinc (v := y4 + 1) X 4 dX7_turns_55 rfl rfl (by decide) rfl ?_
      refine aw_goto X 33 dX7_turns_58 rfl ?_
      refine aw_perm (ks9 := [(0, vR 87), (1, vI y1), (2, vI y2), (3, vI y3), (4, vI (y4 + 1))]) [1, 2, 3, 4, 0] rfl ?_
      exact h
    · replace h := zifp c3 h
      refine aw_iload X 4 dX7_turns_52 rfl ?_
      exact aw_iret X E rfl dX7_turns_54 h
  · replace h := zifn c1 h
    refine aw_iconst (v := (-1)) X dX7_turns_61 (by decide) ?_
    exact aw_iret X E rfl dX7_turns_62 h
set_option maxRecDepth 100000 in
theorem m_X7_turns {l : Launch} {g : zG} {Q : Option zv → zI → zL → Prop} {I : zI} {L : zL} {a1 : Int32} {a2 : Int32} {a3 : Int32}  (h : ∀ k : zK, kl k = l → zX k g cX7_turns RX7 5 (some .int) 5 → zE k g Q → (if (v_X7_isPane I a1) = 0 then (Call (kl k) g 1 M_X7_no10 [vR 87, vI (-1)] I L (zi fun r2 I2 L2 => Q (some (vI r2)) I2 L2)) else (if (v_X7_isLetter I a2) = 0 then (Call (kl k) g 1 M_X7_no10 [vR 87, vI (-1)] I L (zi fun r4 I4 L4 => Q (some (vI r4)) I4 L4)) else (if (v_X7_isLetter I a3) = 0 then (Call (kl k) g 1 M_X7_no10 [vR 87, vI (-1)] I L (zi fun r6 I6 L6 => Q (some (vI r6)) I6 L6)) else (AW k g 5 I L 33 [(0, vR 87), (1, vI a1), (2, vI a2), (3, vI a3), (4, vI 0)] []))))) : Call l g 5 M_X7_turns [vR 87, vI a1, vI a2, vI a3] I L Q := by
  refine aw_entry (by decide) (Nat.le_of_ble_eq_true rfl) (fun k hk (X : zX k g cX7_turns RX7 5 (some .int) 5) E => ?_)
  show AW k g 5 I L 0 [(0, vR 87), (1, vI a1), (2, vI a2), (3, vI a3)] []
  replace h := h k hk X E
  subst hk
  refine aw_aload_n X 0 dX7_turns_0 rfl ?_
  refine aw_iload_n X 1 dX7_turns_1 rfl ?_
  refine aw_pV X (as := [vI a1]) mf_X7_isPane zw_1165 (p_X7_isPane) zs_87 rfl rfl (by decide) (Nat.le_of_ble_eq_true rfl) dX7_turns_2 ?_
  refine aw_if_eq X 24 dX7_turns_5 rfl (fun c1 => ?_) (fun c1 => ?_)
  · replace h := zifp c1 h
    refine aw_aload_n X 0 dX7_turns_24 rfl ?_
    refine aw_iconst (v := (-1)) X dX7_turns_25 (by decide) ?_
    refine aw_callV X (as := [vI (-1)]) mf_X7_no10 zw_1221 h zs_87 rfl rfl (by decide) (Nat.le_of_ble_eq_true rfl) dX7_turns_26 (fun v I2 L2 h => ?_)
    obtain ⟨r2, rfl, h⟩ := h
    exact aw_iret X E rfl dX7_turns_29 h
  · replace h := zifn c1 h
    refine aw_aload_n X 0 dX7_turns_8 rfl ?_
    refine aw_iload_n X 2 dX7_turns_9 rfl ?_
    refine aw_pV X (as := [vI a2]) mf_X7_isLetter zw_1201 (p_X7_isLetter) zs_87 rfl rfl (by decide) (Nat.le_of_ble_eq_true rfl) dX7_turns_10 ?_
    refine aw_if_eq X 24 dX7_turns_13 rfl (fun c3 => ?_) (fun c3 => ?_)
    · replace h := zifp c3 h
      refine aw_aload_n X 0 dX7_turns_24 rfl ?_
      refine aw_iconst (v := (-1)) X dX7_turns_25 (by decide) ?_
      refine aw_callV X (as := [vI (-1)]) mf_X7_no10 zw_1221 h zs_87 rfl rfl (by decide) (Nat.le_of_ble_eq_true rfl) dX7_turns_26 (fun v I4 L4 h => ?_)
      obtain ⟨r4, rfl, h⟩ := h
      exact aw_iret X E rfl dX7_turns_29 h
    · replace h := zifn c3 h
      refine aw_aload_n X 0 dX7_turns_16 rfl ?_
      refine aw_iload_n X 3 dX7_turns_17 rfl ?_
      refine aw_pV X (as := [vI a3]) mf_X7_isLetter zw_1201 (p_X7_isLetter) zs_87 rfl rfl (by decide) (Nat.le_of_ble_eq_true rfl) dX7_turns_18 ?_
      refine aw_if_ne X 30 dX7_turns_21 rfl (fun c5 => ?_) (fun c5 => ?_)
      · replace h := zifn c5 h
        refine aw_iconst (v := 0) X dX7_turns_30 (by decide) ?_
        refine aw_istore X dX7_turns_31 (by decide) rfl ?_
        refine aw_perm (ks9 := [(0, vR 87), (1, vI a1), (2, vI a2), (3, vI a3), (4, vI 0)]) [1, 2, 3, 4, 0] rfl ?_
        exact h
      · replace h := zifp c5 h
        refine aw_aload_n X 0 dX7_turns_24 rfl ?_
        refine aw_iconst (v := (-1)) X dX7_turns_25 (by decide) ?_
        refine aw_callV X (as := [vI (-1)]) mf_X7_no10 zw_1221 h zs_87 rfl rfl (by decide) (Nat.le_of_ble_eq_true rfl) dX7_turns_26 (fun v I6 L6 h => ?_)
        obtain ⟨r6, rfl, h⟩ := h
        exact aw_iret X E rfl dX7_turns_29 h
set_option maxRecDepth 100000 in
theorem m_X7_unlike {l : Launch} {g : zG} {Q : Option zv → zI → zL → Prop} {I : zI} {L : zL} {a1 : Int32} {a2 : Int32}  (h : if (v_X7_isLetter I a1) = 0 then (Call l g 1 M_X7_no [vR 87, vI (-1)] I L (zi fun r2 I2 L2 => Q (some (vI r2)) I2 L2)) else (if (v_X7_isLetter I a2) = 0 then (Call l g 1 M_X7_no [vR 87, vI (-1)] I L (zi fun r4 I4 L4 => Q (some (vI r4)) I4 L4)) else (vp_in a1 8 ∧ (vp_in a2 8 ∧ (Q (some (vI (v_J6_bitCount_0f7a4 ((I 91 a1.toNatClampNeg) ^^^ (I 91 a2.toNatClampNeg))))) I L))))) : Call l g 3 M_X7_unlike [vR 87, vI a1, vI a2] I L Q := by
  refine aw_entry (by decide) (Nat.le_of_ble_eq_true rfl) (fun k hk (X : zX k g cX7_unlike RX7 3 (some .int) 3) E => ?_)
  show AW k g 3 I L 0 [(0, vR 87), (1, vI a1), (2, vI a2)] []
  subst hk
  refine aw_aload_n X 0 dX7_unlike_0 rfl ?_
  refine aw_iload_n X 1 dX7_unlike_1 rfl ?_
  refine aw_pV X (as := [vI a1]) mf_X7_isLetter zw_1201 (p_X7_isLetter) zs_87 rfl rfl (by decide) (Nat.le_of_ble_eq_true rfl) dX7_unlike_2 ?_
  refine aw_if_eq X 35 dX7_unlike_5 rfl (fun c1 => ?_) (fun c1 => ?_)
  · replace h := zifp c1 h
    refine aw_aload_n X 0 dX7_unlike_35 rfl ?_
    refine aw_iconst (v := (-1)) X dX7_unlike_36 (by decide) ?_
    refine aw_callV X (as := [vI (-1)]) mf_X7_no zw_1137 h zs_87 rfl rfl (by decide) (Nat.le_of_ble_eq_true rfl) dX7_unlike_37 (fun v I2 L2 h => ?_)
    obtain ⟨r2, rfl, h⟩ := h
    exact aw_iret X E rfl dX7_unlike_40 h
  · replace h := zifn c1 h
    refine aw_aload_n X 0 dX7_unlike_8 rfl ?_
    refine aw_iload_n X 2 dX7_unlike_9 rfl ?_
    refine aw_pV X (as := [vI a2]) mf_X7_isLetter zw_1201 (p_X7_isLetter) zs_87 rfl rfl (by decide) (Nat.le_of_ble_eq_true rfl) dX7_unlike_10 ?_
    refine aw_if_eq X 35 dX7_unlike_13 rfl (fun c3 => ?_) (fun c3 => ?_)
    · replace h := zifp c3 h
      refine aw_aload_n X 0 dX7_unlike_35 rfl ?_
      refine aw_iconst (v := (-1)) X dX7_unlike_36 (by decide) ?_
      refine aw_callV X (as := [vI (-1)]) mf_X7_no zw_1137 h zs_87 rfl rfl (by decide) (Nat.le_of_ble_eq_true rfl) dX7_unlike_37 (fun v I4 L4 h => ?_)
      obtain ⟨r4, rfl, h⟩ := h
      exact aw_iret X E rfl dX7_unlike_40 h
    · replace h := zifn c3 h
      refine aw_aload_n X 0 dX7_unlike_16 rfl ?_
      refine aw_getR X zf_RX7_20 rfl zs_87 zr_87_4 dX7_unlike_17 ?_
      refine aw_iload_n X 1 dX7_unlike_20 rfl ?_
      have n5 := h.1
      replace h := h.2
      refine aw_ialdj (j := a1.toNatClampNeg) X zs_91 n5 rfl dX7_unlike_21 ?_
      refine aw_aload_n X 0 dX7_unlike_22 rfl ?_
      refine aw_getR X zf_RX7_20 rfl zs_87 zr_87_4 dX7_unlike_23 ?_
      refine aw_iload_n X 2 dX7_unlike_26 rfl ?_
      have n6 := h.1
      replace h := h.2
      refine aw_ialdj (j := a2.toNatClampNeg) X zs_91 n6 rfl dX7_unlike_27 ?_
      refine aw_ixor X dX7_unlike_28 ?_
      refine aw_pS X (as := [vI ((I 91 a1.toNatClampNeg) ^^^ (I 91 a2.toNatClampNeg))]) mf_J6_bitCount_0f7a4 zw_1319 (p_J6_bitCount_0f7a4) rfl rfl (by decide) (Nat.le_of_ble_eq_true rfl) dX7_unlike_29 ?_
      refine aw_goto X 40 dX7_unlike_32 rfl ?_
      exact aw_iret X E rfl dX7_unlike_40 h
set_option maxRecDepth 100000 in
theorem s_X7_winter_24 {k : zK} {g : zG} {Q : Option zv → zI → zL → Prop} {I : zI} {L : zL} {y1 : Int32} {y2 : Int32} {y3 : Int32}  (X : zX k g cX7_winter RX7 4 (some .int) 4) (E : zE k g Q) (h : if y3 < y1 then (Call (kl k) g 1 M_X7_draw [vR 87, vI 41] I L (zi fun r2 I2 L2 => (∀ I3 : zI, I3 = (zs I2 87 12 r2) → Call (kl k) g 1 M_X7_draw [vR 87, vI 10] I3 L2 (zi fun r4 I4 L4 => (∀ I5 : zI, I5 = (zs I4 87 13 r4) → Call (kl k) g 3 M_X7_night [vR 87] I5 L4 (zi fun r6 I6 L6 => AW k g 4 I6 L6 24 [(0, vR 87), (1, vI y1), (2, vI y2), (3, vI (y3 + 1))] [])))))) else (Q (some (vI ((I 87 16) - y2))) I L)) : AW k g 4 I L 24 [(0, vR 87), (1, vI y1), (2, vI y2), (3, vI y3)] [] := by
  refine aw_iload_n X 3 dX7_winter_24 rfl ?_
  refine aw_iload_n X 1 dX7_winter_25 rfl ?_
  refine aw_icmp_gen X 60 dX7_winter_26 rfl (fun c1 => ?_) (fun c1 => ?_)
  · replace h := zifp c1 h
    refine aw_aload_n X 0 dX7_winter_29 rfl ?_
    refine aw_aload_n X 0 dX7_winter_30 rfl ?_
    refine aw_bipush (v := 41) X dX7_winter_31 (by decide) ?_
    refine aw_callV X (as := [vI 41]) mf_X7_draw zw_1415 h zs_87 rfl rfl (by decide) (Nat.le_of_ble_eq_true rfl) dX7_winter_33 (fun v I2 L2 h => ?_)
    obtain ⟨r2, rfl, h⟩ := h
    refine aw_putI X zf_RX7_65 rfl rfl rfl zs_87 dX7_winter_36 ?_
    refine aw_aload_n X 0 dX7_winter_39 rfl ?_
    refine aw_aload_n X 0 dX7_winter_40 rfl ?_
    refine aw_bipush (v := 10) X dX7_winter_41 (by decide) ?_
    refine aw_nameI (fun I3 e3 => ?_)
    replace h := h I3 e3
    refine aw_callV X (as := [vI 10]) mf_X7_draw zw_1415 h zs_87 rfl rfl (by decide) (Nat.le_of_ble_eq_true rfl) dX7_winter_43 (fun v I4 L4 h => ?_)
    obtain ⟨r4, rfl, h⟩ := h
    refine aw_putI X zf_RX7_69 rfl rfl rfl zs_87 dX7_winter_46 ?_
    refine aw_aload_n X 0 dX7_winter_49 rfl ?_
    refine aw_nameI (fun I5 e5 => ?_)
    replace h := h I5 e5
    refine aw_callV X (as := []) mf_X7_night zw_1420 h zs_87 rfl rfl (by decide) (Nat.le_of_ble_eq_true rfl) dX7_winter_50 (fun v I6 L6 h => ?_)
    obtain ⟨r6, rfl, h⟩ := h
    refine aw_pop X dX7_winter_53 rfl ?_
    refine aw_iinc (v := y3 + 1) X 3 dX7_winter_54 rfl rfl (by decide) rfl ?_
    refine aw_goto X 24 dX7_winter_57 rfl ?_
    refine aw_perm (ks9 := [(0, vR 87), (1, vI y1), (2, vI y2), (3, vI (y3 + 1))]) [1, 2, 3, 0] rfl ?_
    exact h
  · replace h := zifn c1 h
    refine aw_aload_n X 0 dX7_winter_60 rfl ?_
    refine aw_getI X zf_RX7_215 rfl zs_87 dX7_winter_61 ?_
    refine aw_iload_n X 2 dX7_winter_64 rfl ?_
    refine aw_isub X dX7_winter_65 ?_
    exact aw_iret X E rfl dX7_winter_66 h
set_option maxRecDepth 100000 in
theorem m_X7_winter {l : Launch} {g : zG} {Q : Option zv → zI → zL → Prop} {I : zI} {L : zL} {a1 : Int32}  (h : ∀ k : zK, kl k = l → zX k g cX7_winter RX7 4 (some .int) 4 → zE k g Q → (if (v_X7_within a1 1 40) = 0 then (Call (kl k) g 1 M_X7_no [vR 87, vI (-6)] I L (zi fun r2 I2 L2 => Q (some (vI r2)) I2 L2)) else (AW k g 4 I L 24 [(0, vR 87), (1, vI a1), (2, vI (I 87 16)), (3, vI 0)] []))) : Call l g 4 M_X7_winter [vR 87, vI a1] I L Q := by
  refine aw_entry (by decide) (Nat.le_of_ble_eq_true rfl) (fun k hk (X : zX k g cX7_winter RX7 4 (some .int) 4) E => ?_)
  show AW k g 4 I L 0 [(0, vR 87), (1, vI a1)] []
  replace h := h k hk X E
  subst hk
  refine aw_iload_n X 1 dX7_winter_0 rfl ?_
  refine aw_iconst (v := 1) X dX7_winter_1 (by decide) ?_
  refine aw_bipush (v := 40) X dX7_winter_2 (by decide) ?_
  refine aw_pS X (as := [vI a1, vI 1, vI 40]) mf_X7_within zw_1134 (p_X7_within) rfl rfl (by decide) (Nat.le_of_ble_eq_true rfl) dX7_winter_4 ?_
  refine aw_if_ne X 17 dX7_winter_7 rfl (fun c1 => ?_) (fun c1 => ?_)
  · replace h := zifn c1 h
    refine aw_aload_n X 0 dX7_winter_17 rfl ?_
    refine aw_getI X zf_RX7_215 rfl zs_87 dX7_winter_18 ?_
    refine aw_istore_n X dX7_winter_21 (by decide) rfl ?_
    refine aw_iconst (v := 0) X dX7_winter_22 (by decide) ?_
    refine aw_istore_n X dX7_winter_23 (by decide) rfl ?_
    refine aw_perm (ks9 := [(0, vR 87), (1, vI a1), (2, vI (I 87 16)), (3, vI 0)]) [2, 3, 1, 0] rfl ?_
    exact h
  · replace h := zifp c1 h
    refine aw_aload_n X 0 dX7_winter_10 rfl ?_
    refine aw_bipush (v := (-6)) X dX7_winter_11 (by decide) ?_
    refine aw_callV X (as := [vI (-6)]) mf_X7_no zw_1137 h zs_87 rfl rfl (by decide) (Nat.le_of_ble_eq_true rfl) dX7_winter_13 (fun v I2 L2 h => ?_)
    obtain ⟨r2, rfl, h⟩ := h
    exact aw_iret X E rfl dX7_winter_16 h
