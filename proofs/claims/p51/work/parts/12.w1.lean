set_option maxRecDepth 100000 in
theorem m_X4_changeWeather {l : Launch} {g : zG} {Q : Option zv → zI → zL → Prop} {I : zI} {L : zL} {p : Nat} {a1 : Int32} {a2 : Int32} (hp : zsh p = (14, 10)) (h : if a1 = 0 then (Q (some (vI (I p 4))) (zs I p 4 a2) L) else if a1 = 1 then (Q (some (vI (I p 5))) (zs I p 5 a2) L) else if a1 = 2 then (Q (some (vI (I p 6))) (zs I p 6 a2) L) else (Q (some (vI (-1))) I L)) : Call l g 1 M_X4_changeWeather [vR p, vI a1, vI a2] I L Q := by
  refine aw_entry (by decide) (Nat.le_of_ble_eq_true rfl) (fun k hk (X : zX k g cX4_changeWeather RX4 4 (some .int) 1) E => ?_)
  show AW k g 4 I L 0 [(0, vR p), (1, vI a1), (2, vI a2)] []
  subst hk
  refine aw_iload_n X 1 dX4_changeWeather_0 rfl ?_
  by_cases c2 : a1 = 0
  · replace h := zifp c2 h
    refine aw_tableIn X 0 28 dX4_changeWeather_1 (by rw [c2]; rfl) (by decide) rfl rfl ?_
    refine aw_aload_n X 0 dX4_changeWeather_28 rfl ?_
    refine aw_getI X zf_RX4_29 rfl hp dX4_changeWeather_29 ?_
    refine aw_istore_n X dX4_changeWeather_32 (by decide) rfl ?_
    refine aw_aload_n X 1 dX4_changeWeather_33 rfl ?_
    refine aw_iload_n X 3 dX4_changeWeather_34 rfl ?_
    refine aw_putI X zf_RX4_29 rfl rfl rfl hp dX4_changeWeather_35 ?_
    refine aw_iload_n X 0 dX4_changeWeather_38 rfl ?_
    exact aw_iret X E rfl dX4_changeWeather_39 h
  replace h := zifn c2 h
  by_cases c3 : a1 = 1
  · replace h := zifp c3 h
    refine aw_tableIn X 1 40 dX4_changeWeather_1 (by rw [c3]; rfl) (by decide) rfl rfl ?_
    refine aw_aload_n X 0 dX4_changeWeather_40 rfl ?_
    refine aw_getI X zf_RX4_32 rfl hp dX4_changeWeather_41 ?_
    refine aw_istore_n X dX4_changeWeather_44 (by decide) rfl ?_
    refine aw_aload_n X 1 dX4_changeWeather_45 rfl ?_
    refine aw_iload_n X 3 dX4_changeWeather_46 rfl ?_
    refine aw_putI X zf_RX4_32 rfl rfl rfl hp dX4_changeWeather_47 ?_
    refine aw_iload_n X 0 dX4_changeWeather_50 rfl ?_
    exact aw_iret X E rfl dX4_changeWeather_51 h
  replace h := zifn c3 h
  by_cases c4 : a1 = 2
  · replace h := zifp c4 h
    refine aw_tableIn X 2 52 dX4_changeWeather_1 (by rw [c4]; rfl) (by decide) rfl rfl ?_
    refine aw_aload_n X 0 dX4_changeWeather_52 rfl ?_
    refine aw_getI X zf_RX4_35 rfl hp dX4_changeWeather_53 ?_
    refine aw_istore_n X dX4_changeWeather_56 (by decide) rfl ?_
    refine aw_aload_n X 1 dX4_changeWeather_57 rfl ?_
    refine aw_iload_n X 3 dX4_changeWeather_58 rfl ?_
    refine aw_putI X zf_RX4_35 rfl rfl rfl hp dX4_changeWeather_59 ?_
    refine aw_iload_n X 0 dX4_changeWeather_62 rfl ?_
    exact aw_iret X E rfl dX4_changeWeather_63 h
  replace h := zifn c4 h
  have e0 := ztn (n := 0) rfl c2
  have e1 := ztn (n := 1) rfl c3
  have e2 := ztn (n := 2) rfl c4
  refine aw_tableOut X 64 dX4_changeWeather_1 (by omega) rfl ?_
  refine aw_iconst (v := (-1)) X dX4_changeWeather_64 (by decide) ?_
  exact aw_iret X E rfl dX4_changeWeather_65 h
def v_X4_mostOf (a1 : Int32) : Int32 := if a1 = 0 then 40 else if a1 = 1 then 9 else if a1 = 2 then 9 else ((-1) : Int32)
set_option maxRecDepth 100000 in
theorem p_X4_mostOf {l : Launch} {g : zG} {I : zI} {L : zL} {a1 : Int32}  : Call l g 1 M_X4_mostOf [vI a1] I L (zp (some (vI (v_X4_mostOf a1))) I L) := by
  refine aw_entry (by decide) (Nat.le_of_ble_eq_true rfl) (fun k hk (X : zX k g cX4_mostOf RX4 1 (some .int) 1) E => ?_)
  show AW k g 1 I L 0 [(0, vI a1)] []
  subst hk
  have hJ : ∀ w1 : Int32, w1 = (if a1 = 0 then 40 else if a1 = 1 then 9 else if a1 = 2 then 9 else ((-1) : Int32)) → zp (some (vI (v_X4_mostOf a1))) I L (some (vI w1)) I L := fun w1 e1 => ⟨by rw [e1]; rfl, rfl, rfl⟩
  refine aw_iload_n X 0 dX4_mostOf_0 rfl ?_
  by_cases c1 : a1 = 0
  · refine aw_tableIn X 0 28 dX4_mostOf_1 (by rw [c1]; rfl) (by decide) rfl rfl ?_
    refine aw_bipush (v := 40) X dX4_mostOf_28 (by decide) ?_
    exact aw_iret X E rfl dX4_mostOf_30 (hJ _ (if_pos c1).symm)
  by_cases c2 : a1 = 1
  · refine aw_tableIn X 1 31 dX4_mostOf_1 (by rw [c2]; rfl) (by decide) rfl rfl ?_
    refine aw_bipush (v := 9) X dX4_mostOf_31 (by decide) ?_
    exact aw_iret X E rfl dX4_mostOf_33 (hJ _ ((if_neg c1).trans (if_pos c2)).symm)
  by_cases c3 : a1 = 2
  · refine aw_tableIn X 2 34 dX4_mostOf_1 (by rw [c3]; rfl) (by decide) rfl rfl ?_
    refine aw_bipush (v := 9) X dX4_mostOf_34 (by decide) ?_
    exact aw_iret X E rfl dX4_mostOf_36 (hJ _ ((if_neg c1).trans ((if_neg c2).trans (if_pos c3))).symm)
  have e0 := ztn (n := 0) rfl c1
  have e1 := ztn (n := 1) rfl c2
  have e2 := ztn (n := 2) rfl c3
  refine aw_tableOut X 37 dX4_mostOf_1 (by omega) rfl ?_
  refine aw_iconst (v := (-1)) X dX4_mostOf_37 (by decide) ?_
  exact aw_iret X E rfl dX4_mostOf_38 (hJ _ ((if_neg c1).trans ((if_neg c2).trans (if_neg c3))).symm)
def v_X4_mayBecome (a1 : Int32) (a2 : Int32) : Int32 := if a2 < 0 then 0 else if (v_X4_mostOf a1) < a2 then 0 else (1 : Int32)
set_option maxRecDepth 100000 in
theorem p_X4_mayBecome {l : Launch} {g : zG} {I : zI} {L : zL} {a1 : Int32} {a2 : Int32}  : Call l g 2 M_X4_mayBecome [vI a1, vI a2] I L (zp (some (vI (v_X4_mayBecome a1 a2))) I L) := by
  refine aw_entry (by decide) (Nat.le_of_ble_eq_true rfl) (fun k hk (X : zX k g cX4_mayBecome RX4 2 (some .boolean) 2) E => ?_)
  show AW k g 2 I L 0 [(0, vI a1), (1, vI a2)] []
  subst hk
  have hJ : ∀ w1 : Int32, w1 = (if a2 < 0 then 0 else if (v_X4_mostOf a1) < a2 then 0 else (1 : Int32)) → zp (some (vI (v_X4_mayBecome a1 a2))) I L (some (vI w1)) I L := fun w1 e1 => ⟨by rw [e1]; rfl, rfl, rfl⟩
  refine aw_iload_n X 1 dX4_mayBecome_0 rfl ?_
  have hJ3 : ∀ (w1 : Int32), w1 = (if a2 < 0 then 0 else if (v_X4_mostOf a1) < a2 then 0 else (1 : Int32)) → AW k g 2 I L 17 [] [vI w1] := by
    intro w1 q1
    subst q1
    exact aw_zret X E rfl (by (repeat' split) <;> first | exact Or.inl rfl | exact Or.inr rfl) dX4_mayBecome_17 (hJ _ rfl)
  refine aw_if_lt X 16 dX4_mayBecome_1 rfl (fun c1 => ?_) (fun c1 => ?_)
  · refine aw_iconst (v := 0) X dX4_mayBecome_16 (by decide) ?_
    refine aw_perm (ks9 := []) [] rfl ?_
    exact hJ3 _ (if_pos c1).symm
  · refine aw_iload_n X 1 dX4_mayBecome_4 rfl ?_
    refine aw_iload_n X 0 dX4_mayBecome_5 rfl ?_
    refine aw_pS X (as := [vI a1]) mf_X4_mostOf zw_407 (p_X4_mostOf) rfl rfl (by decide) (Nat.le_of_ble_eq_true rfl) dX4_mayBecome_6 ?_
    refine aw_icmp_gt X 16 dX4_mayBecome_9 rfl (fun c2 => ?_) (fun c2 => ?_)
    · refine aw_iconst (v := 0) X dX4_mayBecome_16 (by decide) ?_
      refine aw_perm (ks9 := []) [] rfl ?_
      exact hJ3 _ ((if_pos c2).symm.trans (if_neg c1).symm)
    · refine aw_iconst (v := 1) X dX4_mayBecome_12 (by decide) ?_
      refine aw_goto X 17 dX4_mayBecome_13 rfl ?_
      refine aw_perm (ks9 := []) [] rfl ?_
      exact hJ3 _ ((if_neg c2).symm.trans (if_neg c1).symm)
theorem b_X4_mayBecome {a1 : Int32} {a2 : Int32} : v_X4_mayBecome a1 a2 = 0 ∨ v_X4_mayBecome a1 a2 = 1 := by
  unfold v_X4_mayBecome
  repeat' split
  all_goals first | exact Or.inl rfl | exact Or.inr rfl
def v_X4_paneAt (I : zI) (p : Nat) (a1 : Int32) : Nat := if a1 < 0 then 0 else if a1 < (I p 3) then if a1 < 8 then p + 3 + 2 * a1.toNatClampNeg else (0 : Nat) else (0 : Nat)
set_option maxRecDepth 100000 in
theorem p_X4_paneAt {l : Launch} {g : zG} {I : zI} {L : zL} {p : Nat} {a1 : Int32} (hp : zsh p = (14, 10)) : Call l g 1 M_X4_paneAt [vR p, vI a1] I L (zp (some (vR (v_X4_paneAt I p a1))) I L) := by
  refine aw_entry (by decide) (Nat.le_of_ble_eq_true rfl) (fun k hk (X : zX k g cX4_paneAt RX4 2 (some (.object "PrintedByFrost$Pane")) 1) E => ?_)
  show AW k g 2 I L 0 [(0, vR p), (1, vI a1)] []
  subst hk
  have hJ : ∀ w1 : Nat, w1 = (if a1 < 0 then 0 else if a1 < (I p 3) then if a1 < 8 then p + 3 + 2 * a1.toNatClampNeg else (0 : Nat) else (0 : Nat)) → zp (some (vR (v_X4_paneAt I p a1))) I L (some (vR w1)) I L := fun w1 e1 => ⟨by rw [e1]; rfl, rfl, rfl⟩
  refine aw_iload_n X 1 dX4_paneAt_0 rfl ?_
  have hJ4 : ∀ (w1 : Nat), w1 = (if a1 < 0 then 0 else if a1 < (I p 3) then if a1 < 8 then p + 3 + 2 * a1.toNatClampNeg else (0 : Nat) else (0 : Nat)) → AW k g 2 I L 31 [] [vR w1] := by
    intro w1 q1
    subst q1
    exact aw_aret X E rfl dX4_paneAt_31 (hJ _ rfl)
  refine aw_if_lt X 30 dX4_paneAt_1 rfl (fun c1 => ?_) (fun c1 => ?_)
  · refine aw_null X dX4_paneAt_30 ?_
    refine aw_perm (ks9 := []) [] rfl ?_
    exact hJ4 _ (if_pos c1).symm
  · refine aw_iload_n X 1 dX4_paneAt_4 rfl ?_
    refine aw_aload_n X 0 dX4_paneAt_5 rfl ?_
    refine aw_getI X zf_RX4_26 rfl hp dX4_paneAt_6 ?_
    refine aw_icmp_gen X 30 dX4_paneAt_9 rfl (fun c2 => ?_) (fun c2 => ?_)
    · refine aw_iload_n X 1 dX4_paneAt_12 rfl ?_
      refine aw_aload_n X 0 dX4_paneAt_13 rfl ?_
      refine aw_getR X zf_RX4_17 rfl hp (zL4 hp).2.1.1 dX4_paneAt_14 ?_
      refine aw_alen (v := 8) X (zL4 hp).2.1.2 (by decide) (by decide) dX4_paneAt_17 ?_
      refine aw_icmp_gen X 30 dX4_paneAt_18 rfl (fun c3 => ?_) (fun c3 => ?_)
      · refine aw_aload_n X 0 dX4_paneAt_21 rfl ?_
        refine aw_getR X zf_RX4_17 rfl hp (zL4 hp).2.1.1 dX4_paneAt_22 ?_
        refine aw_iload_n X 1 dX4_paneAt_25 rfl ?_
        refine aw_aald X (zL4 hp).2.1.2 (by decide) (zinof c1 c3 (by decide)) ((zL4 hp).2.2 _ (zlt (zinof c1 c3 (by decide)))).1 dX4_paneAt_26 ?_
        refine aw_goto X 31 dX4_paneAt_27 rfl ?_
        refine aw_perm (ks9 := []) [] rfl ?_
        exact hJ4 _ (((if_pos c3).symm.trans (if_pos c2).symm).trans (if_neg c1).symm)
      · refine aw_null X dX4_paneAt_30 ?_
        refine aw_perm (ks9 := []) [] rfl ?_
        exact hJ4 _ (((if_neg c3).symm.trans (if_pos c2).symm).trans (if_neg c1).symm)
    · refine aw_null X dX4_paneAt_30 ?_
      refine aw_perm (ks9 := []) [] rfl ?_
      exact hJ4 _ ((if_neg c2).symm.trans (if_neg c1).symm)
theorem nn_X4_paneAt {I : zI} {p : Nat} {a1 : Int32} (hp : zsh p = (14, 10)) (h : ¬ v_X4_paneAt I p a1 = 0) : zsh (v_X4_paneAt I p a1) = (11, 6) := by
  unfold v_X4_paneAt at h ⊢
  split at h
  · exact absurd rfl h
  · rename_i c1
    split at h
    · rename_i c2
      split at h
      · rename_i c3
        rw [if_neg c1, if_pos c2, if_pos c3]
        exact ((zL4 hp).2.2 _ (zlt (zinof c1 c3 (by decide)))).2
      · exact absurd rfl h
    · exact absurd rfl h
def v_X1_cellsBeside (a1 : Int32) : Int32 := ((((jshr (jshl 1 a1) 4) ||| (jshl (jshl 1 a1) 4)) ||| (if 0 < (jrem a1 4) then jshr (jshl 1 a1) 1 else (0 : Int32))) ||| (if (jrem a1 4) < 3 then jshl (jshl 1 a1) 1 else (0 : Int32))) &&& 65535
set_option maxRecDepth 100000 in
theorem p_X1_cellsBeside {l : Launch} {g : zG} {I : zI} {L : zL} {a1 : Int32}  : Call l g 1 M_X1_cellsBeside [vI a1] I L (zp (some (vI (v_X1_cellsBeside a1))) I L) := by
  refine aw_entry (by decide) (Nat.le_of_ble_eq_true rfl) (fun k hk (X : zX k g cX1_cellsBeside RX1 5 (some .int) 1) E => ?_)
  show AW k g 5 I L 0 [(0, vI a1)] []
  subst hk
  have hJ : ∀ w1 : Int32, w1 = (((((jshr (jshl 1 a1) 4) ||| (jshl (jshl 1 a1) 4)) ||| (if 0 < (jrem a1 4) then jshr (jshl 1 a1) 1 else (0 : Int32))) ||| (if (jrem a1 4) < 3 then jshl (jshl 1 a1) 1 else (0 : Int32))) &&& 65535) → zp (some (vI (v_X1_cellsBeside a1))) I L (some (vI w1)) I L := fun w1 e1 => ⟨by rw [e1]; rfl, rfl, rfl⟩
  refine aw_iconst (v := 1) X dX1_cellsBeside_0 (by decide) ?_
  refine aw_iload_n X 0 dX1_cellsBeside_1 rfl ?_
  refine aw_ishl X dX1_cellsBeside_2 ?_
  refine aw_istore_n X dX1_cellsBeside_3 (by decide) rfl ?_
  refine aw_iload_n X 1 dX1_cellsBeside_4 rfl ?_
  refine aw_iconst (v := 4) X dX1_cellsBeside_5 (by decide) ?_
  refine aw_irem X dX1_cellsBeside_6 (by decide) ?_
  refine aw_istore_n X dX1_cellsBeside_7 (by decide) rfl ?_
  refine aw_iload_n X 0 dX1_cellsBeside_8 rfl ?_
  have hJ4 : ∀ (w1 : Int32), w1 = (if 0 < (jrem a1 4) then jshr (jshl 1 a1) 1 else (0 : Int32)) → AW k g 5 I L 19 [(1, vI (jshl 1 a1)), (2, vI (jrem a1 4))] [vI w1] := by
    intro w1 q1
    subst q1
    refine aw_istore_n X dX1_cellsBeside_19 (by decide) rfl ?_
    refine aw_iload_n X 2 dX1_cellsBeside_20 rfl ?_
    refine aw_iconst (v := 3) X dX1_cellsBeside_21 (by decide) ?_
    have hJ3 : ∀ (w1 : Int32), w1 = (if (jrem a1 4) < 3 then jshl (jshl 1 a1) 1 else (0 : Int32)) → AW k g 5 I L 32 [(1, vI (jshl 1 a1)), (3, vI (if 0 < (jrem a1 4) then jshr (jshl 1 a1) 1 else (0 : Int32)))] [vI w1] := by
      intro w1 q1
      subst q1
      refine aw_istore X dX1_cellsBeside_32 (by decide) rfl ?_
      refine aw_iload_n X 1 dX1_cellsBeside_34 rfl ?_
      refine aw_iconst (v := 4) X dX1_cellsBeside_35 (by decide) ?_
      refine aw_ishr X dX1_cellsBeside_36 ?_
      refine aw_iload_n X 1 dX1_cellsBeside_37 rfl ?_
      refine aw_iconst (v := 4) X dX1_cellsBeside_38 (by decide) ?_
      refine aw_ishl X dX1_cellsBeside_39 ?_
      refine aw_ior X dX1_cellsBeside_40 ?_
      refine aw_iload_n X 2 dX1_cellsBeside_41 rfl ?_
      refine aw_ior X dX1_cellsBeside_42 ?_
      refine aw_iload X 0 dX1_cellsBeside_43 rfl ?_
      refine aw_ior X dX1_cellsBeside_45 ?_
      refine aw_ldc X zw_613 dX1_cellsBeside_46 ?_
      refine aw_iand X dX1_cellsBeside_48 ?_
      exact aw_iret X E rfl dX1_cellsBeside_49 (hJ _ rfl)
    refine aw_icmp_gen X 31 dX1_cellsBeside_22 rfl (fun c2 => ?_) (fun c2 => ?_)
    · refine aw_iload_n X 1 dX1_cellsBeside_25 rfl ?_
      refine aw_iconst (v := 1) X dX1_cellsBeside_26 (by decide) ?_
      refine aw_ishl X dX1_cellsBeside_27 ?_
      refine aw_goto X 32 dX1_cellsBeside_28 rfl ?_
      refine aw_perm (ks9 := [(1, vI (jshl 1 a1)), (3, vI (if 0 < (jrem a1 4) then jshr (jshl 1 a1) 1 else (0 : Int32)))]) [1, 0] rfl ?_
      exact hJ3 _ (if_pos c2).symm
    · refine aw_iconst (v := 0) X dX1_cellsBeside_31 (by decide) ?_
      refine aw_perm (ks9 := [(1, vI (jshl 1 a1)), (3, vI (if 0 < (jrem a1 4) then jshr (jshl 1 a1) 1 else (0 : Int32)))]) [1, 0] rfl ?_
      exact hJ3 _ (if_neg c2).symm
  refine aw_if_len X 18 dX1_cellsBeside_9 rfl (fun c1 => ?_) (fun c1 => ?_)
  · refine aw_iload_n X 1 dX1_cellsBeside_12 rfl ?_
    refine aw_iconst (v := 1) X dX1_cellsBeside_13 (by decide) ?_
    refine aw_ishr X dX1_cellsBeside_14 ?_
    refine aw_goto X 19 dX1_cellsBeside_15 rfl ?_
    refine aw_perm (ks9 := [(1, vI (jshl 1 a1)), (2, vI (jrem a1 4))]) [1, 0] rfl ?_
    exact hJ4 _ (if_pos c1).symm
  · refine aw_iconst (v := 0) X dX1_cellsBeside_18 (by decide) ?_
    refine aw_perm (ks9 := [(1, vI (jshl 1 a1)), (2, vI (jrem a1 4))]) [1, 0] rfl ?_
    exact hJ4 _ (if_neg c1).symm
def v_X1_hasCell (a1 : Int32) (a2 : Int32) : Int32 := if ((jshr a1 a2) &&& 1) = 1 then 1 else (0 : Int32)
set_option maxRecDepth 100000 in
theorem p_X1_hasCell {l : Launch} {g : zG} {I : zI} {L : zL} {a1 : Int32} {a2 : Int32}  : Call l g 1 M_X1_hasCell [vI a1, vI a2] I L (zp (some (vI (v_X1_hasCell a1 a2))) I L) := by
  refine aw_entry (by decide) (Nat.le_of_ble_eq_true rfl) (fun k hk (X : zX k g cX1_hasCell RX1 2 (some .boolean) 1) E => ?_)
  show AW k g 2 I L 0 [(0, vI a1), (1, vI a2)] []
  subst hk
  have hJ : ∀ w1 : Int32, w1 = (if ((jshr a1 a2) &&& 1) = 1 then 1 else (0 : Int32)) → zp (some (vI (v_X1_hasCell a1 a2))) I L (some (vI w1)) I L := fun w1 e1 => ⟨by rw [e1]; rfl, rfl, rfl⟩
  refine aw_iload_n X 0 dX1_hasCell_0 rfl ?_
  refine aw_iload_n X 1 dX1_hasCell_1 rfl ?_
  refine aw_ishr X dX1_hasCell_2 ?_
  refine aw_iconst (v := 1) X dX1_hasCell_3 (by decide) ?_
  refine aw_iand X dX1_hasCell_4 ?_
  refine aw_iconst (v := 1) X dX1_hasCell_5 (by decide) ?_
  have hJ2 : ∀ (w1 : Int32), w1 = (if ((jshr a1 a2) &&& 1) = 1 then 1 else (0 : Int32)) → AW k g 2 I L 14 [] [vI w1] := by
    intro w1 q1
    subst q1
    exact aw_zret X E rfl (by (repeat' split) <;> first | exact Or.inl rfl | exact Or.inr rfl) dX1_hasCell_14 (hJ _ rfl)
  refine aw_icmp_ne X 13 dX1_hasCell_6 rfl (fun c1 => ?_) (fun c1 => ?_)
  · refine aw_iconst (v := 0) X dX1_hasCell_13 (by decide) ?_
    refine aw_perm (ks9 := []) [] rfl ?_
    exact hJ2 _ (if_neg c1).symm
  · refine aw_iconst (v := 1) X dX1_hasCell_9 (by decide) ?_
    refine aw_goto X 14 dX1_hasCell_10 rfl ?_
    refine aw_perm (ks9 := []) [] rfl ?_
    exact hJ2 _ (if_pos c1).symm
theorem b_X1_hasCell {a1 : Int32} {a2 : Int32} : v_X1_hasCell a1 a2 = 0 ∨ v_X1_hasCell a1 a2 = 1 := by
  unfold v_X1_hasCell
  repeat' split
  all_goals first | exact Or.inl rfl | exact Or.inr rfl
def v_X1_freshIce (I : zI) (p : Nat) (a1 : Int32) (a2 : Int32) (a3 : Int32) (a4 : Int32) : Int32 := if (v_X1_hasCell (I p 4) a1) = 0 then if (v_X1_hasCell a2 a1) = 0 then if (if a4 < 6 then 0 else if (v_J6_bitCount_0f7a4 (a2 &&& (v_X1_cellsBeside a1))) < 3 then 0 else (1 : Int32)) = 0 then 0 else if (if (I p 0) = 6 then if a1 < 12 then 0 else (1 : Int32) else (0 : Int32)) = 0 then a3 / 2 else (0 : Int32) else a3 else (0 : Int32)
set_option maxRecDepth 100000 in
theorem p_X1_freshIce {l : Launch} {g : zG} {I : zI} {L : zL} {p : Nat} {a1 : Int32} {a2 : Int32} {a3 : Int32} {a4 : Int32} (hp : zsh p = (11, 6)) : Call l g 2 M_X1_freshIce [vR p, vI a1, vI a2, vI a3, vI a4] I L (zp (some (vI (v_X1_freshIce I p a1 a2 a3 a4))) I L) := by
  refine aw_entry (by decide) (Nat.le_of_ble_eq_true rfl) (fun k hk (X : zX k g cX1_freshIce RX1 8 (some .int) 2) E => ?_)
  show AW k g 8 I L 0 [(0, vR p), (1, vI a1), (2, vI a2), (3, vI a3), (4, vI a4)] []
  subst hk
  have hJ : ∀ w1 : Int32, w1 = (if (v_X1_hasCell (I p 4) a1) = 0 then if (v_X1_hasCell a2 a1) = 0 then if (if a4 < 6 then 0 else if (v_J6_bitCount_0f7a4 (a2 &&& (v_X1_cellsBeside a1))) < 3 then 0 else (1 : Int32)) = 0 then 0 else if (if (I p 0) = 6 then if a1 < 12 then 0 else (1 : Int32) else (0 : Int32)) = 0 then a3 / 2 else (0 : Int32) else a3 else (0 : Int32)) → zp (some (vI (v_X1_freshIce I p a1 a2 a3 a4))) I L (some (vI w1)) I L := fun w1 e1 => ⟨by rw [e1]; rfl, rfl, rfl⟩
  refine aw_aload_n X 0 dX1_freshIce_0 rfl ?_
  refine aw_getI X zf_RX1_24 rfl hp dX1_freshIce_1 ?_
  refine aw_iload_n X 1 dX1_freshIce_4 rfl ?_
  refine aw_pS X (as := [vI (I p 4), vI a1]) mf_X1_hasCell zw_607 (p_X1_hasCell) rfl rfl (by decide) (Nat.le_of_ble_eq_true rfl) dX1_freshIce_5 ?_
  refine aw_if_eq X 13 dX1_freshIce_8 rfl (fun c1 => ?_) (fun c1 => ?_)
  · refine aw_iload_n X 2 dX1_freshIce_13 rfl ?_
    refine aw_iload_n X 1 dX1_freshIce_14 rfl ?_
    refine aw_pS X (as := [vI a2, vI a1]) mf_X1_hasCell zw_607 (p_X1_hasCell) rfl rfl (by decide) (Nat.le_of_ble_eq_true rfl) dX1_freshIce_15 ?_
    refine aw_if_eq X 23 dX1_freshIce_18 rfl (fun c2 => ?_) (fun c2 => ?_)
    · refine aw_aload_n X 0 dX1_freshIce_23 rfl ?_
      refine aw_getI X zf_RX1_9 rfl hp dX1_freshIce_24 ?_
      refine aw_bipush (v := 6) X dX1_freshIce_27 (by decide) ?_
      have hJ11 : ∀ (w1 : Int32), w1 = (if (I p 0) = 6 then if a1 < 12 then 0 else (1 : Int32) else (0 : Int32)) → AW k g 8 I L 43 [(1, vI a1), (2, vI a2), (3, vI a3), (4, vI a4)] [vI w1] := by
        intro w1 q1
        subst q1
        refine aw_istore X dX1_freshIce_43 (by decide) rfl ?_
        refine aw_iload_n X 2 dX1_freshIce_45 rfl ?_
        refine aw_iload_n X 1 dX1_freshIce_46 rfl ?_
        refine aw_pS X (as := [vI a1]) mf_X1_cellsBeside zw_610 (p_X1_cellsBeside) rfl rfl (by decide) (Nat.le_of_ble_eq_true rfl) dX1_freshIce_47 ?_
        refine aw_iand X dX1_freshIce_50 ?_
        refine aw_pS X (as := [vI (a2 &&& (v_X1_cellsBeside a1))]) mf_J6_bitCount_0f7a4 zw_614 (p_J6_bitCount_0f7a4) rfl rfl (by decide) (Nat.le_of_ble_eq_true rfl) dX1_freshIce_51 ?_
        refine aw_istore X dX1_freshIce_54 (by decide) rfl ?_
        refine aw_iload X 5 dX1_freshIce_56 rfl ?_
        refine aw_bipush (v := 6) X dX1_freshIce_58 (by decide) ?_
        have hJ10 : ∀ (w1 : Int32), w1 = (if a4 < 6 then 0 else if (v_J6_bitCount_0f7a4 (a2 &&& (v_X1_cellsBeside a1))) < 3 then 0 else (1 : Int32)) → AW k g 8 I L 74 [(3, vI a3), (5, vI (if (I p 0) = 6 then if a1 < 12 then 0 else (1 : Int32) else (0 : Int32)))] [vI w1] := by
          intro w1 q1
          subst q1
          refine aw_istore X dX1_freshIce_74 (by decide) rfl ?_
          refine aw_iload X 0 dX1_freshIce_76 rfl ?_
          have hJ9 : ∀ (w1 : Int32), w1 = (if (if a4 < 6 then 0 else if (v_J6_bitCount_0f7a4 (a2 &&& (v_X1_cellsBeside a1))) < 3 then 0 else (1 : Int32)) = 0 then 0 else if (if (I p 0) = 6 then if a1 < 12 then 0 else (1 : Int32) else (0 : Int32)) = 0 then a3 / 2 else (0 : Int32)) → AW k g 8 I L 93 [] [vI w1] := by
            intro w1 q1
            subst q1
            exact aw_iret X E rfl dX1_freshIce_93 (hJ _ ((if_pos c2).symm.trans (if_pos c1).symm))
          refine aw_if_eq X 92 dX1_freshIce_78 rfl (fun c7 => ?_) (fun c7 => ?_)
          · refine aw_iconst (v := 0) X dX1_freshIce_92 (by decide) ?_
            refine aw_perm (ks9 := []) [] rfl ?_
            exact hJ9 _ (if_pos c7).symm
          · refine aw_iload X 2 dX1_freshIce_81 rfl ?_
            refine aw_if_ne X 92 dX1_freshIce_83 rfl (fun c8 => ?_) (fun c8 => ?_)
            · refine aw_iconst (v := 0) X dX1_freshIce_92 (by decide) ?_
              refine aw_perm (ks9 := []) [] rfl ?_
              exact hJ9 _ ((if_neg c8).symm.trans (if_neg c7).symm)
            · refine aw_iload_n X 1 dX1_freshIce_86 rfl ?_
              refine aw_iconst (v := 2) X dX1_freshIce_87 (by decide) ?_
              refine aw_idiv X dX1_freshIce_88 (by decide) ?_
              refine aw_goto X 93 dX1_freshIce_89 rfl ?_
              refine aw_perm (ks9 := []) [] rfl ?_
              exact hJ9 _ ((if_pos c8).symm.trans (if_neg c7).symm)
        refine aw_icmp_lt X 73 dX1_freshIce_60 rfl (fun c5 => ?_) (fun c5 => ?_)
        · refine aw_iconst (v := 0) X dX1_freshIce_73 (by decide) ?_
          refine aw_perm (ks9 := [(3, vI a3), (5, vI (if (I p 0) = 6 then if a1 < 12 then 0 else (1 : Int32) else (0 : Int32)))]) [4, 1] rfl ?_
          exact hJ10 _ (if_pos c5).symm
        · refine aw_iload X 0 dX1_freshIce_63 rfl ?_
          refine aw_iconst (v := 3) X dX1_freshIce_65 (by decide) ?_
          refine aw_icmp_lt X 73 dX1_freshIce_66 rfl (fun c6 => ?_) (fun c6 => ?_)
          · refine aw_iconst (v := 0) X dX1_freshIce_73 (by decide) ?_
            refine aw_perm (ks9 := [(3, vI a3), (5, vI (if (I p 0) = 6 then if a1 < 12 then 0 else (1 : Int32) else (0 : Int32)))]) [4, 1] rfl ?_
            exact hJ10 _ ((if_pos c6).symm.trans (if_neg c5).symm)
          · refine aw_iconst (v := 1) X dX1_freshIce_69 (by decide) ?_
            refine aw_goto X 74 dX1_freshIce_70 rfl ?_
            refine aw_perm (ks9 := [(3, vI a3), (5, vI (if (I p 0) = 6 then if a1 < 12 then 0 else (1 : Int32) else (0 : Int32)))]) [4, 1] rfl ?_
            exact hJ10 _ ((if_neg c6).symm.trans (if_neg c5).symm)
      refine aw_icmp_ne X 42 dX1_freshIce_29 rfl (fun c3 => ?_) (fun c3 => ?_)
      · refine aw_iconst (v := 0) X dX1_freshIce_42 (by decide) ?_
        refine aw_perm (ks9 := [(1, vI a1), (2, vI a2), (3, vI a3), (4, vI a4)]) [1, 2, 3, 4] rfl ?_
        exact hJ11 _ (if_neg c3).symm
      · refine aw_iload_n X 1 dX1_freshIce_32 rfl ?_
        refine aw_bipush (v := 12) X dX1_freshIce_33 (by decide) ?_
        refine aw_icmp_lt X 42 dX1_freshIce_35 rfl (fun c4 => ?_) (fun c4 => ?_)
        · refine aw_iconst (v := 0) X dX1_freshIce_42 (by decide) ?_
          refine aw_perm (ks9 := [(1, vI a1), (2, vI a2), (3, vI a3), (4, vI a4)]) [1, 2, 3, 4] rfl ?_
          exact hJ11 _ ((if_pos c4).symm.trans (if_pos c3).symm)
        · refine aw_iconst (v := 1) X dX1_freshIce_38 (by decide) ?_
          refine aw_goto X 43 dX1_freshIce_39 rfl ?_
          refine aw_perm (ks9 := [(1, vI a1), (2, vI a2), (3, vI a3), (4, vI a4)]) [1, 2, 3, 4] rfl ?_
          exact hJ11 _ ((if_neg c4).symm.trans (if_pos c3).symm)
    · refine aw_iload_n X 3 dX1_freshIce_21 rfl ?_
      exact aw_iret X E rfl dX1_freshIce_22 (hJ _ ((if_neg c2).symm.trans (if_pos c1).symm))
  · refine aw_iconst (v := 0) X dX1_freshIce_11 (by decide) ?_
    exact aw_iret X E rfl dX1_freshIce_12 (hJ _ (if_neg c1).symm)
def v_X1_laceRow (I : zI) (p : Nat) : Int32 := jrem (I p 2) 4
set_option maxRecDepth 100000 in
theorem p_X1_laceRow {l : Launch} {g : zG} {I : zI} {L : zL} {p : Nat} (hp : zsh p = (11, 6)) : Call l g 1 M_X1_laceRow [vR p] I L (zp (some (vI (v_X1_laceRow I p))) I L) := by
  refine aw_entry (by decide) (Nat.le_of_ble_eq_true rfl) (fun k hk (X : zX k g cX1_laceRow RX1 1 (some .int) 1) E => ?_)
  show AW k g 1 I L 0 [(0, vR p)] []
  subst hk
  have hJ : ∀ w1 : Int32, w1 = (jrem (I p 2) 4) → zp (some (vI (v_X1_laceRow I p))) I L (some (vI w1)) I L := fun w1 e1 => ⟨by rw [e1]; rfl, rfl, rfl⟩
  refine aw_aload_n X 0 dX1_laceRow_0 rfl ?_
  refine aw_getI X zf_RX1_18 rfl hp dX1_laceRow_1 ?_
  refine aw_iconst (v := 4) X dX1_laceRow_4 (by decide) ?_
  refine aw_irem X dX1_laceRow_5 (by decide) ?_
  exact aw_iret X E rfl dX1_laceRow_6 (hJ _ rfl)
def v_X1_patternWith (I : zI) (p : Nat) (a1 : Int32) : Int32 := if (I p 0) = 5 then a1 ||| (jshl 15 (4 * (v_X1_laceRow I p))) else if (I p 0) = 6 then a1 &&& 4095 else a1
set_option maxRecDepth 100000 in
theorem p_X1_patternWith {l : Launch} {g : zG} {I : zI} {L : zL} {p : Nat} {a1 : Int32} (hp : zsh p = (11, 6)) : Call l g 2 M_X1_patternWith [vR p, vI a1] I L (zp (some (vI (v_X1_patternWith I p a1))) I L) := by
  refine aw_entry (by decide) (Nat.le_of_ble_eq_true rfl) (fun k hk (X : zX k g cX1_patternWith RX1 2 (some .int) 2) E => ?_)
  show AW k g 2 I L 0 [(0, vR p), (1, vI a1)] []
  subst hk
  have hJ : ∀ w1 : Int32, w1 = (if (I p 0) = 5 then a1 ||| (jshl 15 (4 * (v_X1_laceRow I p))) else if (I p 0) = 6 then a1 &&& 4095 else a1) → zp (some (vI (v_X1_patternWith I p a1))) I L (some (vI w1)) I L := fun w1 e1 => ⟨by rw [e1]; rfl, rfl, rfl⟩
  refine aw_aload_n X 0 dX1_patternWith_0 rfl ?_
  refine aw_getI X zf_RX1_9 rfl hp dX1_patternWith_1 ?_
  refine aw_iconst (v := 5) X dX1_patternWith_4 (by decide) ?_
  refine aw_icmp_ne X 20 dX1_patternWith_5 rfl (fun c1 => ?_) (fun c1 => ?_)
  · refine aw_aload_n X 0 dX1_patternWith_20 rfl ?_
    refine aw_getI X zf_RX1_9 rfl hp dX1_patternWith_21 ?_
    refine aw_bipush (v := 6) X dX1_patternWith_24 (by decide) ?_
    have hJ3 : ∀ (w1 : Int32), w1 = (if (I p 0) = 6 then a1 &&& 4095 else a1) → AW k g 2 I L 38 [] [vI w1] := by
      intro w1 q1
      subst q1
      exact aw_iret X E rfl dX1_patternWith_38 (hJ _ (if_neg c1).symm)
    refine aw_icmp_ne X 37 dX1_patternWith_26 rfl (fun c2 => ?_) (fun c2 => ?_)
    · refine aw_iload_n X 1 dX1_patternWith_37 rfl ?_
      refine aw_perm (ks9 := []) [] rfl ?_
      exact hJ3 _ (if_neg c2).symm
    · refine aw_iload_n X 1 dX1_patternWith_29 rfl ?_
      refine aw_sipush (v := 4095) X dX1_patternWith_30 (by decide) ?_
      refine aw_iand X dX1_patternWith_33 ?_
      refine aw_goto X 38 dX1_patternWith_34 rfl ?_
      refine aw_perm (ks9 := []) [] rfl ?_
      exact hJ3 _ (if_pos c2).symm
  · refine aw_iload_n X 1 dX1_patternWith_8 rfl ?_
    refine aw_bipush (v := 15) X dX1_patternWith_9 (by decide) ?_
    refine aw_iconst (v := 4) X dX1_patternWith_11 (by decide) ?_
    refine aw_aload_n X 0 dX1_patternWith_12 rfl ?_
    refine aw_pV X (as := []) mf_X1_laceRow zw_596 (p_X1_laceRow hp) hp rfl rfl (by decide) (Nat.le_of_ble_eq_true rfl) dX1_patternWith_13 ?_
    refine aw_imul X dX1_patternWith_16 ?_
    refine aw_ishl X dX1_patternWith_17 ?_
    refine aw_ior X dX1_patternWith_18 ?_
    exact aw_iret X E rfl dX1_patternWith_19 (hJ _ (if_pos c1).symm)
set_option maxRecDepth 100000 in
theorem s_X1_freezeWith_18 {k : zK} {g : zG} {Q : Option zv → zI → zL → Prop} {I : zI} {L : zL} {p : Nat} {y3 : Int32} {y4 : Int32} {y5 : Int32} {y6 : Int32} (hp : zsh p = (11, 6)) (X : zX k g cX1_freezeWith RX1 7 none 3) (E : zE k g Q) (h : if y6 < 16 then (vp_in y6 16 ∧ (AW k g 7 (zs I (p + 1) y6.toNatClampNeg (v_X1_freshIce I p y6 y4 y5 y3)) L 18 [(0, vR p), (3, vI y3), (4, vI y4), (5, vI y5), (6, vI (y6 + 1))] [])) else (Q none I L)) : AW k g 7 I L 18 [(0, vR p), (3, vI y3), (4, vI y4), (5, vI y5), (6, vI y6)] [] := by
  refine aw_iload X 4 dX1_freezeWith_18 rfl ?_
  refine aw_aload_n X 0 dX1_freezeWith_20 rfl ?_
  refine aw_getR X zf_RX1_27 rfl hp (zL1 hp).1 dX1_freezeWith_21 ?_
  refine aw_alen (v := 16) X (zL1 hp).2 (by decide) (by decide) dX1_freezeWith_24 ?_
  refine aw_icmp_gen X 52 dX1_freezeWith_25 rfl (fun c1 => ?_) (fun c1 => ?_)
  · replace h := zifp c1 h
    refine aw_aload_n X 0 dX1_freezeWith_28 rfl ?_
    refine aw_getR X zf_RX1_27 rfl hp (zL1 hp).1 dX1_freezeWith_29 ?_
    refine aw_iload X 4 dX1_freezeWith_32 rfl ?_
    refine aw_aload_n X 0 dX1_freezeWith_34 rfl ?_
    refine aw_iload X 4 dX1_freezeWith_35 rfl ?_
    refine aw_iload X 2 dX1_freezeWith_37 rfl ?_
    refine aw_iload X 3 dX1_freezeWith_39 rfl ?_
    refine aw_iload_n X 1 dX1_freezeWith_41 rfl ?_
    refine aw_pV X (as := [vI y6, vI y4, vI y5, vI y3]) mf_X1_freshIce zw_603 (p_X1_freshIce hp) hp rfl rfl (by decide) (Nat.le_of_ble_eq_true rfl) dX1_freezeWith_42 ?_
    have n2 := h.1
    replace h := h.2
    refine aw_iastj (j := y6.toNatClampNeg) X (zL1 hp).2 n2 rfl dX1_freezeWith_45 ?_
    refine aw_iinc (v := y6 + 1) X 4 dX1_freezeWith_46 rfl rfl (by decide) rfl ?_
    refine aw_goto X 18 dX1_freezeWith_49 rfl ?_
    refine aw_perm (ks9 := [(0, vR p), (3, vI y3), (4, vI y4), (5, vI y5), (6, vI (y6 + 1))]) [1, 2, 3, 4, 0] rfl ?_
    exact h
  · replace h := zifn c1 h
    exact aw_vret X E rfl dX1_freezeWith_52 h
set_option maxRecDepth 100000 in
theorem m_X1_freezeWith {l : Launch} {g : zG} {Q : Option zv → zI → zL → Prop} {I : zI} {L : zL} {p : Nat} {a1 : Int32} {a2 : Int32} {a3 : Int32} (hp : zsh p = (11, 6)) (h : ∀ k : zK, kl k = l → zX k g cX1_freezeWith RX1 7 none 3 → zE k g Q → (AW k g 7 I L 18 [(0, vR p), (3, vI a3), (4, vI (v_X1_patternWith I p a1)), (5, vI (jmin a2 20)), (6, vI 0)] [])) : Call l g 3 M_X1_freezeWith [vR p, vI a1, vI a2, vI a3] I L Q := by
  refine aw_entry (by decide) (Nat.le_of_ble_eq_true rfl) (fun k hk (X : zX k g cX1_freezeWith RX1 7 none 3) E => ?_)
  show AW k g 7 I L 0 [(0, vR p), (1, vI a1), (2, vI a2), (3, vI a3)] []
  replace h := h k hk X E
  subst hk
  refine aw_aload_n X 0 dX1_freezeWith_0 rfl ?_
  refine aw_iload_n X 1 dX1_freezeWith_1 rfl ?_
  refine aw_pV X (as := [vI a1]) mf_X1_patternWith zw_592 (p_X1_patternWith hp) hp rfl rfl (by decide) (Nat.le_of_ble_eq_true rfl) dX1_freezeWith_2 ?_
  refine aw_istore X dX1_freezeWith_5 (by decide) rfl ?_
  refine aw_iload_n X 3 dX1_freezeWith_7 rfl ?_
  refine aw_bipush (v := 20) X dX1_freezeWith_8 (by decide) ?_
  refine aw_min X (by decide) (Nat.le_of_ble_eq_true rfl) ⟨zw_600, zw_601, zw_30, zw_602⟩ dX1_freezeWith_10 ?_
  refine aw_istore X dX1_freezeWith_13 (by decide) rfl ?_
  refine aw_iconst (v := 0) X dX1_freezeWith_15 (by decide) ?_
  refine aw_istore X dX1_freezeWith_16 (by decide) rfl ?_
  refine aw_perm (ks9 := [(0, vR p), (3, vI a3), (4, vI (v_X1_patternWith I p a1)), (5, vI (jmin a2 20)), (6, vI 0)]) [3, 6, 2, 1, 0] rfl ?_
  exact h
set_option maxRecDepth 100000 in
theorem s_X1_meltBy_29 {k : zK} {g : zG} {Q : Option zv → zI → zL → Prop} {I : zI} {L : zL} {p : Nat} {y1 : Int32} {y3 : Int32} {y4 : Int32} (hp : zsh p = (11, 6)) (X : zX k g cX1_meltBy RX1 6 none 2) (E : zE k g Q) (h : if y4 < 16 then (vp_in y4 16 ∧ (AW k g 6 (zs I (p + 1) y4.toNatClampNeg (jmax ((I (p + 1) y4.toNatClampNeg) - (if (v_X1_hasCell y3 y4) = 0 then y1 + 1 else y1)) 0)) L 29 [(0, vR p), (1, vI y1), (3, vI y3), (4, vI (y4 + 1))] [])) else (Q none I L)) : AW k g 6 I L 29 [(0, vR p), (1, vI y1), (3, vI y3), (4, vI y4)] [] := by
  refine aw_iload X 3 dX1_meltBy_29 rfl ?_
  refine aw_aload_n X 0 dX1_meltBy_31 rfl ?_
  refine aw_getR X zf_RX1_27 rfl hp (zL1 hp).1 dX1_meltBy_32 ?_
  refine aw_alen (v := 16) X (zL1 hp).2 (by decide) (by decide) dX1_meltBy_35 ?_
  refine aw_icmp_gen X 84 dX1_meltBy_36 rfl (fun c1 => ?_) (fun c1 => ?_)
  · replace h := zifp c1 h
    refine aw_iload_n X 2 dX1_meltBy_39 rfl ?_
    refine aw_iload X 3 dX1_meltBy_40 rfl ?_
    refine aw_pS X (as := [vI y3, vI y4]) mf_X1_hasCell zw_607 (p_X1_hasCell) rfl rfl (by decide) (Nat.le_of_ble_eq_true rfl) dX1_meltBy_42 ?_
    have hJ3 : ∀ (w1 : Int32), w1 = (if (v_X1_hasCell y3 y4) = 0 then y1 + 1 else y1) → AW k g 6 I L 55 [(0, vR p), (1, vI y1), (3, vI y3), (4, vI y4)] [vI w1] := by
      intro w1 q1
      subst q1
      refine aw_istore X dX1_meltBy_55 (by decide) rfl ?_
      refine aw_aload_n X 1 dX1_meltBy_57 rfl ?_
      refine aw_getR X zf_RX1_27 rfl hp (zL1 hp).1 dX1_meltBy_58 ?_
      refine aw_iload X 4 dX1_meltBy_61 rfl ?_
      refine aw_aload_n X 1 dX1_meltBy_63 rfl ?_
      refine aw_getR X zf_RX1_27 rfl hp (zL1 hp).1 dX1_meltBy_64 ?_
      refine aw_iload X 4 dX1_meltBy_67 rfl ?_
      have n4 := h.1
      replace h := h.2
      refine aw_ialdj (j := y4.toNatClampNeg) X (zL1 hp).2 n4 rfl dX1_meltBy_69 ?_
      refine aw_iload X 0 dX1_meltBy_70 rfl ?_
      refine aw_isub X dX1_meltBy_72 ?_
      refine aw_iconst (v := 0) X dX1_meltBy_73 (by decide) ?_
      refine aw_max X (by decide) (Nat.le_of_ble_eq_true rfl) ⟨zw_385, zw_386, zw_30, zw_387⟩ dX1_meltBy_74 ?_
      refine aw_iastj (j := y4.toNatClampNeg) X (zL1 hp).2 n4 rfl dX1_meltBy_77 ?_
      refine aw_iinc (v := y4 + 1) X 4 dX1_meltBy_78 rfl rfl (by decide) rfl ?_
      refine aw_goto X 29 dX1_meltBy_81 rfl ?_
      refine aw_perm (ks9 := [(0, vR p), (1, vI y1), (3, vI y3), (4, vI (y4 + 1))]) [2, 3, 4, 0] rfl ?_
      exact h
    refine aw_if_eq X 52 dX1_meltBy_45 rfl (fun c2 => ?_) (fun c2 => ?_)
    · refine aw_iload_n X 1 dX1_meltBy_52 rfl ?_
      refine aw_iconst (v := 1) X dX1_meltBy_53 (by decide) ?_
      refine aw_iadd X dX1_meltBy_54 ?_
      refine aw_perm (ks9 := [(0, vR p), (1, vI y1), (3, vI y3), (4, vI y4)]) [0, 1, 2, 3] rfl ?_
      exact hJ3 _ (if_pos c2).symm
    · refine aw_iload_n X 1 dX1_meltBy_48 rfl ?_
      refine aw_goto X 55 dX1_meltBy_49 rfl ?_
      refine aw_perm (ks9 := [(0, vR p), (1, vI y1), (3, vI y3), (4, vI y4)]) [0, 1, 2, 3] rfl ?_
      exact hJ3 _ (if_neg c2).symm
  · replace h := zifn c1 h
    exact aw_vret X E rfl dX1_meltBy_84 h
set_option maxRecDepth 100000 in
theorem m_X1_meltBy {l : Launch} {g : zG} {Q : Option zv → zI → zL → Prop} {I : zI} {L : zL} {p : Nat} {a1 : Int32} (hp : zsh p = (11, 6)) (h : ∀ k : zK, kl k = l → zX k g cX1_meltBy RX1 6 none 2 → zE k g Q → (if 0 < a1 then (if (v_X1_frosted I p) = 0 then (Q none I L) else (AW k g 6 I L 29 [(0, vR p), (1, vI a1), (3, vI (((jshl (v_X1_frosted I p) 1) &&& (jshr (v_X1_frosted I p) 1)) &&& 26214)), (4, vI 0)] [])) else (Q none I L))) : Call l g 2 M_X1_meltBy [vR p, vI a1] I L Q := by
  refine aw_entry (by decide) (Nat.le_of_ble_eq_true rfl) (fun k hk (X : zX k g cX1_meltBy RX1 6 none 2) E => ?_)
  show AW k g 6 I L 0 [(0, vR p), (1, vI a1)] []
  replace h := h k hk X E
  subst hk
  refine aw_aload_n X 0 dX1_meltBy_0 rfl ?_
  refine aw_pV X (as := []) mf_X1_frosted zw_629 (p_X1_frosted hp) hp rfl rfl (by decide) (Nat.le_of_ble_eq_true rfl) dX1_meltBy_1 ?_
  refine aw_istore_n X dX1_meltBy_4 (by decide) rfl ?_
  refine aw_iload_n X 2 dX1_meltBy_5 rfl ?_
  refine aw_if_len X 13 dX1_meltBy_6 rfl (fun c1 => ?_) (fun c1 => ?_)
  · replace h := zifp c1 h
    refine aw_iload_n X 0 dX1_meltBy_9 rfl ?_
    refine aw_if_ne X 14 dX1_meltBy_10 rfl (fun c2 => ?_) (fun c2 => ?_)
    · replace h := zifn c2 h
      refine aw_iload_n X 0 dX1_meltBy_14 rfl ?_
      refine aw_iconst (v := 1) X dX1_meltBy_15 (by decide) ?_
      refine aw_ishl X dX1_meltBy_16 ?_
      refine aw_iload_n X 0 dX1_meltBy_17 rfl ?_
      refine aw_iconst (v := 1) X dX1_meltBy_18 (by decide) ?_
      refine aw_ishr X dX1_meltBy_19 ?_
      refine aw_iand X dX1_meltBy_20 ?_
      refine aw_sipush (v := 26214) X dX1_meltBy_21 (by decide) ?_
      refine aw_iand X dX1_meltBy_24 ?_
      refine aw_istore_n X dX1_meltBy_25 (by decide) rfl ?_
      refine aw_iconst (v := 0) X dX1_meltBy_26 (by decide) ?_
      refine aw_istore X dX1_meltBy_27 (by decide) rfl ?_
      refine aw_perm (ks9 := [(0, vR p), (1, vI a1), (3, vI (((jshl (v_X1_frosted I p) 1) &&& (jshr (v_X1_frosted I p) 1)) &&& 26214)), (4, vI 0)]) [3, 4, 1, 0] rfl ?_
      exact h
    · replace h := zifp c2 h
      exact aw_vret X E rfl dX1_meltBy_13 h
  · replace h := zifn c1 h
    exact aw_vret X E rfl dX1_meltBy_13 h
def v_X1_melting (I : zI) (p : Nat) (a1 : Int32) (a2 : Int32) : Int32 := if (I p 0) = 4 then if a1 < (I p 2) then if (v_X1_isOf I p 3) = 0 then a2 + ((I p 1) / 3) else (a2 + (I p 1)) else ((if (v_X1_isOf I p 3) = 0 then a2 + ((I p 1) / 3) else (a2 + (I p 1))) + 3) else if (v_X1_isOf I p 3) = 0 then a2 + ((I p 1) / 3) else (a2 + (I p 1))
set_option maxRecDepth 100000 in
theorem p_X1_melting {l : Launch} {g : zG} {I : zI} {L : zL} {p : Nat} {a1 : Int32} {a2 : Int32} (hp : zsh p = (11, 6)) : Call l g 2 M_X1_melting [vR p, vI a1, vI a2] I L (zp (some (vI (v_X1_melting I p a1 a2))) I L) := by
  refine aw_entry (by decide) (Nat.le_of_ble_eq_true rfl) (fun k hk (X : zX k g cX1_melting RX1 4 (some .int) 2) E => ?_)
  show AW k g 4 I L 0 [(0, vR p), (1, vI a1), (2, vI a2)] []
  subst hk
  have hJ : ∀ w1 : Int32, w1 = (if (I p 0) = 4 then if a1 < (I p 2) then if (v_X1_isOf I p 3) = 0 then a2 + ((I p 1) / 3) else (a2 + (I p 1)) else ((if (v_X1_isOf I p 3) = 0 then a2 + ((I p 1) / 3) else (a2 + (I p 1))) + 3) else if (v_X1_isOf I p 3) = 0 then a2 + ((I p 1) / 3) else (a2 + (I p 1))) → zp (some (vI (v_X1_melting I p a1 a2))) I L (some (vI w1)) I L := fun w1 e1 => ⟨by rw [e1]; rfl, rfl, rfl⟩
  refine aw_aload_n X 0 dX1_melting_0 rfl ?_
  refine aw_iconst (v := 3) X dX1_melting_1 (by decide) ?_
  refine aw_pV X (as := [vI 3]) mf_X1_isOf zw_381 (p_X1_isOf hp) hp rfl rfl (by decide) (Nat.le_of_ble_eq_true rfl) dX1_melting_2 ?_
  have hJ5 : ∀ (w1 : Int32), w1 = (if (v_X1_isOf I p 3) = 0 then a2 + ((I p 1) / 3) else (a2 + (I p 1))) → AW k g 4 I L 25 [(0, vR p), (1, vI a1)] [vI w1] := by
    intro w1 q1
    subst q1
    refine aw_istore_n X dX1_melting_25 (by decide) rfl ?_
    refine aw_aload_n X 1 dX1_melting_26 rfl ?_
    refine aw_getI X zf_RX1_9 rfl hp dX1_melting_27 ?_
    refine aw_iconst (v := 4) X dX1_melting_30 (by decide) ?_
    have hJ4 : ∀ (w1 : Int32), w1 = (if (I p 0) = 4 then if a1 < (I p 2) then if (v_X1_isOf I p 3) = 0 then a2 + ((I p 1) / 3) else (a2 + (I p 1)) else ((if (v_X1_isOf I p 3) = 0 then a2 + ((I p 1) / 3) else (a2 + (I p 1))) + 3) else if (v_X1_isOf I p 3) = 0 then a2 + ((I p 1) / 3) else (a2 + (I p 1))) → AW k g 4 I L 49 [] [vI w1] := by
      intro w1 q1
      subst q1
      exact aw_iret X E rfl dX1_melting_49 (hJ _ rfl)
    refine aw_icmp_ne X 48 dX1_melting_31 rfl (fun c2 => ?_) (fun c2 => ?_)
    · refine aw_iload_n X 0 dX1_melting_48 rfl ?_
      refine aw_perm (ks9 := []) [] rfl ?_
      exact hJ4 _ (if_neg c2).symm
    · refine aw_iload_n X 2 dX1_melting_34 rfl ?_
      refine aw_aload_n X 1 dX1_melting_35 rfl ?_
      refine aw_getI X zf_RX1_18 rfl hp dX1_melting_36 ?_
      refine aw_icmp_lt X 48 dX1_melting_39 rfl (fun c3 => ?_) (fun c3 => ?_)
      · refine aw_iload_n X 0 dX1_melting_48 rfl ?_
        refine aw_perm (ks9 := []) [] rfl ?_
        exact hJ4 _ ((if_pos c3).symm.trans (if_pos c2).symm)
      · refine aw_iload_n X 0 dX1_melting_42 rfl ?_
        refine aw_iconst (v := 3) X dX1_melting_43 (by decide) ?_
        refine aw_iadd X dX1_melting_44 ?_
        refine aw_goto X 49 dX1_melting_45 rfl ?_
        refine aw_perm (ks9 := []) [] rfl ?_
        exact hJ4 _ ((if_neg c3).symm.trans (if_pos c2).symm)
  refine aw_if_eq X 17 dX1_melting_5 rfl (fun c1 => ?_) (fun c1 => ?_)
  · refine aw_iload_n X 2 dX1_melting_17 rfl ?_
    refine aw_aload_n X 0 dX1_melting_18 rfl ?_
    refine aw_getI X zf_RX1_15 rfl hp dX1_melting_19 ?_
    refine aw_iconst (v := 3) X dX1_melting_22 (by decide) ?_
    refine aw_idiv X dX1_melting_23 (by decide) ?_
    refine aw_iadd X dX1_melting_24 ?_
    refine aw_perm (ks9 := [(0, vR p), (1, vI a1)]) [0, 1] rfl ?_
    exact hJ5 _ (if_pos c1).symm
  · refine aw_iload_n X 2 dX1_melting_8 rfl ?_
    refine aw_aload_n X 0 dX1_melting_9 rfl ?_
    refine aw_getI X zf_RX1_15 rfl hp dX1_melting_10 ?_
    refine aw_iadd X dX1_melting_13 ?_
    refine aw_goto X 25 dX1_melting_14 rfl ?_
    refine aw_perm (ks9 := [(0, vR p), (1, vI a1)]) [0, 1] rfl ?_
    exact hJ5 _ (if_neg c1).symm
def v_X1_countedCold (I : zI) (p : Nat) (a1 : Int32) : Int32 := if (v_X1_isOf I p 2) = 0 then a1 else (jmax (a1 - (I p 2)) 0)
set_option maxRecDepth 100000 in
theorem p_X1_countedCold {l : Launch} {g : zG} {I : zI} {L : zL} {p : Nat} {a1 : Int32} (hp : zsh p = (11, 6)) : Call l g 2 M_X1_countedCold [vR p, vI a1] I L (zp (some (vI (v_X1_countedCold I p a1))) I L) := by
  refine aw_entry (by decide) (Nat.le_of_ble_eq_true rfl) (fun k hk (X : zX k g cX1_countedCold RX1 2 (some .int) 2) E => ?_)
  show AW k g 2 I L 0 [(0, vR p), (1, vI a1)] []
  subst hk
  have hJ : ∀ w1 : Int32, w1 = (if (v_X1_isOf I p 2) = 0 then a1 else (jmax (a1 - (I p 2)) 0)) → zp (some (vI (v_X1_countedCold I p a1))) I L (some (vI w1)) I L := fun w1 e1 => ⟨by rw [e1]; rfl, rfl, rfl⟩
  refine aw_aload_n X 0 dX1_countedCold_0 rfl ?_
  refine aw_iconst (v := 2) X dX1_countedCold_1 (by decide) ?_
  refine aw_pV X (as := [vI 2]) mf_X1_isOf zw_381 (p_X1_isOf hp) hp rfl rfl (by decide) (Nat.le_of_ble_eq_true rfl) dX1_countedCold_2 ?_
  have hJ2 : ∀ (w1 : Int32), w1 = (if (v_X1_isOf I p 2) = 0 then a1 else (jmax (a1 - (I p 2)) 0)) → AW k g 2 I L 22 [] [vI w1] := by
    intro w1 q1
    subst q1
    exact aw_iret X E rfl dX1_countedCold_22 (hJ _ rfl)
  refine aw_if_eq X 21 dX1_countedCold_5 rfl (fun c1 => ?_) (fun c1 => ?_)
  · refine aw_iload_n X 1 dX1_countedCold_21 rfl ?_
    refine aw_perm (ks9 := []) [] rfl ?_
    exact hJ2 _ (if_pos c1).symm
  · refine aw_iload_n X 1 dX1_countedCold_8 rfl ?_
    refine aw_aload_n X 0 dX1_countedCold_9 rfl ?_
    refine aw_getI X zf_RX1_18 rfl hp dX1_countedCold_10 ?_
    refine aw_isub X dX1_countedCold_13 ?_
    refine aw_iconst (v := 0) X dX1_countedCold_14 (by decide) ?_
    refine aw_max X (by decide) (Nat.le_of_ble_eq_true rfl) ⟨zw_385, zw_386, zw_30, zw_387⟩ dX1_countedCold_15 ?_
    refine aw_goto X 22 dX1_countedCold_18 rfl ?_
    refine aw_perm (ks9 := []) [] rfl ?_
    exact hJ2 _ (if_neg c1).symm
def v_X1_sharpness (I : zI) (p : Nat) (a1 : Int32) (a2 : Int32) : Int32 := if (v_X1_isOf I p 1) = 0 then ((v_X1_countedCold I p a1) * a2) / 20 else if (((v_X1_countedCold I p a1) * a2) / 20) < 1 then ((v_X1_countedCold I p a1) * a2) / 20 else ((((v_X1_countedCold I p a1) * a2) / 20) + (I p 2))
set_option maxRecDepth 100000 in
theorem p_X1_sharpness {l : Launch} {g : zG} {I : zI} {L : zL} {p : Nat} {a1 : Int32} {a2 : Int32} (hp : zsh p = (11, 6)) : Call l g 3 M_X1_sharpness [vR p, vI a1, vI a2] I L (zp (some (vI (v_X1_sharpness I p a1 a2))) I L) := by
  refine aw_entry (by decide) (Nat.le_of_ble_eq_true rfl) (fun k hk (X : zX k g cX1_sharpness RX1 4 (some .int) 3) E => ?_)
  show AW k g 4 I L 0 [(0, vR p), (1, vI a1), (2, vI a2)] []
  subst hk
  have hJ : ∀ w1 : Int32, w1 = (if (v_X1_isOf I p 1) = 0 then ((v_X1_countedCold I p a1) * a2) / 20 else if (((v_X1_countedCold I p a1) * a2) / 20) < 1 then ((v_X1_countedCold I p a1) * a2) / 20 else ((((v_X1_countedCold I p a1) * a2) / 20) + (I p 2))) → zp (some (vI (v_X1_sharpness I p a1 a2))) I L (some (vI w1)) I L := fun w1 e1 => ⟨by rw [e1]; rfl, rfl, rfl⟩
  refine aw_aload_n X 0 dX1_sharpness_0 rfl ?_
  refine aw_iload_n X 1 dX1_sharpness_1 rfl ?_
  refine aw_pV X (as := [vI a1]) mf_X1_countedCold zw_377 (p_X1_countedCold hp) hp rfl rfl (by decide) (Nat.le_of_ble_eq_true rfl) dX1_sharpness_2 ?_
  refine aw_iload_n X 2 dX1_sharpness_5 rfl ?_
  refine aw_imul X dX1_sharpness_6 ?_
  refine aw_bipush (v := 20) X dX1_sharpness_7 (by decide) ?_
  refine aw_idiv X dX1_sharpness_9 (by decide) ?_
  refine aw_istore_n X dX1_sharpness_10 (by decide) rfl ?_
  refine aw_aload_n X 1 dX1_sharpness_11 rfl ?_
  refine aw_iconst (v := 1) X dX1_sharpness_12 (by decide) ?_
  refine aw_pV X (as := [vI 1]) mf_X1_isOf zw_381 (p_X1_isOf hp) hp rfl rfl (by decide) (Nat.le_of_ble_eq_true rfl) dX1_sharpness_13 ?_
  have hJ3 : ∀ (w1 : Int32), w1 = (if (v_X1_isOf I p 1) = 0 then ((v_X1_countedCold I p a1) * a2) / 20 else if (((v_X1_countedCold I p a1) * a2) / 20) < 1 then ((v_X1_countedCold I p a1) * a2) / 20 else ((((v_X1_countedCold I p a1) * a2) / 20) + (I p 2))) → AW k g 4 I L 34 [] [vI w1] := by
    intro w1 q1
    subst q1
    exact aw_iret X E rfl dX1_sharpness_34 (hJ _ rfl)
  refine aw_if_eq X 33 dX1_sharpness_16 rfl (fun c1 => ?_) (fun c1 => ?_)
  · refine aw_iload_n X 0 dX1_sharpness_33 rfl ?_
    refine aw_perm (ks9 := []) [] rfl ?_
    exact hJ3 _ (if_pos c1).symm
  · refine aw_iload_n X 0 dX1_sharpness_19 rfl ?_
    refine aw_iconst (v := 1) X dX1_sharpness_20 (by decide) ?_
    refine aw_icmp_lt X 33 dX1_sharpness_21 rfl (fun c2 => ?_) (fun c2 => ?_)
    · refine aw_iload_n X 0 dX1_sharpness_33 rfl ?_
      refine aw_perm (ks9 := []) [] rfl ?_
      exact hJ3 _ ((if_pos c2).symm.trans (if_neg c1).symm)
    · refine aw_iload_n X 0 dX1_sharpness_24 rfl ?_
      refine aw_aload_n X 1 dX1_sharpness_25 rfl ?_
      refine aw_getI X zf_RX1_18 rfl hp dX1_sharpness_26 ?_
      refine aw_iadd X dX1_sharpness_29 ?_
      refine aw_goto X 34 dX1_sharpness_30 rfl ?_
      refine aw_perm (ks9 := []) [] rfl ?_
      exact hJ3 _ ((if_neg c2).symm.trans (if_neg c1).symm)
set_option maxRecDepth 100000 in
theorem m_X1_takeGlass {l : Launch} {g : zG} {Q : Option zv → zI → zL → Prop} {I : zI} {L : zL} {p : Nat} {a1 : Nat} (hp : zsh p = (11, 6)) (h : zsh a1 = (11, 6) ∧ ((∀ I2 : zI, I2 = (zs I p 0 (I a1 0)) → (∀ I3 : zI, I3 = (zs I2 p 1 (I2 a1 1)) → (∀ I4 : zI, I4 = (zs I3 p 2 (I3 a1 2)) → (∀ I5 : zI, I5 = (zs I4 p 3 (I4 a1 3)) → Q none (zs I5 p 4 (I5 a1 4)) L)))))) : Call l g 1 M_X1_takeGlass [vR p, vR a1] I L Q := by
  refine aw_entry (by decide) (Nat.le_of_ble_eq_true rfl) (fun k hk (X : zX k g cX1_takeGlass RX1 2 none 1) E => ?_)
  show AW k g 2 I L 0 [(0, vR p), (1, vR a1)] []
  subst hk
  refine aw_aload_n X 0 dX1_takeGlass_0 rfl ?_
  refine aw_aload_n X 1 dX1_takeGlass_1 rfl ?_
  have n1 := h.1
  replace h := h.2
  refine aw_getI X zf_RX1_9 rfl n1 dX1_takeGlass_2 ?_
  refine aw_putI X zf_RX1_9 rfl rfl rfl hp dX1_takeGlass_5 ?_
  refine aw_aload_n X 0 dX1_takeGlass_8 rfl ?_
  refine aw_aload_n X 1 dX1_takeGlass_9 rfl ?_
  refine aw_nameI (fun I2 e2 => ?_)
  replace h := h I2 e2
  refine aw_getI X zf_RX1_15 rfl n1 dX1_takeGlass_10 ?_
  refine aw_putI X zf_RX1_15 rfl rfl rfl hp dX1_takeGlass_13 ?_
  refine aw_aload_n X 0 dX1_takeGlass_16 rfl ?_
  refine aw_aload_n X 1 dX1_takeGlass_17 rfl ?_
  refine aw_nameI (fun I3 e3 => ?_)
  replace h := h I3 e3
  refine aw_getI X zf_RX1_18 rfl n1 dX1_takeGlass_18 ?_
  refine aw_putI X zf_RX1_18 rfl rfl rfl hp dX1_takeGlass_21 ?_
  refine aw_aload_n X 0 dX1_takeGlass_24 rfl ?_
  refine aw_aload_n X 1 dX1_takeGlass_25 rfl ?_
  refine aw_nameI (fun I4 e4 => ?_)
  replace h := h I4 e4
  refine aw_getI X zf_RX1_21 rfl n1 dX1_takeGlass_26 ?_
  refine aw_putI X zf_RX1_21 rfl rfl rfl hp dX1_takeGlass_29 ?_
  refine aw_aload_n X 0 dX1_takeGlass_32 rfl ?_
  refine aw_aload_n X 1 dX1_takeGlass_33 rfl ?_
  refine aw_nameI (fun I5 e5 => ?_)
  replace h := h I5 e5
  refine aw_getI X zf_RX1_24 rfl n1 dX1_takeGlass_34 ?_
  refine aw_putI X zf_RX1_24 rfl rfl rfl hp dX1_takeGlass_37 ?_
  exact aw_vret X E rfl dX1_takeGlass_40 h
set_option maxRecDepth 100000 in
theorem s_X1_breatheOn_22 {k : zK} {g : zG} {Q : Option zv → zI → zL → Prop} {I : zI} {L : zL} {p : Nat} {y2 : Int32} {y3 : Int32} {y4 : Int32} (hp : zsh p = (11, 6)) (X : zX k g cX1_breatheOn RX1 5 (some .int) 2) (E : zE k g Q) (h : if y4 < 16 then (if (v_X1_hasCell y2 y4) = 0 then (AW k g 5 I L 22 [(0, vR p), (2, vI y2), (3, vI y3), (4, vI (y4 + 1))] []) else (vp_in y4 16 ∧ (AW k g 5 (zs I (p + 1) y4.toNatClampNeg 0) L 22 [(0, vR p), (2, vI y2), (3, vI y3), (4, vI (y4 + 1))] []))) else (Q (some (vI y3)) I L)) : AW k g 5 I L 22 [(0, vR p), (2, vI y2), (3, vI y3), (4, vI y4)] [] := by
  refine aw_iload X 3 dX1_breatheOn_22 rfl ?_
  refine aw_aload_n X 0 dX1_breatheOn_24 rfl ?_
  refine aw_getR X zf_RX1_27 rfl hp (zL1 hp).1 dX1_breatheOn_25 ?_
  refine aw_alen (v := 16) X (zL1 hp).2 (by decide) (by decide) dX1_breatheOn_28 ?_
  refine aw_icmp_gen X 55 dX1_breatheOn_29 rfl (fun c1 => ?_) (fun c1 => ?_)
  · replace h := zifp c1 h
    refine aw_iload_n X 1 dX1_breatheOn_32 rfl ?_
    refine aw_iload X 3 dX1_breatheOn_33 rfl ?_
    refine aw_pS X (as := [vI y2, vI y4]) mf_X1_hasCell zw_607 (p_X1_hasCell) rfl rfl (by decide) (Nat.le_of_ble_eq_true rfl) dX1_breatheOn_35 ?_
    refine aw_if_eq X 49 dX1_breatheOn_38 rfl (fun c2 => ?_) (fun c2 => ?_)
    · replace h := zifp c2 h
      refine aw_iinc (v := y4 + 1) X 3 dX1_breatheOn_49 rfl rfl (by decide) rfl ?_
      refine aw_goto X 22 dX1_breatheOn_52 rfl ?_
      refine aw_perm (ks9 := [(0, vR p), (2, vI y2), (3, vI y3), (4, vI (y4 + 1))]) [1, 2, 3, 0] rfl ?_
      exact h
    · replace h := zifn c2 h
      refine aw_aload_n X 0 dX1_breatheOn_41 rfl ?_
      refine aw_getR X zf_RX1_27 rfl hp (zL1 hp).1 dX1_breatheOn_42 ?_
      refine aw_iload X 3 dX1_breatheOn_45 rfl ?_
      refine aw_iconst (v := 0) X dX1_breatheOn_47 (by decide) ?_
      have n3 := h.1
      replace h := h.2
      refine aw_iastj (j := y4.toNatClampNeg) X (zL1 hp).2 n3 rfl dX1_breatheOn_48 ?_
      refine aw_iinc (v := y4 + 1) X 3 dX1_breatheOn_49 rfl rfl (by decide) rfl ?_
      refine aw_goto X 22 dX1_breatheOn_52 rfl ?_
      refine aw_perm (ks9 := [(0, vR p), (2, vI y2), (3, vI y3), (4, vI (y4 + 1))]) [1, 2, 3, 0] rfl ?_
      exact h
  · replace h := zifn c1 h
    refine aw_iload_n X 2 dX1_breatheOn_55 rfl ?_
    exact aw_iret X E rfl dX1_breatheOn_56 h
set_option maxRecDepth 100000 in
theorem m_X1_breatheOn {l : Launch} {g : zG} {Q : Option zv → zI → zL → Prop} {I : zI} {L : zL} {p : Nat} {a1 : Int32} (hp : zsh p = (11, 6)) (h : ∀ k : zK, kl k = l → zX k g cX1_breatheOn RX1 5 (some .int) 2 → zE k g Q → (AW k g 5 I L 22 [(0, vR p), (2, vI ((v_X1_cellsBeside a1) ||| (jshl 1 a1))), (3, vI (v_J6_bitCount_0f7a4 ((v_X1_frosted I p) &&& ((v_X1_cellsBeside a1) ||| (jshl 1 a1))))), (4, vI 0)] [])) : Call l g 2 M_X1_breatheOn [vR p, vI a1] I L Q := by
  refine aw_entry (by decide) (Nat.le_of_ble_eq_true rfl) (fun k hk (X : zX k g cX1_breatheOn RX1 5 (some .int) 2) E => ?_)
  show AW k g 5 I L 0 [(0, vR p), (1, vI a1)] []
  replace h := h k hk X E
  subst hk
  refine aw_iload_n X 1 dX1_breatheOn_0 rfl ?_
  refine aw_pS X (as := [vI a1]) mf_X1_cellsBeside zw_610 (p_X1_cellsBeside) rfl rfl (by decide) (Nat.le_of_ble_eq_true rfl) dX1_breatheOn_1 ?_
  refine aw_iconst (v := 1) X dX1_breatheOn_4 (by decide) ?_
  refine aw_iload_n X 1 dX1_breatheOn_5 rfl ?_
  refine aw_ishl X dX1_breatheOn_6 ?_
  refine aw_ior X dX1_breatheOn_7 ?_
  refine aw_istore_n X dX1_breatheOn_8 (by decide) rfl ?_
  refine aw_aload_n X 1 dX1_breatheOn_9 rfl ?_
  refine aw_pV X (as := []) mf_X1_frosted zw_629 (p_X1_frosted hp) hp rfl rfl (by decide) (Nat.le_of_ble_eq_true rfl) dX1_breatheOn_10 ?_
  refine aw_iload_n X 0 dX1_breatheOn_13 rfl ?_
  refine aw_iand X dX1_breatheOn_14 ?_
  refine aw_pS X (as := [vI ((v_X1_frosted I p) &&& ((v_X1_cellsBeside a1) ||| (jshl 1 a1)))]) mf_J6_bitCount_0f7a4 zw_614 (p_J6_bitCount_0f7a4) rfl rfl (by decide) (Nat.le_of_ble_eq_true rfl) dX1_breatheOn_15 ?_
  refine aw_istore_n X dX1_breatheOn_18 (by decide) rfl ?_
  refine aw_iconst (v := 0) X dX1_breatheOn_19 (by decide) ?_
  refine aw_istore X dX1_breatheOn_20 (by decide) rfl ?_
  refine aw_perm (ks9 := [(0, vR p), (2, vI ((v_X1_cellsBeside a1) ||| (jshl 1 a1))), (3, vI (v_J6_bitCount_0f7a4 ((v_X1_frosted I p) &&& ((v_X1_cellsBeside a1) ||| (jshl 1 a1))))), (4, vI 0)]) [3, 2, 1, 0] rfl ?_
  exact h
set_option maxRecDepth 100000 in
theorem s_X1_passHours_3 {k : zK} {g : zG} {Q : Option zv → zI → zL → Prop} {I : zI} {L : zL} {p : Nat} {y2 : Int32} {y3 : Int32} {y4 : Int32} (hp : zsh p = (11, 6)) (X : zX k g cX1_passHours RX1 5 none 3) (E : zE k g Q) (h : if y4 < y2 then (if y4 < 24 then (Call (kl k) g 2 M_X1_meltBy [vR p, vI (v_X1_melting I p y4 y3)] I L (zn fun I3 L3 => AW k g 5 I3 L3 3 [(0, vR p), (2, vI y2), (3, vI y3), (4, vI (y4 + 1))] [])) else (Q none I L)) else (Q none I L)) : AW k g 5 I L 3 [(0, vR p), (2, vI y2), (3, vI y3), (4, vI y4)] [] := by
  refine aw_iload X 3 dX1_passHours_3 rfl ?_
  refine aw_iload_n X 1 dX1_passHours_5 rfl ?_
  refine aw_icmp_gen X 33 dX1_passHours_6 rfl (fun c1 => ?_) (fun c1 => ?_)
  · replace h := zifp c1 h
    refine aw_iload X 3 dX1_passHours_9 rfl ?_
    refine aw_bipush (v := 24) X dX1_passHours_11 (by decide) ?_
    refine aw_icmp_gen X 33 dX1_passHours_13 rfl (fun c2 => ?_) (fun c2 => ?_)
    · replace h := zifp c2 h
      refine aw_aload_n X 0 dX1_passHours_16 rfl ?_
      refine aw_aload_n X 0 dX1_passHours_17 rfl ?_
      refine aw_iload X 3 dX1_passHours_18 rfl ?_
      refine aw_iload_n X 2 dX1_passHours_20 rfl ?_
      refine aw_pV X (as := [vI y4, vI y3]) mf_X1_melting zw_624 (p_X1_melting hp) hp rfl rfl (by decide) (Nat.le_of_ble_eq_true rfl) dX1_passHours_21 ?_
      refine aw_callV X (as := [vI (v_X1_melting I p y4 y3)]) mf_X1_meltBy zw_625 h hp rfl rfl (by decide) (Nat.le_of_ble_eq_true rfl) dX1_passHours_24 (fun v I3 L3 h => ?_)
      obtain ⟨rfl, h⟩ := h
      refine aw_iinc (v := y4 + 1) X 3 dX1_passHours_27 rfl rfl (by decide) rfl ?_
      refine aw_goto X 3 dX1_passHours_30 rfl ?_
      refine aw_perm (ks9 := [(0, vR p), (2, vI y2), (3, vI y3), (4, vI (y4 + 1))]) [1, 2, 3, 0] rfl ?_
      exact h
    · replace h := zifn c2 h
      exact aw_vret X E rfl dX1_passHours_33 h
  · replace h := zifn c1 h
    exact aw_vret X E rfl dX1_passHours_33 h
set_option maxRecDepth 100000 in
theorem m_X1_passHours {l : Launch} {g : zG} {Q : Option zv → zI → zL → Prop} {I : zI} {L : zL} {p : Nat} {a1 : Int32} {a2 : Int32} {a3 : Int32} (hp : zsh p = (11, 6)) (h : ∀ k : zK, kl k = l → zX k g cX1_passHours RX1 5 none 3 → zE k g Q → (AW k g 5 I L 3 [(0, vR p), (2, vI a2), (3, vI a3), (4, vI a1)] [])) : Call l g 3 M_X1_passHours [vR p, vI a1, vI a2, vI a3] I L Q := by
  refine aw_entry (by decide) (Nat.le_of_ble_eq_true rfl) (fun k hk (X : zX k g cX1_passHours RX1 5 none 3) E => ?_)
  show AW k g 5 I L 0 [(0, vR p), (1, vI a1), (2, vI a2), (3, vI a3)] []
  replace h := h k hk X E
  subst hk
  refine aw_iload_n X 1 dX1_passHours_0 rfl ?_
  refine aw_istore X dX1_passHours_1 (by decide) rfl ?_
  refine aw_perm (ks9 := [(0, vR p), (2, vI a2), (3, vI a3), (4, vI a1)]) [1, 3, 4, 0] rfl ?_
  exact h
def v_X3_elementAt (I : zI) (L : zL) (p : Nat) (a1 : Int32) : Int64 := if a1 < 0 then 0 else if a1 < (I p 2) then if a1 < 160 then L (p + 1) a1.toNatClampNeg else 0 else 0
set_option maxRecDepth 100000 in
theorem p_X3_elementAt {l : Launch} {g : zG} {I : zI} {L : zL} {p : Nat} {a1 : Int32} (hp : zsh p = (13, 5)) : Call l g 1 M_X3_elementAt [vR p, vI a1] I L (zp (some (vL (v_X3_elementAt I L p a1))) I L) := by
  refine aw_entry (by decide) (Nat.le_of_ble_eq_true rfl) (fun k hk (X : zX k g cX3_elementAt RX3 2 (some .long) 1) E => ?_)
  show AW k g 2 I L 0 [(0, vR p), (1, vI a1)] []
  subst hk
  have hJ : ∀ w1 : Int64, w1 = (if a1 < 0 then 0 else if a1 < (I p 2) then if a1 < 160 then L (p + 1) a1.toNatClampNeg else 0 else 0) → zp (some (vL (v_X3_elementAt I L p a1))) I L (some (vL w1)) I L := fun w1 e1 => ⟨by rw [e1]; rfl, rfl, rfl⟩
  refine aw_iload_n X 1 dX3_elementAt_0 rfl ?_
  have hJ4 : ∀ (w1 : Int64), w1 = (if a1 < 0 then 0 else if a1 < (I p 2) then if a1 < 160 then L (p + 1) a1.toNatClampNeg else 0 else 0) → AW k g 2 I L 31 [] [vL w1] := by
    intro w1 q1
    subst q1
    exact aw_lret X E rfl dX3_elementAt_31 (hJ _ rfl)
  refine aw_if_lt X 30 dX3_elementAt_1 rfl (fun c1 => ?_) (fun c1 => ?_)
  · refine aw_lconst (v := 0) X dX3_elementAt_30 (by decide) ?_
    refine aw_perm (ks9 := []) [] rfl ?_
    exact hJ4 _ (if_pos c1).symm
  · refine aw_iload_n X 1 dX3_elementAt_4 rfl ?_
    refine aw_aload_n X 0 dX3_elementAt_5 rfl ?_
    refine aw_getI X zf_RX3_19 rfl hp dX3_elementAt_6 ?_
    refine aw_icmp_gen X 30 dX3_elementAt_9 rfl (fun c2 => ?_) (fun c2 => ?_)
    · refine aw_iload_n X 1 dX3_elementAt_12 rfl ?_
      refine aw_aload_n X 0 dX3_elementAt_13 rfl ?_
      refine aw_getR X zf_RX3_11 rfl hp (zL3 hp).1 dX3_elementAt_14 ?_
      refine aw_alen (v := 160) X (zL3 hp).2 (by decide) (by decide) dX3_elementAt_17 ?_
      refine aw_icmp_gen X 30 dX3_elementAt_18 rfl (fun c3 => ?_) (fun c3 => ?_)
      · refine aw_aload_n X 0 dX3_elementAt_21 rfl ?_
        refine aw_getR X zf_RX3_11 rfl hp (zL3 hp).1 dX3_elementAt_22 ?_
        refine aw_iload_n X 1 dX3_elementAt_25 rfl ?_
        refine aw_laldj (j := a1.toNatClampNeg) X (zL3 hp).2 (zinof c1 c3 (by decide)) rfl dX3_elementAt_26 ?_
        refine aw_goto X 31 dX3_elementAt_27 rfl ?_
        refine aw_perm (ks9 := []) [] rfl ?_
        exact hJ4 _ (((if_pos c3).symm.trans (if_pos c2).symm).trans (if_neg c1).symm)
      · refine aw_lconst (v := 0) X dX3_elementAt_30 (by decide) ?_
        refine aw_perm (ks9 := []) [] rfl ?_
        exact hJ4 _ (((if_neg c3).symm.trans (if_pos c2).symm).trans (if_neg c1).symm)
    · refine aw_lconst (v := 0) X dX3_elementAt_30 (by decide) ?_
      refine aw_perm (ks9 := []) [] rfl ?_
      exact hJ4 _ ((if_neg c2).symm.trans (if_neg c1).symm)
def v_X4_hasLetterRoom (I : zI) (p : Nat) : Int32 := if (I p 2) < 0 then 0 else if (I p 2) < 8 then 1 else (0 : Int32)
set_option maxRecDepth 100000 in
theorem p_X4_hasLetterRoom {l : Launch} {g : zG} {I : zI} {L : zL} {p : Nat} (hp : zsh p = (14, 10)) : Call l g 1 M_X4_hasLetterRoom [vR p] I L (zp (some (vI (v_X4_hasLetterRoom I p))) I L) := by
  refine aw_entry (by decide) (Nat.le_of_ble_eq_true rfl) (fun k hk (X : zX k g cX4_hasLetterRoom RX4 1 (some .boolean) 1) E => ?_)
  show AW k g 1 I L 0 [(0, vR p)] []
  subst hk
  have hJ : ∀ w1 : Int32, w1 = (if (I p 2) < 0 then 0 else if (I p 2) < 8 then 1 else (0 : Int32)) → zp (some (vI (v_X4_hasLetterRoom I p))) I L (some (vI w1)) I L := fun w1 e1 => ⟨by rw [e1]; rfl, rfl, rfl⟩
  refine aw_aload_n X 0 dX4_hasLetterRoom_0 rfl ?_
  refine aw_getI X zf_RX4_22 rfl hp dX4_hasLetterRoom_1 ?_
  have hJ3 : ∀ (w1 : Int32), w1 = (if (I p 2) < 0 then 0 else if (I p 2) < 8 then 1 else (0 : Int32)) → AW k g 1 I L 24 [] [vI w1] := by
    intro w1 q1
    subst q1
    exact aw_zret X E rfl (by (repeat' split) <;> first | exact Or.inl rfl | exact Or.inr rfl) dX4_hasLetterRoom_24 (hJ _ rfl)
  refine aw_if_lt X 23 dX4_hasLetterRoom_4 rfl (fun c1 => ?_) (fun c1 => ?_)
  · refine aw_iconst (v := 0) X dX4_hasLetterRoom_23 (by decide) ?_
    refine aw_perm (ks9 := []) [] rfl ?_
    exact hJ3 _ (if_pos c1).symm
  · refine aw_aload_n X 0 dX4_hasLetterRoom_7 rfl ?_
    refine aw_getI X zf_RX4_22 rfl hp dX4_hasLetterRoom_8 ?_
    refine aw_aload_n X 0 dX4_hasLetterRoom_11 rfl ?_
    refine aw_getR X zf_RX4_9 rfl hp (zL4 hp).1.1 dX4_hasLetterRoom_12 ?_
    refine aw_alen (v := 8) X (zL4 hp).1.2 (by decide) (by decide) dX4_hasLetterRoom_15 ?_
    refine aw_icmp_gen X 23 dX4_hasLetterRoom_16 rfl (fun c2 => ?_) (fun c2 => ?_)
    · refine aw_iconst (v := 1) X dX4_hasLetterRoom_19 (by decide) ?_
      refine aw_goto X 24 dX4_hasLetterRoom_20 rfl ?_
      refine aw_perm (ks9 := []) [] rfl ?_
      exact hJ3 _ ((if_pos c2).symm.trans (if_neg c1).symm)
    · refine aw_iconst (v := 0) X dX4_hasLetterRoom_23 (by decide) ?_
      refine aw_perm (ks9 := []) [] rfl ?_
      exact hJ3 _ ((if_neg c2).symm.trans (if_neg c1).symm)
theorem b_X4_hasLetterRoom {I : zI} {p : Nat} : v_X4_hasLetterRoom I p = 0 ∨ v_X4_hasLetterRoom I p = 1 := by
  unfold v_X4_hasLetterRoom
  repeat' split
  all_goals first | exact Or.inl rfl | exact Or.inr rfl
theorem zin_hasLetterRoom {I : zI} {p : Nat} (h : ¬ v_X4_hasLetterRoom I p = 0) : vp_in (I p 2) 8 := by
  unfold v_X4_hasLetterRoom at h
  split at h
  · exact absurd rfl h
  · rename_i c1
    split at h
    · rename_i c3
      exact zinof c1 c3 (by decide)
    · exact absurd rfl h
set_option maxRecDepth 100000 in
theorem m_X4_addLetter {l : Launch} {g : zG} {Q : Option zv → zI → zL → Prop} {I : zI} {L : zL} {p : Nat} {a1 : Int32} (hp : zsh p = (14, 10)) (h : if (v_X4_hasLetterRoom I p) = 0 then (Q (some (vI (-1))) I L) else ((∀ I2 : zI, I2 = (zs I (p + 1) ((I p 2).toNatClampNeg) a1) → (∀ I3 : zI, I3 = (zs I2 p 2 ((I2 p 2) + 1)) → Q (some (vI ((I3 p 2) - 1))) I3 L)))) : Call l g 2 M_X4_addLetter [vR p, vI a1] I L Q := by
  refine aw_entry (by decide) (Nat.le_of_ble_eq_true rfl) (fun k hk (X : zX k g cX4_addLetter RX4 2 (some .int) 2) E => ?_)
  show AW k g 2 I L 0 [(0, vR p), (1, vI a1)] []
  subst hk
  refine aw_aload_n X 0 dX4_addLetter_0 rfl ?_
  refine aw_pV X (as := []) mf_X4_hasLetterRoom zw_346 (p_X4_hasLetterRoom hp) hp rfl rfl (by decide) (Nat.le_of_ble_eq_true rfl) dX4_addLetter_1 ?_
  refine aw_if_ne X 9 dX4_addLetter_4 rfl (fun c1 => ?_) (fun c1 => ?_)
  · replace h := zifn c1 h
    refine aw_aload_n X 0 dX4_addLetter_9 rfl ?_
    refine aw_getR X zf_RX4_9 rfl hp (zL4 hp).1.1 dX4_addLetter_10 ?_
    refine aw_aload_n X 0 dX4_addLetter_13 rfl ?_
    refine aw_getI X zf_RX4_22 rfl hp dX4_addLetter_14 ?_
    refine aw_iload_n X 1 dX4_addLetter_17 rfl ?_
    refine aw_iastj (j := (I p 2).toNatClampNeg) X (zL4 hp).1.2 (zin_hasLetterRoom c1) rfl dX4_addLetter_18 ?_
    refine aw_aload_n X 0 dX4_addLetter_19 rfl ?_
    refine aw_nameI (fun I2 e2 => ?_)
    replace h := h I2 e2
    refine aw_dup X dX4_addLetter_20 rfl ?_
    refine aw_getI X zf_RX4_22 rfl hp dX4_addLetter_21 ?_
    refine aw_iconst (v := 1) X dX4_addLetter_24 (by decide) ?_
    refine aw_iadd X dX4_addLetter_25 ?_
    refine aw_putI X zf_RX4_22 rfl rfl rfl hp dX4_addLetter_26 ?_
    refine aw_aload_n X 0 dX4_addLetter_29 rfl ?_
    refine aw_nameI (fun I3 e3 => ?_)
    replace h := h I3 e3
    refine aw_getI X zf_RX4_22 rfl hp dX4_addLetter_30 ?_
    refine aw_iconst (v := 1) X dX4_addLetter_33 (by decide) ?_
    refine aw_isub X dX4_addLetter_34 ?_
    exact aw_iret X E rfl dX4_addLetter_35 h
  · replace h := zifp c1 h
    refine aw_iconst (v := (-1)) X dX4_addLetter_7 (by decide) ?_
    exact aw_iret X E rfl dX4_addLetter_8 h
def v_X4_isLetterOrNone (I : zI) (p : Nat) (a1 : Int32) : Int32 := if a1 = (-1) then 1 else if (v_X4_isLetter I p a1) = 0 then 0 else (1 : Int32)
set_option maxRecDepth 100000 in
theorem p_X4_isLetterOrNone {l : Launch} {g : zG} {I : zI} {L : zL} {p : Nat} {a1 : Int32} (hp : zsh p = (14, 10)) : Call l g 2 M_X4_isLetterOrNone [vR p, vI a1] I L (zp (some (vI (v_X4_isLetterOrNone I p a1))) I L) := by
  refine aw_entry (by decide) (Nat.le_of_ble_eq_true rfl) (fun k hk (X : zX k g cX4_isLetterOrNone RX4 2 (some .boolean) 2) E => ?_)
  show AW k g 2 I L 0 [(0, vR p), (1, vI a1)] []
  subst hk
  have hJ : ∀ w1 : Int32, w1 = (if a1 = (-1) then 1 else if (v_X4_isLetter I p a1) = 0 then 0 else (1 : Int32)) → zp (some (vI (v_X4_isLetterOrNone I p a1))) I L (some (vI w1)) I L := fun w1 e1 => ⟨by rw [e1]; rfl, rfl, rfl⟩
  refine aw_iload_n X 1 dX4_isLetterOrNone_0 rfl ?_
  refine aw_iconst (v := (-1)) X dX4_isLetterOrNone_1 (by decide) ?_
  have hJ3 : ∀ (w1 : Int32), w1 = (if a1 = (-1) then 1 else if (v_X4_isLetter I p a1) = 0 then 0 else (1 : Int32)) → AW k g 2 I L 18 [] [vI w1] := by
    intro w1 q1
    subst q1
    exact aw_zret X E rfl (by (repeat' split) <;> first | exact Or.inl rfl | exact Or.inr rfl) dX4_isLetterOrNone_18 (hJ _ rfl)
  refine aw_icmp_eq X 13 dX4_isLetterOrNone_2 rfl (fun c1 => ?_) (fun c1 => ?_)
  · refine aw_iconst (v := 1) X dX4_isLetterOrNone_13 (by decide) ?_
    refine aw_goto X 18 dX4_isLetterOrNone_14 rfl ?_
    refine aw_perm (ks9 := []) [] rfl ?_
    exact hJ3 _ (if_pos c1).symm
  · refine aw_aload_n X 0 dX4_isLetterOrNone_5 rfl ?_
    refine aw_iload_n X 1 dX4_isLetterOrNone_6 rfl ?_
    refine aw_pV X (as := [vI a1]) mf_X4_isLetter zw_396 (p_X4_isLetter hp) hp rfl rfl (by decide) (Nat.le_of_ble_eq_true rfl) dX4_isLetterOrNone_7 ?_
    refine aw_if_eq X 17 dX4_isLetterOrNone_10 rfl (fun c2 => ?_) (fun c2 => ?_)
    · refine aw_iconst (v := 0) X dX4_isLetterOrNone_17 (by decide) ?_
      refine aw_perm (ks9 := []) [] rfl ?_
      exact hJ3 _ ((if_pos c2).symm.trans (if_neg c1).symm)
    · refine aw_iconst (v := 1) X dX4_isLetterOrNone_13 (by decide) ?_
      refine aw_goto X 18 dX4_isLetterOrNone_14 rfl ?_
      refine aw_perm (ks9 := []) [] rfl ?_
      exact hJ3 _ ((if_neg c2).symm.trans (if_neg c1).symm)
theorem b_X4_isLetterOrNone {I : zI} {p : Nat} {a1 : Int32} : v_X4_isLetterOrNone I p a1 = 0 ∨ v_X4_isLetterOrNone I p a1 = 1 := by
  unfold v_X4_isLetterOrNone
  repeat' split
  all_goals first | exact Or.inl rfl | exact Or.inr rfl
def v_X3_told (I : zI) (p : Nat) : Int32 := if (I p 4) = 0 then I p 3 else (100 + (I p 1))
set_option maxRecDepth 100000 in
theorem p_X3_told {l : Launch} {g : zG} {I : zI} {L : zL} {p : Nat} (hp : zsh p = (13, 5)) : Call l g 1 M_X3_told [vR p] I L (zp (some (vI (v_X3_told I p))) I L) := by
  refine aw_entry (by decide) (Nat.le_of_ble_eq_true rfl) (fun k hk (X : zX k g cX3_told RX3 1 (some .int) 1) E => ?_)
  show AW k g 1 I L 0 [(0, vR p)] []
  subst hk
  have hJ : ∀ w1 : Int32, w1 = (if (I p 4) = 0 then I p 3 else (100 + (I p 1))) → zp (some (vI (v_X3_told I p))) I L (some (vI w1)) I L := fun w1 e1 => ⟨by rw [e1]; rfl, rfl, rfl⟩
  refine aw_aload_n X 0 dX3_told_0 rfl ?_
  refine aw_getI X zf_RX3_25 rfl hp dX3_told_1 ?_
  have hJ2 : ∀ (w1 : Int32), w1 = (if (I p 4) = 0 then I p 3 else (100 + (I p 1))) → AW k g 1 I L 21 [] [vI w1] := by
    intro w1 q1
    subst q1
    exact aw_iret X E rfl dX3_told_21 (hJ _ rfl)
  refine aw_if_eq X 17 dX3_told_4 rfl (fun c1 => ?_) (fun c1 => ?_)
  · refine aw_aload_n X 0 dX3_told_17 rfl ?_
    refine aw_getI X zf_RX3_22 rfl hp dX3_told_18 ?_
    refine aw_perm (ks9 := []) [] rfl ?_
    exact hJ2 _ (if_pos c1).symm
  · refine aw_bipush (v := 100) X dX3_told_7 (by decide) ?_
    refine aw_aload_n X 0 dX3_told_9 rfl ?_
    refine aw_getI X zf_RX3_15 rfl hp dX3_told_10 ?_
    refine aw_iadd X dX3_told_13 ?_
    refine aw_goto X 21 dX3_told_14 rfl ?_
    refine aw_perm (ks9 := []) [] rfl ?_
    exact hJ2 _ (if_neg c1).symm
set_option maxRecDepth 100000 in
theorem s_X4_passHours_2 {k : zK} {g : zG} {Q : Option zv → zI → zL → Prop} {I : zI} {L : zL} {p : Nat} {y1 : Int32} {y2 : Int32} (hp : zsh p = (14, 10)) (X : zX k g cX4_passHours RX4 4 (some .int) 4) (E : zE k g Q) (h : if y2 < (I p 3) then (if (v_X4_paneAt I p y2) = 0 then (AW k g 4 I L 2 [(0, vR p), (1, vI y1), (2, vI (y2 + 1))] []) else (Call (kl k) g 3 M_X1_passHours [vR (v_X4_paneAt I p y2), vI (I p 7), vI ((I p 7) + y1), vI (I p 6)] I L (zn fun I3 L3 => AW k g 4 I3 L3 2 [(0, vR p), (1, vI y1), (2, vI (y2 + 1))] []))) else ((∀ I4 : zI, I4 = (zs I p 7 ((I p 7) + y1)) → Q (some (vI (I4 p 7))) I4 L))) : AW k g 4 I L 2 [(0, vR p), (1, vI y1), (2, vI y2)] [] := by
  refine aw_iload_n X 2 dX4_passHours_2 rfl ?_
  refine aw_aload_n X 0 dX4_passHours_3 rfl ?_
  refine aw_getI X zf_RX4_26 rfl hp dX4_passHours_4 ?_
  refine aw_icmp_gen X 44 dX4_passHours_7 rfl (fun c1 => ?_) (fun c1 => ?_)
  · replace h := zifp c1 h
    refine aw_aload_n X 0 dX4_passHours_10 rfl ?_
    refine aw_iload_n X 2 dX4_passHours_11 rfl ?_
    refine aw_pV X (as := [vI y2]) mf_X4_paneAt zw_364 (p_X4_paneAt hp) hp rfl rfl (by decide) (Nat.le_of_ble_eq_true rfl) dX4_passHours_12 ?_
    refine aw_astore_n X dX4_passHours_15 (by decide) rfl ?_
    refine aw_aload_n X 0 dX4_passHours_16 rfl ?_
    refine aw_ifnull X 38 dX4_passHours_17 rfl (fun c2 => ?_) (fun c2 => ?_)
    · replace h := zifp c2 h
      refine aw_iinc (v := y2 + 1) X 3 dX4_passHours_38 rfl rfl (by decide) rfl ?_
      refine aw_goto X 2 dX4_passHours_41 rfl ?_
      refine aw_perm (ks9 := [(0, vR p), (1, vI y1), (2, vI (y2 + 1))]) [2, 3, 0] rfl ?_
      exact h
    · replace h := zifn c2 h
      refine aw_aload_n X 0 dX4_passHours_20 rfl ?_
      refine aw_aload_n X 1 dX4_passHours_21 rfl ?_
      refine aw_getI X zf_RX4_38 rfl hp dX4_passHours_22 ?_
      refine aw_aload_n X 1 dX4_passHours_25 rfl ?_
      refine aw_getI X zf_RX4_38 rfl hp dX4_passHours_26 ?_
      refine aw_iload_n X 2 dX4_passHours_29 rfl ?_
      refine aw_iadd X dX4_passHours_30 ?_
      refine aw_aload_n X 1 dX4_passHours_31 rfl ?_
      refine aw_getI X zf_RX4_35 rfl hp dX4_passHours_32 ?_
      refine aw_callV X (as := [vI (I p 7), vI ((I p 7) + y1), vI (I p 6)]) mf_X1_passHours zw_718 h (nn_X4_paneAt hp c2) rfl rfl (by decide) (Nat.le_of_ble_eq_true rfl) dX4_passHours_35 (fun v I3 L3 h => ?_)
      obtain ⟨rfl, h⟩ := h
      refine aw_iinc (v := y2 + 1) X 3 dX4_passHours_38 rfl rfl (by decide) rfl ?_
      refine aw_goto X 2 dX4_passHours_41 rfl ?_
      refine aw_perm (ks9 := [(0, vR p), (1, vI y1), (2, vI (y2 + 1))]) [2, 3, 0] rfl ?_
      exact h
  · replace h := zifn c1 h
    refine aw_aload_n X 0 dX4_passHours_44 rfl ?_
    refine aw_dup X dX4_passHours_45 rfl ?_
    refine aw_getI X zf_RX4_38 rfl hp dX4_passHours_46 ?_
    refine aw_iload_n X 1 dX4_passHours_49 rfl ?_
    refine aw_iadd X dX4_passHours_50 ?_
    refine aw_putI X zf_RX4_38 rfl rfl rfl hp dX4_passHours_51 ?_
    refine aw_aload_n X 0 dX4_passHours_54 rfl ?_
    refine aw_nameI (fun I4 e4 => ?_)
    replace h := h I4 e4
    refine aw_getI X zf_RX4_38 rfl hp dX4_passHours_55 ?_
    exact aw_iret X E rfl dX4_passHours_58 h
set_option maxRecDepth 100000 in
theorem m_X4_passHours {l : Launch} {g : zG} {Q : Option zv → zI → zL → Prop} {I : zI} {L : zL} {p : Nat} {a1 : Int32} (hp : zsh p = (14, 10)) (h : ∀ k : zK, kl k = l → zX k g cX4_passHours RX4 4 (some .int) 4 → zE k g Q → (AW k g 4 I L 2 [(0, vR p), (1, vI a1), (2, vI 0)] [])) : Call l g 4 M_X4_passHours [vR p, vI a1] I L Q := by
  refine aw_entry (by decide) (Nat.le_of_ble_eq_true rfl) (fun k hk (X : zX k g cX4_passHours RX4 4 (some .int) 4) E => ?_)
  show AW k g 4 I L 0 [(0, vR p), (1, vI a1)] []
  replace h := h k hk X E
  subst hk
  refine aw_iconst (v := 0) X dX4_passHours_0 (by decide) ?_
  refine aw_istore_n X dX4_passHours_1 (by decide) rfl ?_
  refine aw_perm (ks9 := [(0, vR p), (1, vI a1), (2, vI 0)]) [1, 2, 0] rfl ?_
  exact h
def v_X1_iceOn (I : zI) (p : Nat) (a1 : Int32) : Int32 := if a1 < 0 then 0 else if a1 < 16 then I (p + 1) a1.toNatClampNeg else (0 : Int32)
set_option maxRecDepth 100000 in
theorem p_X1_iceOn {l : Launch} {g : zG} {I : zI} {L : zL} {p : Nat} {a1 : Int32} (hp : zsh p = (11, 6)) : Call l g 1 M_X1_iceOn [vR p, vI a1] I L (zp (some (vI (v_X1_iceOn I p a1))) I L) := by
  refine aw_entry (by decide) (Nat.le_of_ble_eq_true rfl) (fun k hk (X : zX k g cX1_iceOn RX1 2 (some .int) 1) E => ?_)
  show AW k g 2 I L 0 [(0, vR p), (1, vI a1)] []
  subst hk
  have hJ : ∀ w1 : Int32, w1 = (if a1 < 0 then 0 else if a1 < 16 then I (p + 1) a1.toNatClampNeg else (0 : Int32)) → zp (some (vI (v_X1_iceOn I p a1))) I L (some (vI w1)) I L := fun w1 e1 => ⟨by rw [e1]; rfl, rfl, rfl⟩
  refine aw_iload_n X 1 dX1_iceOn_0 rfl ?_
  have hJ3 : ∀ (w1 : Int32), w1 = (if a1 < 0 then 0 else if a1 < 16 then I (p + 1) a1.toNatClampNeg else (0 : Int32)) → AW k g 2 I L 23 [] [vI w1] := by
    intro w1 q1
    subst q1
    exact aw_iret X E rfl dX1_iceOn_23 (hJ _ rfl)
  refine aw_if_lt X 22 dX1_iceOn_1 rfl (fun c1 => ?_) (fun c1 => ?_)
  · refine aw_iconst (v := 0) X dX1_iceOn_22 (by decide) ?_
    refine aw_perm (ks9 := []) [] rfl ?_
    exact hJ3 _ (if_pos c1).symm
  · refine aw_iload_n X 1 dX1_iceOn_4 rfl ?_
    refine aw_aload_n X 0 dX1_iceOn_5 rfl ?_
    refine aw_getR X zf_RX1_27 rfl hp (zL1 hp).1 dX1_iceOn_6 ?_
    refine aw_alen (v := 16) X (zL1 hp).2 (by decide) (by decide) dX1_iceOn_9 ?_
    refine aw_icmp_gen X 22 dX1_iceOn_10 rfl (fun c2 => ?_) (fun c2 => ?_)
    · refine aw_aload_n X 0 dX1_iceOn_13 rfl ?_
      refine aw_getR X zf_RX1_27 rfl hp (zL1 hp).1 dX1_iceOn_14 ?_
      refine aw_iload_n X 1 dX1_iceOn_17 rfl ?_
      refine aw_ialdj (j := a1.toNatClampNeg) X (zL1 hp).2 (zinof c1 c2 (by decide)) rfl dX1_iceOn_18 ?_
      refine aw_goto X 23 dX1_iceOn_19 rfl ?_
      refine aw_perm (ks9 := []) [] rfl ?_
      exact hJ3 _ ((if_pos c2).symm.trans (if_neg c1).symm)
    · refine aw_iconst (v := 0) X dX1_iceOn_22 (by decide) ?_
      refine aw_perm (ks9 := []) [] rfl ?_
      exact hJ3 _ ((if_neg c2).symm.trans (if_neg c1).symm)
set_option maxRecDepth 100000 in
theorem s_X1_takeAll_7 {k : zK} {g : zG} {Q : Option zv → zI → zL → Prop} {I : zI} {L : zL} {p : Nat} {y1 : Nat} {y2 : Int32} (hp : zsh p = (11, 6)) (X : zX k g cX1_takeAll RX1 3 none 2) (E : zE k g Q) (h : if y2 < 16 then (zsh y1 = (11, 6) ∧ (vp_in y2 16 ∧ (AW k g 3 (zs I (p + 1) y2.toNatClampNeg (v_X1_iceOn I y1 y2)) L 7 [(0, vR p), (1, vR y1), (2, vI (y2 + 1))] []))) else (Q none I L)) : AW k g 3 I L 7 [(0, vR p), (1, vR y1), (2, vI y2)] [] := by
  refine aw_iload_n X 2 dX1_takeAll_7 rfl ?_
  refine aw_aload_n X 0 dX1_takeAll_8 rfl ?_
  refine aw_getR X zf_RX1_27 rfl hp (zL1 hp).1 dX1_takeAll_9 ?_
  refine aw_alen (v := 16) X (zL1 hp).2 (by decide) (by decide) dX1_takeAll_12 ?_
  refine aw_icmp_gen X 33 dX1_takeAll_13 rfl (fun c1 => ?_) (fun c1 => ?_)
  · replace h := zifp c1 h
    refine aw_aload_n X 0 dX1_takeAll_16 rfl ?_
    refine aw_getR X zf_RX1_27 rfl hp (zL1 hp).1 dX1_takeAll_17 ?_
    refine aw_iload_n X 2 dX1_takeAll_20 rfl ?_
    refine aw_aload_n X 1 dX1_takeAll_21 rfl ?_
    refine aw_iload_n X 2 dX1_takeAll_22 rfl ?_
    have n2 := h.1
    replace h := h.2
    refine aw_pV X (as := [vI y2]) mf_X1_iceOn zw_438 (p_X1_iceOn n2) n2 rfl rfl (by decide) (Nat.le_of_ble_eq_true rfl) dX1_takeAll_23 ?_
    have n3 := h.1
    replace h := h.2
    refine aw_iastj (j := y2.toNatClampNeg) X (zL1 hp).2 n3 rfl dX1_takeAll_26 ?_
    refine aw_iinc (v := y2 + 1) X 2 dX1_takeAll_27 rfl rfl (by decide) rfl ?_
    refine aw_goto X 7 dX1_takeAll_30 rfl ?_
    refine aw_perm (ks9 := [(0, vR p), (1, vR y1), (2, vI (y2 + 1))]) [1, 2, 0] rfl ?_
    exact h
  · replace h := zifn c1 h
    exact aw_vret X E rfl dX1_takeAll_33 h
set_option maxRecDepth 100000 in
theorem m_X1_takeAll {l : Launch} {g : zG} {Q : Option zv → zI → zL → Prop} {I : zI} {L : zL} {p : Nat} {a1 : Nat} (hp : zsh p = (11, 6)) (h : ∀ k : zK, kl k = l → zX k g cX1_takeAll RX1 3 none 2 → zE k g Q → (Call (kl k) g 1 M_X1_takeGlass [vR p, vR a1] I L (zn fun I1 L1 => AW k g 3 I1 L1 7 [(0, vR p), (1, vR a1), (2, vI 0)] []))) : Call l g 2 M_X1_takeAll [vR p, vR a1] I L Q := by
  refine aw_entry (by decide) (Nat.le_of_ble_eq_true rfl) (fun k hk (X : zX k g cX1_takeAll RX1 3 none 2) E => ?_)
  show AW k g 3 I L 0 [(0, vR p), (1, vR a1)] []
  replace h := h k hk X E
  subst hk
  refine aw_aload_n X 0 dX1_takeAll_0 rfl ?_
  refine aw_aload_n X 1 dX1_takeAll_1 rfl ?_
  refine aw_callV X (as := [vR a1]) mf_X1_takeGlass zw_434 h hp rfl rfl (by decide) (Nat.le_of_ble_eq_true rfl) dX1_takeAll_2 (fun v I1 L1 h => ?_)
  obtain ⟨rfl, h⟩ := h
  refine aw_iconst (v := 0) X dX1_takeAll_5 (by decide) ?_
  refine aw_istore_n X dX1_takeAll_6 (by decide) rfl ?_
  refine aw_perm (ks9 := [(0, vR p), (1, vR a1), (2, vI 0)]) [1, 2, 0] rfl ?_
  exact h
set_option maxRecDepth 100000 in
theorem s_X4_takeAll_2 {k : zK} {g : zG} {Q : Option zv → zI → zL → Prop} {I : zI} {L : zL} {p : Nat} {y1 : Nat} {y2 : Int32} (hp : zsh p = (14, 10)) (X : zX k g cX4_takeAll RX4 4 none 3) (E : zE k g Q) (h : if y2 < 8 then (zsh y1 = (14, 10) ∧ (vp_in y2 8 ∧ (AW k g 4 (zs I (p + 1) y2.toNatClampNeg (v_X4_cellsOf I y1 y2)) L 2 [(0, vR p), (1, vR y1), (2, vI (y2 + 1))] []))) else (AW k g 4 I L 30 [(0, vR p), (1, vR y1), (2, vI 0)] [])) : AW k g 4 I L 2 [(0, vR p), (1, vR y1), (2, vI y2)] [] := by
  refine aw_iload_n X 2 dX4_takeAll_2 rfl ?_
  refine aw_aload_n X 0 dX4_takeAll_3 rfl ?_
  refine aw_getR X zf_RX4_9 rfl hp (zL4 hp).1.1 dX4_takeAll_4 ?_
  refine aw_alen (v := 8) X (zL4 hp).1.2 (by decide) (by decide) dX4_takeAll_7 ?_
  refine aw_icmp_gen X 28 dX4_takeAll_8 rfl (fun c1 => ?_) (fun c1 => ?_)
  · replace h := zifp c1 h
    refine aw_aload_n X 0 dX4_takeAll_11 rfl ?_
    refine aw_getR X zf_RX4_9 rfl hp (zL4 hp).1.1 dX4_takeAll_12 ?_
    refine aw_iload_n X 2 dX4_takeAll_15 rfl ?_
    refine aw_aload_n X 1 dX4_takeAll_16 rfl ?_
    refine aw_iload_n X 2 dX4_takeAll_17 rfl ?_
    have n2 := h.1
    replace h := h.2
    refine aw_pV X (as := [vI y2]) mf_X4_cellsOf zw_426 (p_X4_cellsOf n2) n2 rfl rfl (by decide) (Nat.le_of_ble_eq_true rfl) dX4_takeAll_18 ?_
    have n3 := h.1
    replace h := h.2
    refine aw_iastj (j := y2.toNatClampNeg) X (zL4 hp).1.2 n3 rfl dX4_takeAll_21 ?_
    refine aw_iinc (v := y2 + 1) X 2 dX4_takeAll_22 rfl rfl (by decide) rfl ?_
    refine aw_goto X 2 dX4_takeAll_25 rfl ?_
    refine aw_perm (ks9 := [(0, vR p), (1, vR y1), (2, vI (y2 + 1))]) [1, 2, 0] rfl ?_
    exact h
  · replace h := zifn c1 h
    refine aw_iconst (v := 0) X dX4_takeAll_28 (by decide) ?_
    refine aw_istore_n X dX4_takeAll_29 (by decide) rfl ?_
    refine aw_perm (ks9 := [(0, vR p), (1, vR y1), (2, vI 0)]) [1, 2, 0] rfl ?_
    exact h
set_option maxRecDepth 100000 in
theorem s_X4_takeAll_30 {k : zK} {g : zG} {Q : Option zv → zI → zL → Prop} {I : zI} {L : zL} {p : Nat} {y1 : Nat} {y2 : Int32} (hp : zsh p = (14, 10)) (X : zX k g cX4_takeAll RX4 4 none 3) (E : zE k g Q) (h : if y2 < 8 then (zsh y1 = (14, 10) ∧ (vp_in y2 8 ∧ (if (v_X4_paneAt I y1 y2) = 0 then (AW k g 4 I L 30 [(0, vR p), (1, vR y1), (2, vI (y2 + 1))] []) else (Call (kl k) g 2 M_X1_takeAll [vR (p + 3 + 2 * y2.toNatClampNeg), vR (v_X4_paneAt I y1 y2)] I L (zn fun I5 L5 => AW k g 4 I5 L5 30 [(0, vR p), (1, vR y1), (2, vI (y2 + 1))] []))))) else (zsh y1 = (14, 10) ∧ ((∀ I7 : zI, I7 = (zs I p 2 (I y1 2)) → (∀ I8 : zI, I8 = (zs I7 p 3 (I7 y1 3)) → (∀ I9 : zI, I9 = (zs I8 p 4 (I8 y1 4)) → (∀ I10 : zI, I10 = (zs I9 p 5 (I9 y1 5)) → (∀ I11 : zI, I11 = (zs I10 p 6 (I10 y1 6)) → (∀ I12 : zI, I12 = (zs I11 p 7 (I11 y1 7)) → (∀ I13 : zI, I13 = (zs I12 p 8 (I12 y1 8)) → Q none (zs I13 p 9 (I13 y1 9)) L)))))))))) : AW k g 4 I L 30 [(0, vR p), (1, vR y1), (2, vI y2)] [] := by
  refine aw_iload_n X 2 dX4_takeAll_30 rfl ?_
  refine aw_aload_n X 0 dX4_takeAll_31 rfl ?_
  refine aw_getR X zf_RX4_17 rfl hp (zL4 hp).2.1.1 dX4_takeAll_32 ?_
  refine aw_alen (v := 8) X (zL4 hp).2.1.2 (by decide) (by decide) dX4_takeAll_35 ?_
  refine aw_icmp_gen X 74 dX4_takeAll_36 rfl (fun c1 => ?_) (fun c1 => ?_)
  · replace h := zifp c1 h
    refine aw_aload_n X 1 dX4_takeAll_39 rfl ?_
    refine aw_iload_n X 2 dX4_takeAll_40 rfl ?_
    have n2 := h.1
    replace h := h.2
    refine aw_pV X (as := [vI y2]) mf_X4_paneAt zw_364 (p_X4_paneAt n2) n2 rfl rfl (by decide) (Nat.le_of_ble_eq_true rfl) dX4_takeAll_41 ?_
    refine aw_astore_n X dX4_takeAll_44 (by decide) rfl ?_
    refine aw_aload_n X 1 dX4_takeAll_45 rfl ?_
    refine aw_getR X zf_RX4_17 rfl hp (zL4 hp).2.1.1 dX4_takeAll_46 ?_
    refine aw_iload_n X 3 dX4_takeAll_49 rfl ?_
    have n3 := h.1
    replace h := h.2
    refine aw_aald X (zL4 hp).2.1.2 (by decide) n3 ((zL4 hp).2.2 _ (zlt n3)).1 dX4_takeAll_50 ?_
    refine aw_ifnull X 68 dX4_takeAll_51 rfl (fun e => absurd e (by omega)) (fun _ => ?_)
    refine aw_aload_n X 0 dX4_takeAll_54 rfl ?_
    refine aw_ifnull X 68 dX4_takeAll_55 rfl (fun c4 => ?_) (fun c4 => ?_)
    · replace h := zifp c4 h
      refine aw_iinc (v := y2 + 1) X 3 dX4_takeAll_68 rfl rfl (by decide) rfl ?_
      refine aw_goto X 30 dX4_takeAll_71 rfl ?_
      refine aw_perm (ks9 := [(0, vR p), (1, vR y1), (2, vI (y2 + 1))]) [2, 3, 0] rfl ?_
      exact h
    · replace h := zifn c4 h
      refine aw_aload_n X 1 dX4_takeAll_58 rfl ?_
      refine aw_getR X zf_RX4_17 rfl hp (zL4 hp).2.1.1 dX4_takeAll_59 ?_
      refine aw_iload_n X 3 dX4_takeAll_62 rfl ?_
      refine aw_aald X (zL4 hp).2.1.2 (by decide) n3 ((zL4 hp).2.2 _ (zlt n3)).1 dX4_takeAll_63 ?_
      refine aw_aload_n X 0 dX4_takeAll_64 rfl ?_
      refine aw_callV X (as := [vR (v_X4_paneAt I y1 y2)]) mf_X1_takeAll zw_430 h ((zL4 hp).2.2 _ (zlt n3)).2 rfl rfl (by decide) (Nat.le_of_ble_eq_true rfl) dX4_takeAll_65 (fun v I5 L5 h => ?_)
      obtain ⟨rfl, h⟩ := h
      refine aw_iinc (v := y2 + 1) X 3 dX4_takeAll_68 rfl rfl (by decide) rfl ?_
      refine aw_goto X 30 dX4_takeAll_71 rfl ?_
      refine aw_perm (ks9 := [(0, vR p), (1, vR y1), (2, vI (y2 + 1))]) [2, 3, 0] rfl ?_
      exact h
  · replace h := zifn c1 h
    refine aw_aload_n X 0 dX4_takeAll_74 rfl ?_
    refine aw_aload_n X 1 dX4_takeAll_75 rfl ?_
    have n6 := h.1
    replace h := h.2
    refine aw_getI X zf_RX4_22 rfl n6 dX4_takeAll_76 ?_
    refine aw_putI X zf_RX4_22 rfl rfl rfl hp dX4_takeAll_79 ?_
    refine aw_aload_n X 0 dX4_takeAll_82 rfl ?_
    refine aw_aload_n X 1 dX4_takeAll_83 rfl ?_
    refine aw_nameI (fun I7 e7 => ?_)
    replace h := h I7 e7
    refine aw_getI X zf_RX4_26 rfl n6 dX4_takeAll_84 ?_
    refine aw_putI X zf_RX4_26 rfl rfl rfl hp dX4_takeAll_87 ?_
    refine aw_aload_n X 0 dX4_takeAll_90 rfl ?_
    refine aw_aload_n X 1 dX4_takeAll_91 rfl ?_
    refine aw_nameI (fun I8 e8 => ?_)
    replace h := h I8 e8
    refine aw_getI X zf_RX4_29 rfl n6 dX4_takeAll_92 ?_
    refine aw_putI X zf_RX4_29 rfl rfl rfl hp dX4_takeAll_95 ?_
    refine aw_aload_n X 0 dX4_takeAll_98 rfl ?_
    refine aw_aload_n X 1 dX4_takeAll_99 rfl ?_
    refine aw_nameI (fun I9 e9 => ?_)
    replace h := h I9 e9
    refine aw_getI X zf_RX4_32 rfl n6 dX4_takeAll_100 ?_
    refine aw_putI X zf_RX4_32 rfl rfl rfl hp dX4_takeAll_103 ?_
    refine aw_aload_n X 0 dX4_takeAll_106 rfl ?_
    refine aw_aload_n X 1 dX4_takeAll_107 rfl ?_
    refine aw_nameI (fun I10 e10 => ?_)
    replace h := h I10 e10
    refine aw_getI X zf_RX4_35 rfl n6 dX4_takeAll_108 ?_
    refine aw_putI X zf_RX4_35 rfl rfl rfl hp dX4_takeAll_111 ?_
    refine aw_aload_n X 0 dX4_takeAll_114 rfl ?_
    refine aw_aload_n X 1 dX4_takeAll_115 rfl ?_
    refine aw_nameI (fun I11 e11 => ?_)
    replace h := h I11 e11
    refine aw_getI X zf_RX4_38 rfl n6 dX4_takeAll_116 ?_
    refine aw_putI X zf_RX4_38 rfl rfl rfl hp dX4_takeAll_119 ?_
    refine aw_aload_n X 0 dX4_takeAll_122 rfl ?_
    refine aw_aload_n X 1 dX4_takeAll_123 rfl ?_
    refine aw_nameI (fun I12 e12 => ?_)
    replace h := h I12 e12
    refine aw_getI X zf_RX4_41 rfl n6 dX4_takeAll_124 ?_
    refine aw_putI X zf_RX4_41 rfl rfl rfl hp dX4_takeAll_127 ?_
    refine aw_aload_n X 0 dX4_takeAll_130 rfl ?_
    refine aw_aload_n X 1 dX4_takeAll_131 rfl ?_
    refine aw_nameI (fun I13 e13 => ?_)
    replace h := h I13 e13
    refine aw_getI X zf_RX4_44 rfl n6 dX4_takeAll_132 ?_
    refine aw_putI X zf_RX4_44 rfl rfl rfl hp dX4_takeAll_135 ?_
    exact aw_vret X E rfl dX4_takeAll_138 h
set_option maxRecDepth 100000 in
theorem m_X4_takeAll {l : Launch} {g : zG} {Q : Option zv → zI → zL → Prop} {I : zI} {L : zL} {p : Nat} {a1 : Nat} (hp : zsh p = (14, 10)) (h : ∀ k : zK, kl k = l → zX k g cX4_takeAll RX4 4 none 3 → zE k g Q → (AW k g 4 I L 2 [(0, vR p), (1, vR a1), (2, vI 0)] [])) : Call l g 3 M_X4_takeAll [vR p, vR a1] I L Q := by
  refine aw_entry (by decide) (Nat.le_of_ble_eq_true rfl) (fun k hk (X : zX k g cX4_takeAll RX4 4 none 3) E => ?_)
  show AW k g 4 I L 0 [(0, vR p), (1, vR a1)] []
  replace h := h k hk X E
  subst hk
  refine aw_iconst (v := 0) X dX4_takeAll_0 (by decide) ?_
  refine aw_istore_n X dX4_takeAll_1 (by decide) rfl ?_
  refine aw_perm (ks9 := [(0, vR p), (1, vR a1), (2, vI 0)]) [1, 2, 0] rfl ?_
  exact h
def v_X4_isReadRight (I : zI) (p : Nat) (a1 : Nat) : Int32 := if (I a1 3) = (-1) then 0 else if (v_X4_readingOf I p (v_X1_frosted I a1)) = (I a1 3) then 1 else (0 : Int32)
def k_X4_isReadRight (I : zI) (p : Nat) (a1 : Nat) : Prop := zsh a1 = (11, 6) ∧ (¬ ((I a1 3) = (-1)) → k_X4_readingOf I p (v_X1_frosted I a1))
set_option maxRecDepth 100000 in
theorem p_X4_isReadRight {l : Launch} {g : zG} {I : zI} {L : zL} {p : Nat} {a1 : Nat} (hp : zsh p = (14, 10)) (hk0 : k_X4_isReadRight I p a1) : Call l g 4 M_X4_isReadRight [vR p, vR a1] I L (zp (some (vI (v_X4_isReadRight I p a1))) I L) := by
  refine aw_entry (by decide) (Nat.le_of_ble_eq_true rfl) (fun k hk (X : zX k g cX4_isReadRight RX4 2 (some .boolean) 4) E => ?_)
  show AW k g 2 I L 0 [(0, vR p), (1, vR a1)] []
  subst hk
  obtain ⟨n1, n5⟩ := hk0
  have hJ : ∀ w1 : Int32, w1 = (if (I a1 3) = (-1) then 0 else if (v_X4_readingOf I p (v_X1_frosted I a1)) = (I a1 3) then 1 else (0 : Int32)) → zp (some (vI (v_X4_isReadRight I p a1))) I L (some (vI w1)) I L := fun w1 e1 => ⟨by rw [e1]; rfl, rfl, rfl⟩
  refine aw_aload_n X 1 dX4_isReadRight_0 rfl ?_
  refine aw_getI X zf_RX4_91 rfl n1 dX4_isReadRight_1 ?_
  refine aw_iconst (v := (-1)) X dX4_isReadRight_4 (by decide) ?_
  have hJ6 : ∀ (w1 : Int32), w1 = (if (I a1 3) = (-1) then 0 else if (v_X4_readingOf I p (v_X1_frosted I a1)) = (I a1 3) then 1 else (0 : Int32)) → AW k g 2 I L 28 [] [vI w1] := by
    intro w1 q1
    subst q1
    exact aw_zret X E rfl (by (repeat' split) <;> first | exact Or.inl rfl | exact Or.inr rfl) dX4_isReadRight_28 (hJ _ rfl)
  refine aw_icmp_eq X 27 dX4_isReadRight_5 rfl (fun c2 => ?_) (fun c2 => ?_)
  · refine aw_iconst (v := 0) X dX4_isReadRight_27 (by decide) ?_
    refine aw_perm (ks9 := []) [] rfl ?_
    exact hJ6 _ (if_pos c2).symm
  · have n3 := (n5 c2)
    refine aw_aload_n X 0 dX4_isReadRight_8 rfl ?_
    refine aw_aload_n X 1 dX4_isReadRight_9 rfl ?_
    refine aw_pV X (as := []) mf_X1_frosted zw_708 (p_X1_frosted n1) n1 rfl rfl (by decide) (Nat.le_of_ble_eq_true rfl) dX4_isReadRight_10 ?_
    refine aw_pV X (as := [vI (v_X1_frosted I a1)]) mf_X4_readingOf zw_709 (p_X4_readingOf hp n3) hp rfl rfl (by decide) (Nat.le_of_ble_eq_true rfl) dX4_isReadRight_13 ?_
    refine aw_aload_n X 1 dX4_isReadRight_16 rfl ?_
    refine aw_getI X zf_RX4_91 rfl n1 dX4_isReadRight_17 ?_
    refine aw_icmp_ne X 27 dX4_isReadRight_20 rfl (fun c4 => ?_) (fun c4 => ?_)
    · refine aw_iconst (v := 0) X dX4_isReadRight_27 (by decide) ?_
      refine aw_perm (ks9 := []) [] rfl ?_
      exact hJ6 _ ((if_neg c4).symm.trans (if_neg c2).symm)
    · refine aw_iconst (v := 1) X dX4_isReadRight_23 (by decide) ?_
      refine aw_goto X 28 dX4_isReadRight_24 rfl ?_
      refine aw_perm (ks9 := []) [] rfl ?_
      exact hJ6 _ ((if_pos c4).symm.trans (if_neg c2).symm)
theorem b_X4_isReadRight {I : zI} {p : Nat} {a1 : Nat} (hk0 : k_X4_isReadRight I p a1) : v_X4_isReadRight I p a1 = 0 ∨ v_X4_isReadRight I p a1 = 1 := by
  unfold v_X4_isReadRight
  repeat' split
  all_goals first | exact Or.inl rfl | exact Or.inr rfl | exact hk0 | exact hk0.1 | exact hk0.2
set_option maxRecDepth 100000 in
theorem s_X4_passNight_4 {k : zK} {g : zG} {Q : Option zv → zI → zL → Prop} {I : zI} {L : zL} {p : Nat} {y1 : Int32} {y2 : Int32} (hp : zsh p = (14, 10)) (X : zX k g cX4_passNight RX4 4 (some .int) 5) (E : zE k g Q) (h : if y2 < (I p 3) then (if (v_X4_paneAt I p y2) = 0 then (AW k g 4 I L 4 [(0, vR p), (1, vI y1), (2, vI (y2 + 1))] []) else (Call (kl k) g 3 M_X1_freezeWith [vR (v_X4_paneAt I p y2), vI (v_X4_cellsOf I p (I (v_X4_paneAt I p y2) 3)), vI (v_X1_sharpness I (v_X4_paneAt I p y2) (I p 4) (I p 5)), vI (I p 5)] I L (zn fun I3 L3 => k_X4_isReadRight I3 p (v_X4_paneAt I p y2) ∧ ((∀ u7 : Int32, u7 = (if (v_X4_isReadRight I3 p (v_X4_paneAt I p y2)) = 0 then 0 else (jshl 1 y2)) → AW k g 4 I3 L3 4 [(0, vR p), (1, vI (y1 ||| u7)), (2, vI (y2 + 1))] []))))) else ((∀ I8 : zI, I8 = (zs I p 7 0) → Q (some (vI y1)) (zs I8 p 8 ((I8 p 8) + (if y1 = 0 then 0 else (1 : Int32)))) L))) : AW k g 4 I L 4 [(0, vR p), (1, vI y1), (2, vI y2)] [] := by
  refine aw_iload_n X 2 dX4_passNight_4 rfl ?_
  refine aw_aload_n X 0 dX4_passNight_5 rfl ?_
  refine aw_getI X zf_RX4_26 rfl hp dX4_passNight_6 ?_
  refine aw_icmp_gen X 74 dX4_passNight_9 rfl (fun c1 => ?_) (fun c1 => ?_)
  · replace h := zifp c1 h
    refine aw_aload_n X 0 dX4_passNight_12 rfl ?_
    refine aw_iload_n X 2 dX4_passNight_13 rfl ?_
    refine aw_pV X (as := [vI y2]) mf_X4_paneAt zw_364 (p_X4_paneAt hp) hp rfl rfl (by decide) (Nat.le_of_ble_eq_true rfl) dX4_passNight_14 ?_
    refine aw_astore_n X dX4_passNight_17 (by decide) rfl ?_
    refine aw_aload_n X 0 dX4_passNight_18 rfl ?_
    refine aw_ifnull X 68 dX4_passNight_19 rfl (fun c2 => ?_) (fun c2 => ?_)
    · replace h := zifp c2 h
      refine aw_iinc (v := y2 + 1) X 3 dX4_passNight_68 rfl rfl (by decide) rfl ?_
      refine aw_goto X 4 dX4_passNight_71 rfl ?_
      refine aw_perm (ks9 := [(0, vR p), (1, vI y1), (2, vI (y2 + 1))]) [2, 3, 0] rfl ?_
      exact h
    · replace h := zifn c2 h
      refine aw_aload_n X 0 dX4_passNight_22 rfl ?_
      refine aw_aload_n X 1 dX4_passNight_23 rfl ?_
      refine aw_aload_n X 0 dX4_passNight_24 rfl ?_
      refine aw_getI X zf_RX4_91 rfl (nn_X4_paneAt hp c2) dX4_passNight_25 ?_
      refine aw_pV X (as := [vI (I (v_X4_paneAt I p y2) 3)]) mf_X4_cellsOf zw_426 (p_X4_cellsOf hp) hp rfl rfl (by decide) (Nat.le_of_ble_eq_true rfl) dX4_passNight_28 ?_
      refine aw_aload_n X 0 dX4_passNight_31 rfl ?_
      refine aw_aload_n X 1 dX4_passNight_32 rfl ?_
      refine aw_getI X zf_RX4_29 rfl hp dX4_passNight_33 ?_
      refine aw_aload_n X 1 dX4_passNight_36 rfl ?_
      refine aw_getI X zf_RX4_32 rfl hp dX4_passNight_37 ?_
      refine aw_pV X (as := [vI (I p 4), vI (I p 5)]) mf_X1_sharpness zw_702 (p_X1_sharpness (nn_X4_paneAt hp c2)) (nn_X4_paneAt hp c2) rfl rfl (by decide) (Nat.le_of_ble_eq_true rfl) dX4_passNight_40 ?_
      refine aw_aload_n X 1 dX4_passNight_43 rfl ?_
      refine aw_getI X zf_RX4_32 rfl hp dX4_passNight_44 ?_
      refine aw_callV X (as := [vI (v_X4_cellsOf I p (I (v_X4_paneAt I p y2) 3)), vI (v_X1_sharpness I (v_X4_paneAt I p y2) (I p 4) (I p 5)), vI (I p 5)]) mf_X1_freezeWith zw_703 h (nn_X4_paneAt hp c2) rfl rfl (by decide) (Nat.le_of_ble_eq_true rfl) dX4_passNight_47 (fun v I3 L3 h => ?_)
      obtain ⟨rfl, h⟩ := h
      refine aw_iload_n X 2 dX4_passNight_50 rfl ?_
      refine aw_aload_n X 1 dX4_passNight_51 rfl ?_
      refine aw_aload_n X 0 dX4_passNight_52 rfl ?_
      have n4 := h.1
      replace h := h.2
      refine aw_pV X (as := [vR (v_X4_paneAt I p y2)]) mf_X4_isReadRight zw_704 (p_X4_isReadRight hp n4) hp rfl rfl (by decide) (Nat.le_of_ble_eq_true rfl) dX4_passNight_53 ?_
      have hJ6 : ∀ (u7 : Int32), u7 = (if (v_X4_isReadRight I3 p (v_X4_paneAt I p y2)) = 0 then 0 else (jshl 1 y2)) → AW k g 4 I3 L3 66 [(0, vR p), (2, vI y2)] [vI u7, vI y1] := by
        intro u7 q1
        replace h := h u7 q1
        refine aw_ior X dX4_passNight_66 ?_
        refine aw_istore_n X dX4_passNight_67 (by decide) rfl ?_
        refine aw_iinc (v := y2 + 1) X 2 dX4_passNight_68 rfl rfl (by decide) rfl ?_
        refine aw_goto X 4 dX4_passNight_71 rfl ?_
        refine aw_perm (ks9 := [(0, vR p), (1, vI (y1 ||| u7)), (2, vI (y2 + 1))]) [2, 1, 0] rfl ?_
        exact h
      refine aw_if_eq X 65 dX4_passNight_56 rfl (fun c5 => ?_) (fun c5 => ?_)
      · refine aw_iconst (v := 0) X dX4_passNight_65 (by decide) ?_
        refine aw_perm (ks9 := [(0, vR p), (2, vI y2)]) [1, 3] rfl ?_
        exact hJ6 _ (if_pos c5).symm
      · refine aw_iconst (v := 1) X dX4_passNight_59 (by decide) ?_
        refine aw_iload_n X 3 dX4_passNight_60 rfl ?_
        refine aw_ishl X dX4_passNight_61 ?_
        refine aw_goto X 66 dX4_passNight_62 rfl ?_
        refine aw_perm (ks9 := [(0, vR p), (2, vI y2)]) [1, 3] rfl ?_
        exact hJ6 _ (if_neg c5).symm
  · replace h := zifn c1 h
    refine aw_aload_n X 0 dX4_passNight_74 rfl ?_
    refine aw_iconst (v := 0) X dX4_passNight_75 (by decide) ?_
    refine aw_putI X zf_RX4_38 rfl rfl rfl hp dX4_passNight_76 ?_
    refine aw_aload_n X 0 dX4_passNight_79 rfl ?_
    refine aw_nameI (fun I8 e8 => ?_)
    replace h := h I8 e8
    refine aw_dup X dX4_passNight_80 rfl ?_
    refine aw_getI X zf_RX4_41 rfl hp dX4_passNight_81 ?_
    refine aw_iload_n X 1 dX4_passNight_84 rfl ?_
    have hJ10 : ∀ (w1 : Int32), w1 = (if y1 = 0 then 0 else (1 : Int32)) → AW k g 4 I8 L 93 [(1, vI y1)] [vI w1, vI (I8 p 8), vR p] := by
      intro w1 q1
      subst q1
      refine aw_iadd X dX4_passNight_93 ?_
      refine aw_putI X zf_RX4_41 rfl rfl rfl hp dX4_passNight_94 ?_
      refine aw_iload_n X 0 dX4_passNight_97 rfl ?_
      exact aw_iret X E rfl dX4_passNight_98 h
    refine aw_if_ne X 92 dX4_passNight_85 rfl (fun c9 => ?_) (fun c9 => ?_)
    · refine aw_iconst (v := 1) X dX4_passNight_92 (by decide) ?_
      refine aw_perm (ks9 := [(1, vI y1)]) [1] rfl ?_
      exact hJ10 _ (if_neg c9).symm
    · refine aw_iconst (v := 0) X dX4_passNight_88 (by decide) ?_
      refine aw_goto X 93 dX4_passNight_89 rfl ?_
      refine aw_perm (ks9 := [(1, vI y1)]) [1] rfl ?_
      exact hJ10 _ (if_pos c9).symm
set_option maxRecDepth 100000 in
theorem m_X4_passNight {l : Launch} {g : zG} {Q : Option zv → zI → zL → Prop} {I : zI} {L : zL} {p : Nat} (hp : zsh p = (14, 10)) (h : ∀ k : zK, kl k = l → zX k g cX4_passNight RX4 4 (some .int) 5 → zE k g Q → (AW k g 4 I L 4 [(0, vR p), (1, vI 0), (2, vI 0)] [])) : Call l g 5 M_X4_passNight [vR p] I L Q := by
  refine aw_entry (by decide) (Nat.le_of_ble_eq_true rfl) (fun k hk (X : zX k g cX4_passNight RX4 4 (some .int) 5) E => ?_)
  show AW k g 4 I L 0 [(0, vR p)] []
  replace h := h k hk X E
  subst hk
  refine aw_iconst (v := 0) X dX4_passNight_0 (by decide) ?_
  refine aw_istore_n X dX4_passNight_1 (by decide) rfl ?_
  refine aw_iconst (v := 0) X dX4_passNight_2 (by decide) ?_
  refine aw_istore_n X dX4_passNight_3 (by decide) rfl ?_
  refine aw_perm (ks9 := [(0, vR p), (1, vI 0), (2, vI 0)]) [2, 1, 0] rfl ?_
  exact h
def v_X1_isKind (a1 : Int32) : Int32 := if a1 < 0 then 0 else if a1 < 7 then 1 else (0 : Int32)
set_option maxRecDepth 100000 in
theorem p_X1_isKind {l : Launch} {g : zG} {I : zI} {L : zL} {a1 : Int32}  : Call l g 1 M_X1_isKind [vI a1] I L (zp (some (vI (v_X1_isKind a1))) I L) := by
  refine aw_entry (by decide) (Nat.le_of_ble_eq_true rfl) (fun k hk (X : zX k g cX1_isKind RX1 1 (some .boolean) 1) E => ?_)
  show AW k g 1 I L 0 [(0, vI a1)] []
  subst hk
  have hJ : ∀ w1 : Int32, w1 = (if a1 < 0 then 0 else if a1 < 7 then 1 else (0 : Int32)) → zp (some (vI (v_X1_isKind a1))) I L (some (vI w1)) I L := fun w1 e1 => ⟨by rw [e1]; rfl, rfl, rfl⟩
  refine aw_iload_n X 0 dX1_isKind_0 rfl ?_
  have hJ3 : ∀ (w1 : Int32), w1 = (if a1 < 0 then 0 else if a1 < 7 then 1 else (0 : Int32)) → AW k g 1 I L 17 [] [vI w1] := by
    intro w1 q1
    subst q1
    exact aw_zret X E rfl (by (repeat' split) <;> first | exact Or.inl rfl | exact Or.inr rfl) dX1_isKind_17 (hJ _ rfl)
  refine aw_if_lt X 16 dX1_isKind_1 rfl (fun c1 => ?_) (fun c1 => ?_)
  · refine aw_iconst (v := 0) X dX1_isKind_16 (by decide) ?_
    refine aw_perm (ks9 := []) [] rfl ?_
    exact hJ3 _ (if_pos c1).symm
  · refine aw_iload_n X 0 dX1_isKind_4 rfl ?_
    refine aw_gets X zsta_KIND_ABOVE zw_354 (by decide) dX1_isKind_5 ?_
    refine aw_slen X zsta_KIND_ABOVE (by decide) dX1_isKind_8 ?_
    refine aw_icmp_gen X 16 dX1_isKind_9 rfl (fun c2 => ?_) (fun c2 => ?_)
    · refine aw_iconst (v := 1) X dX1_isKind_12 (by decide) ?_
      refine aw_goto X 17 dX1_isKind_13 rfl ?_
      refine aw_perm (ks9 := []) [] rfl ?_
      exact hJ3 _ ((if_pos c2).symm.trans (if_neg c1).symm)
    · refine aw_iconst (v := 0) X dX1_isKind_16 (by decide) ?_
      refine aw_perm (ks9 := []) [] rfl ?_
      exact hJ3 _ ((if_neg c2).symm.trans (if_neg c1).symm)
theorem b_X1_isKind {a1 : Int32} : v_X1_isKind a1 = 0 ∨ v_X1_isKind a1 = 1 := by
  unfold v_X1_isKind
  repeat' split
  all_goals first | exact Or.inl rfl | exact Or.inr rfl
set_option maxRecDepth 100000 in
theorem s_X1_makeNew_28 {k : zK} {g : zG} {Q : Option zv → zI → zL → Prop} {I : zI} {L : zL} {p : Nat} {y4 : Int32} (hp : zsh p = (11, 6)) (X : zX k g cX1_makeNew RX1 5 none 1) (E : zE k g Q) (h : if y4 < 16 then (vp_in y4 16 ∧ (AW k g 5 (zs I (p + 1) y4.toNatClampNeg 0) L 28 [(0, vR p), (4, vI (y4 + 1))] [])) else (Q none I L)) : AW k g 5 I L 28 [(0, vR p), (4, vI y4)] [] := by
  refine aw_iload X 1 dX1_makeNew_28 rfl ?_
  refine aw_aload_n X 0 dX1_makeNew_30 rfl ?_
  refine aw_getR X zf_RX1_27 rfl hp (zL1 hp).1 dX1_makeNew_31 ?_
  refine aw_alen (v := 16) X (zL1 hp).2 (by decide) (by decide) dX1_makeNew_34 ?_
  refine aw_icmp_gen X 52 dX1_makeNew_35 rfl (fun c1 => ?_) (fun c1 => ?_)
  · replace h := zifp c1 h
    refine aw_aload_n X 0 dX1_makeNew_38 rfl ?_
    refine aw_getR X zf_RX1_27 rfl hp (zL1 hp).1 dX1_makeNew_39 ?_
    refine aw_iload X 1 dX1_makeNew_42 rfl ?_
    refine aw_iconst (v := 0) X dX1_makeNew_44 (by decide) ?_
    have n2 := h.1
    replace h := h.2
    refine aw_iastj (j := y4.toNatClampNeg) X (zL1 hp).2 n2 rfl dX1_makeNew_45 ?_
    refine aw_iinc (v := y4 + 1) X 1 dX1_makeNew_46 rfl rfl (by decide) rfl ?_
    refine aw_goto X 28 dX1_makeNew_49 rfl ?_
    refine aw_perm (ks9 := [(0, vR p), (4, vI (y4 + 1))]) [1, 0] rfl ?_
    exact h
  · replace h := zifn c1 h
    exact aw_vret X E rfl dX1_makeNew_52 h
set_option maxRecDepth 100000 in
theorem m_X1_makeNew {l : Launch} {g : zG} {Q : Option zv → zI → zL → Prop} {I : zI} {L : zL} {p : Nat} {a1 : Int32} {a2 : Int32} {a3 : Int32} (hp : zsh p = (11, 6)) (h : ∀ k : zK, kl k = l → zX k g cX1_makeNew RX1 5 none 1 → zE k g Q → ((∀ I1 : zI, I1 = (zs I p 0 a1) → (∀ I2 : zI, I2 = (zs I1 p 1 a2) → (∀ I3 : zI, I3 = (zs I2 p 2 a3) → (∀ I4 : zI, I4 = (zs I3 p 3 (-1)) → AW k g 5 (zs I4 p 4 0) L 28 [(0, vR p), (4, vI 0)] [])))))) : Call l g 1 M_X1_makeNew [vR p, vI a1, vI a2, vI a3] I L Q := by
  refine aw_entry (by decide) (Nat.le_of_ble_eq_true rfl) (fun k hk (X : zX k g cX1_makeNew RX1 5 none 1) E => ?_)
  show AW k g 5 I L 0 [(0, vR p), (1, vI a1), (2, vI a2), (3, vI a3)] []
  replace h := h k hk X E
  subst hk
  refine aw_aload_n X 0 dX1_makeNew_0 rfl ?_
  refine aw_iload_n X 1 dX1_makeNew_1 rfl ?_
  refine aw_putI X zf_RX1_9 rfl rfl rfl hp dX1_makeNew_2 ?_
  refine aw_aload_n X 0 dX1_makeNew_5 rfl ?_
  refine aw_iload_n X 2 dX1_makeNew_6 rfl ?_
  refine aw_nameI (fun I1 e1 => ?_)
  replace h := h I1 e1
  refine aw_putI X zf_RX1_15 rfl rfl rfl hp dX1_makeNew_7 ?_
  refine aw_aload_n X 0 dX1_makeNew_10 rfl ?_
  refine aw_iload_n X 3 dX1_makeNew_11 rfl ?_
  refine aw_nameI (fun I2 e2 => ?_)
  replace h := h I2 e2
  refine aw_putI X zf_RX1_18 rfl rfl rfl hp dX1_makeNew_12 ?_
  refine aw_aload_n X 0 dX1_makeNew_15 rfl ?_
  refine aw_iconst (v := (-1)) X dX1_makeNew_16 (by decide) ?_
  refine aw_nameI (fun I3 e3 => ?_)
  replace h := h I3 e3
  refine aw_putI X zf_RX1_21 rfl rfl rfl hp dX1_makeNew_17 ?_
  refine aw_aload_n X 0 dX1_makeNew_20 rfl ?_
  refine aw_iconst (v := 0) X dX1_makeNew_21 (by decide) ?_
  refine aw_nameI (fun I4 e4 => ?_)
  replace h := h I4 e4
  refine aw_putI X zf_RX1_24 rfl rfl rfl hp dX1_makeNew_22 ?_
  refine aw_iconst (v := 0) X dX1_makeNew_25 (by decide) ?_
  refine aw_istore X dX1_makeNew_26 (by decide) rfl ?_
  refine aw_perm (ks9 := [(0, vR p), (4, vI 0)]) [1, 0] rfl ?_
  exact h
set_option maxRecDepth 100000 in
theorem m_X4_addPane {l : Launch} {g : zG} {Q : Option zv → zI → zL → Prop} {I : zI} {L : zL} {p : Nat} {a1 : Int32} {a2 : Int32} {a3 : Int32} (hp : zsh p = (14, 10)) (h : (∀ I1 : zI, I1 = (zs I p 3 ((I p 3) + 1)) → if (v_X4_paneAt I1 p ((I1 p 3) - 1)) = 0 then (Q (some (vI (-1))) (zs I1 p 3 ((I1 p 3) - 1)) L) else (Call l g 1 M_X1_makeNew [vR (v_X4_paneAt I1 p ((I1 p 3) - 1)), vI a1, vI a2, vI a3] I1 L (zn fun I3 L3 => Q (some (vI ((I3 p 3) - 1))) I3 L3)))) : Call l g 2 M_X4_addPane [vR p, vI a1, vI a2, vI a3] I L Q := by
  refine aw_entry (by decide) (Nat.le_of_ble_eq_true rfl) (fun k hk (X : zX k g cX4_addPane RX4 5 (some .int) 2) E => ?_)
  show AW k g 5 I L 0 [(0, vR p), (1, vI a1), (2, vI a2), (3, vI a3)] []
  subst hk
  refine aw_aload_n X 0 dX4_addPane_0 rfl ?_
  refine aw_dup X dX4_addPane_1 rfl ?_
  refine aw_getI X zf_RX4_26 rfl hp dX4_addPane_2 ?_
  refine aw_iconst (v := 1) X dX4_addPane_5 (by decide) ?_
  refine aw_iadd X dX4_addPane_6 ?_
  refine aw_putI X zf_RX4_26 rfl rfl rfl hp dX4_addPane_7 ?_
  refine aw_aload_n X 0 dX4_addPane_10 rfl ?_
  refine aw_aload_n X 0 dX4_addPane_11 rfl ?_
  refine aw_nameI (fun I1 e1 => ?_)
  replace h := h I1 e1
  refine aw_getI X zf_RX4_26 rfl hp dX4_addPane_12 ?_
  refine aw_iconst (v := 1) X dX4_addPane_15 (by decide) ?_
  refine aw_isub X dX4_addPane_16 ?_
  refine aw_pV X (as := [vI ((I1 p 3) - 1)]) mf_X4_paneAt zw_364 (p_X4_paneAt hp) hp rfl rfl (by decide) (Nat.le_of_ble_eq_true rfl) dX4_addPane_17 ?_
  refine aw_astore X dX4_addPane_20 (by decide) rfl ?_
  refine aw_aload X 0 dX4_addPane_22 rfl ?_
  refine aw_ifnonnull X 39 dX4_addPane_24 rfl (fun c2 => ?_) (fun c2 => ?_)
  · replace h := zifp c2 h
    refine aw_aload_n X 1 dX4_addPane_27 rfl ?_
    refine aw_dup X dX4_addPane_28 rfl ?_
    refine aw_getI X zf_RX4_26 rfl hp dX4_addPane_29 ?_
    refine aw_iconst (v := 1) X dX4_addPane_32 (by decide) ?_
    refine aw_isub X dX4_addPane_33 ?_
    refine aw_putI X zf_RX4_26 rfl rfl rfl hp dX4_addPane_34 ?_
    refine aw_iconst (v := (-1)) X dX4_addPane_37 (by decide) ?_
    exact aw_iret X E rfl dX4_addPane_38 h
  · replace h := zifn c2 h
    refine aw_aload X 0 dX4_addPane_39 rfl ?_
    refine aw_iload_n X 2 dX4_addPane_41 rfl ?_
    refine aw_iload_n X 3 dX4_addPane_42 rfl ?_
    refine aw_iload_n X 4 dX4_addPane_43 rfl ?_
    refine aw_callV X (as := [vI a1, vI a2, vI a3]) mf_X1_makeNew zw_365 h (nn_X4_paneAt hp c2) rfl rfl (by decide) (Nat.le_of_ble_eq_true rfl) dX4_addPane_44 (fun v I3 L3 h => ?_)
    obtain ⟨rfl, h⟩ := h
    refine aw_aload_n X 1 dX4_addPane_47 rfl ?_
    refine aw_getI X zf_RX4_26 rfl hp dX4_addPane_48 ?_
    refine aw_iconst (v := 1) X dX4_addPane_51 (by decide) ?_
    refine aw_isub X dX4_addPane_52 ?_
    exact aw_iret X E rfl dX4_addPane_53 h
def v_X4_hasPaneRoom (I : zI) (p : Nat) : Int32 := if (I p 3) < 0 then 0 else if (I p 3) < 8 then 1 else (0 : Int32)
set_option maxRecDepth 100000 in
theorem p_X4_hasPaneRoom {l : Launch} {g : zG} {I : zI} {L : zL} {p : Nat} (hp : zsh p = (14, 10)) : Call l g 1 M_X4_hasPaneRoom [vR p] I L (zp (some (vI (v_X4_hasPaneRoom I p))) I L) := by
  refine aw_entry (by decide) (Nat.le_of_ble_eq_true rfl) (fun k hk (X : zX k g cX4_hasPaneRoom RX4 1 (some .boolean) 1) E => ?_)
  show AW k g 1 I L 0 [(0, vR p)] []
  subst hk
  have hJ : ∀ w1 : Int32, w1 = (if (I p 3) < 0 then 0 else if (I p 3) < 8 then 1 else (0 : Int32)) → zp (some (vI (v_X4_hasPaneRoom I p))) I L (some (vI w1)) I L := fun w1 e1 => ⟨by rw [e1]; rfl, rfl, rfl⟩
  refine aw_aload_n X 0 dX4_hasPaneRoom_0 rfl ?_
  refine aw_getI X zf_RX4_26 rfl hp dX4_hasPaneRoom_1 ?_
  have hJ3 : ∀ (w1 : Int32), w1 = (if (I p 3) < 0 then 0 else if (I p 3) < 8 then 1 else (0 : Int32)) → AW k g 1 I L 24 [] [vI w1] := by
    intro w1 q1
    subst q1
    exact aw_zret X E rfl (by (repeat' split) <;> first | exact Or.inl rfl | exact Or.inr rfl) dX4_hasPaneRoom_24 (hJ _ rfl)
  refine aw_if_lt X 23 dX4_hasPaneRoom_4 rfl (fun c1 => ?_) (fun c1 => ?_)
  · refine aw_iconst (v := 0) X dX4_hasPaneRoom_23 (by decide) ?_
    refine aw_perm (ks9 := []) [] rfl ?_
    exact hJ3 _ (if_pos c1).symm
  · refine aw_aload_n X 0 dX4_hasPaneRoom_7 rfl ?_
    refine aw_getI X zf_RX4_26 rfl hp dX4_hasPaneRoom_8 ?_
    refine aw_aload_n X 0 dX4_hasPaneRoom_11 rfl ?_
    refine aw_getR X zf_RX4_17 rfl hp (zL4 hp).2.1.1 dX4_hasPaneRoom_12 ?_
    refine aw_alen (v := 8) X (zL4 hp).2.1.2 (by decide) (by decide) dX4_hasPaneRoom_15 ?_
    refine aw_icmp_gen X 23 dX4_hasPaneRoom_16 rfl (fun c2 => ?_) (fun c2 => ?_)
    · refine aw_iconst (v := 1) X dX4_hasPaneRoom_19 (by decide) ?_
      refine aw_goto X 24 dX4_hasPaneRoom_20 rfl ?_
      refine aw_perm (ks9 := []) [] rfl ?_
      exact hJ3 _ ((if_pos c2).symm.trans (if_neg c1).symm)
    · refine aw_iconst (v := 0) X dX4_hasPaneRoom_23 (by decide) ?_
      refine aw_perm (ks9 := []) [] rfl ?_
      exact hJ3 _ ((if_neg c2).symm.trans (if_neg c1).symm)
theorem b_X4_hasPaneRoom {I : zI} {p : Nat} : v_X4_hasPaneRoom I p = 0 ∨ v_X4_hasPaneRoom I p = 1 := by
  unfold v_X4_hasPaneRoom
  repeat' split
  all_goals first | exact Or.inl rfl | exact Or.inr rfl
def v_X3_hasPane (I : zI) (p : Nat) : Int32 := if (I p 4) = 0 then if (I p 3) = (-1) then 0 else (1 : Int32) else (0 : Int32)
set_option maxRecDepth 100000 in
theorem p_X3_hasPane {l : Launch} {g : zG} {I : zI} {L : zL} {p : Nat} (hp : zsh p = (13, 5)) : Call l g 1 M_X3_hasPane [vR p] I L (zp (some (vI (v_X3_hasPane I p))) I L) := by
  refine aw_entry (by decide) (Nat.le_of_ble_eq_true rfl) (fun k hk (X : zX k g cX3_hasPane RX3 1 (some .boolean) 1) E => ?_)
  show AW k g 1 I L 0 [(0, vR p)] []
  subst hk
  have hJ : ∀ w1 : Int32, w1 = (if (I p 4) = 0 then if (I p 3) = (-1) then 0 else (1 : Int32) else (0 : Int32)) → zp (some (vI (v_X3_hasPane I p))) I L (some (vI w1)) I L := fun w1 e1 => ⟨by rw [e1]; rfl, rfl, rfl⟩
  refine aw_aload_n X 0 dX3_hasPane_0 rfl ?_
  refine aw_getI X zf_RX3_25 rfl hp dX3_hasPane_1 ?_
  have hJ3 : ∀ (w1 : Int32), w1 = (if (I p 4) = 0 then if (I p 3) = (-1) then 0 else (1 : Int32) else (0 : Int32)) → AW k g 1 I L 20 [] [vI w1] := by
    intro w1 q1
    subst q1
    exact aw_zret X E rfl (by (repeat' split) <;> first | exact Or.inl rfl | exact Or.inr rfl) dX3_hasPane_20 (hJ _ rfl)
  refine aw_if_ne X 19 dX3_hasPane_4 rfl (fun c1 => ?_) (fun c1 => ?_)
  · refine aw_iconst (v := 0) X dX3_hasPane_19 (by decide) ?_
    refine aw_perm (ks9 := []) [] rfl ?_
    exact hJ3 _ (if_neg c1).symm
  · refine aw_aload_n X 0 dX3_hasPane_7 rfl ?_
    refine aw_getI X zf_RX3_22 rfl hp dX3_hasPane_8 ?_
    refine aw_iconst (v := (-1)) X dX3_hasPane_11 (by decide) ?_
    refine aw_icmp_eq X 19 dX3_hasPane_12 rfl (fun c2 => ?_) (fun c2 => ?_)
    · refine aw_iconst (v := 0) X dX3_hasPane_19 (by decide) ?_
      refine aw_perm (ks9 := []) [] rfl ?_
      exact hJ3 _ ((if_pos c2).symm.trans (if_pos c1).symm)
    · refine aw_iconst (v := 1) X dX3_hasPane_15 (by decide) ?_
      refine aw_goto X 20 dX3_hasPane_16 rfl ?_
      refine aw_perm (ks9 := []) [] rfl ?_
      exact hJ3 _ ((if_neg c2).symm.trans (if_pos c1).symm)
theorem b_X3_hasPane {I : zI} {p : Nat} : v_X3_hasPane I p = 0 ∨ v_X3_hasPane I p = 1 := by
  unfold v_X3_hasPane
  repeat' split
  all_goals first | exact Or.inl rfl | exact Or.inr rfl
def v_X3_hasRow (I : zI) (p : Nat) : Int32 := I p 4
def k_X3_hasRow (I : zI) (p : Nat) : Prop := ((I p 4) = 0 ∨ (I p 4) = 1)
set_option maxRecDepth 100000 in
theorem p_X3_hasRow {l : Launch} {g : zG} {I : zI} {L : zL} {p : Nat} (hp : zsh p = (13, 5)) (hk0 : k_X3_hasRow I p) : Call l g 1 M_X3_hasRow [vR p] I L (zp (some (vI (v_X3_hasRow I p))) I L) := by
  refine aw_entry (by decide) (Nat.le_of_ble_eq_true rfl) (fun k hk (X : zX k g cX3_hasRow RX3 1 (some .boolean) 1) E => ?_)
  show AW k g 1 I L 0 [(0, vR p)] []
  subst hk
  have n1 : ((I p 4) = 0 ∨ (I p 4) = 1) := hk0
  have hJ : ∀ w1 : Int32, w1 = (I p 4) → zp (some (vI (v_X3_hasRow I p))) I L (some (vI w1)) I L := fun w1 e1 => ⟨by rw [e1]; rfl, rfl, rfl⟩
  refine aw_aload_n X 0 dX3_hasRow_0 rfl ?_
  refine aw_getI X zf_RX3_25 rfl hp dX3_hasRow_1 ?_
  exact aw_zret X E rfl n1 dX3_hasRow_4 (hJ _ rfl)
theorem b_X3_hasRow {I : zI} {p : Nat} (hk0 : k_X3_hasRow I p) : v_X3_hasRow I p = 0 ∨ v_X3_hasRow I p = 1 := by
  unfold v_X3_hasRow
  repeat' split
  all_goals first | exact Or.inl rfl | exact Or.inr rfl | exact hk0 | exact hk0.1 | exact hk0.2
set_option maxRecDepth 100000 in
theorem m_X3_takeNothing {l : Launch} {g : zG} {Q : Option zv → zI → zL → Prop} {I : zI} {L : zL} {p : Nat} (hp : zsh p = (13, 5)) (h : (∀ I1 : zI, I1 = (zs I p 4 0) → (∀ I2 : zI, I2 = (zs I1 p 2 0) → Q none (zs I2 p 3 (-1)) L))) : Call l g 1 M_X3_takeNothing [vR p] I L Q := by
  refine aw_entry (by decide) (Nat.le_of_ble_eq_true rfl) (fun k hk (X : zX k g cX3_takeNothing RX3 1 none 1) E => ?_)
  show AW k g 1 I L 0 [(0, vR p)] []
  subst hk
  refine aw_aload_n X 0 dX3_takeNothing_0 rfl ?_
  refine aw_iconst (v := 0) X dX3_takeNothing_1 (by decide) ?_
  refine aw_putZ X zf_RX3_25 rfl rfl rfl (Or.inl rfl) hp dX3_takeNothing_2 ?_
  refine aw_aload_n X 0 dX3_takeNothing_5 rfl ?_
  refine aw_iconst (v := 0) X dX3_takeNothing_6 (by decide) ?_
  refine aw_nameI (fun I1 e1 => ?_)
  replace h := h I1 e1
  refine aw_putI X zf_RX3_19 rfl rfl rfl hp dX3_takeNothing_7 ?_
  refine aw_aload_n X 0 dX3_takeNothing_10 rfl ?_
  refine aw_iconst (v := (-1)) X dX3_takeNothing_11 (by decide) ?_
  refine aw_nameI (fun I2 e2 => ?_)
  replace h := h I2 e2
  refine aw_putI X zf_RX3_22 rfl rfl rfl hp dX3_takeNothing_12 ?_
  exact aw_vret X E rfl dX3_takeNothing_15 h
set_option maxRecDepth 100000 in
theorem s_X3_takeRow_22 {k : zK} {g : zG} {Q : Option zv → zI → zL → Prop} {I : zI} {L : zL} {p : Nat} {y3 : Int32} (hp : zsh p = (13, 5)) (X : zX k g cX3_takeRow RX3 4 none 1) (E : zE k g Q) (h : if y3 < 160 then (vp_in y3 160 ∧ (AW k g 4 I (zs L (p + 1) y3.toNatClampNeg 0) 22 [(0, vR p), (3, vI (y3 + 1))] [])) else (Q none I L)) : AW k g 4 I L 22 [(0, vR p), (3, vI y3)] [] := by
  refine aw_iload_n X 1 dX3_takeRow_22 rfl ?_
  refine aw_aload_n X 0 dX3_takeRow_23 rfl ?_
  refine aw_getR X zf_RX3_11 rfl hp (zL3 hp).1 dX3_takeRow_24 ?_
  refine aw_alen (v := 160) X (zL3 hp).2 (by decide) (by decide) dX3_takeRow_27 ?_
  refine aw_icmp_gen X 44 dX3_takeRow_28 rfl (fun c1 => ?_) (fun c1 => ?_)
  · replace h := zifp c1 h
    refine aw_aload_n X 0 dX3_takeRow_31 rfl ?_
    refine aw_getR X zf_RX3_11 rfl hp (zL3 hp).1 dX3_takeRow_32 ?_
    refine aw_iload_n X 1 dX3_takeRow_35 rfl ?_
    refine aw_lconst (v := 0) X dX3_takeRow_36 (by decide) ?_
    have n2 := h.1
    replace h := h.2
    refine aw_lastj (j := y3.toNatClampNeg) X (zL3 hp).2 n2 rfl dX3_takeRow_37 ?_
    refine aw_iinc (v := y3 + 1) X 1 dX3_takeRow_38 rfl rfl (by decide) rfl ?_
    refine aw_goto X 22 dX3_takeRow_41 rfl ?_
    refine aw_perm (ks9 := [(0, vR p), (3, vI (y3 + 1))]) [1, 0] rfl ?_
    exact h
  · replace h := zifn c1 h
    exact aw_vret X E rfl dX3_takeRow_44 h
set_option maxRecDepth 100000 in
theorem m_X3_takeRow {l : Launch} {g : zG} {Q : Option zv → zI → zL → Prop} {I : zI} {L : zL} {p : Nat} {a1 : Int32} {a2 : Int32} (hp : zsh p = (13, 5)) (h : ∀ k : zK, kl k = l → zX k g cX3_takeRow RX3 4 none 1 → zE k g Q → ((∀ I1 : zI, I1 = (zs I p 4 1) → (∀ I2 : zI, I2 = (zs I1 p 1 a1) → (∀ I3 : zI, I3 = (zs I2 p 2 a2) → AW k g 4 (zs I3 p 3 (-1)) L 22 [(0, vR p), (3, vI 0)] []))))) : Call l g 1 M_X3_takeRow [vR p, vI a1, vI a2] I L Q := by
  refine aw_entry (by decide) (Nat.le_of_ble_eq_true rfl) (fun k hk (X : zX k g cX3_takeRow RX3 4 none 1) E => ?_)
  show AW k g 4 I L 0 [(0, vR p), (1, vI a1), (2, vI a2)] []
  replace h := h k hk X E
  subst hk
  refine aw_aload_n X 0 dX3_takeRow_0 rfl ?_
  refine aw_iconst (v := 1) X dX3_takeRow_1 (by decide) ?_
  refine aw_putZ X zf_RX3_25 rfl rfl rfl (Or.inr rfl) hp dX3_takeRow_2 ?_
  refine aw_aload_n X 0 dX3_takeRow_5 rfl ?_
  refine aw_iload_n X 1 dX3_takeRow_6 rfl ?_
  refine aw_nameI (fun I1 e1 => ?_)
  replace h := h I1 e1
  refine aw_putI X zf_RX3_15 rfl rfl rfl hp dX3_takeRow_7 ?_
  refine aw_aload_n X 0 dX3_takeRow_10 rfl ?_
  refine aw_iload_n X 2 dX3_takeRow_11 rfl ?_
  refine aw_nameI (fun I2 e2 => ?_)
  replace h := h I2 e2
  refine aw_putI X zf_RX3_19 rfl rfl rfl hp dX3_takeRow_12 ?_
  refine aw_aload_n X 0 dX3_takeRow_15 rfl ?_
  refine aw_iconst (v := (-1)) X dX3_takeRow_16 (by decide) ?_
  refine aw_nameI (fun I3 e3 => ?_)
  replace h := h I3 e3
  refine aw_putI X zf_RX3_22 rfl rfl rfl hp dX3_takeRow_17 ?_
  refine aw_iconst (v := 0) X dX3_takeRow_20 (by decide) ?_
  refine aw_istore_n X dX3_takeRow_21 (by decide) rfl ?_
  refine aw_perm (ks9 := [(0, vR p), (3, vI 0)]) [1, 0] rfl ?_
  exact h
def v_X1_isScratched (I : zI) (p : Nat) (a1 : Int32) : Int32 := v_X1_hasCell (I p 4) a1
set_option maxRecDepth 100000 in
theorem p_X1_isScratched {l : Launch} {g : zG} {I : zI} {L : zL} {p : Nat} {a1 : Int32} (hp : zsh p = (11, 6)) : Call l g 2 M_X1_isScratched [vR p, vI a1] I L (zp (some (vI (v_X1_isScratched I p a1))) I L) := by
  refine aw_entry (by decide) (Nat.le_of_ble_eq_true rfl) (fun k hk (X : zX k g cX1_isScratched RX1 2 (some .boolean) 2) E => ?_)
  show AW k g 2 I L 0 [(0, vR p), (1, vI a1)] []
  subst hk
  have hJ : ∀ w1 : Int32, w1 = (v_X1_hasCell (I p 4) a1) → zp (some (vI (v_X1_isScratched I p a1))) I L (some (vI w1)) I L := fun w1 e1 => ⟨by rw [e1]; rfl, rfl, rfl⟩
  refine aw_aload_n X 0 dX1_isScratched_0 rfl ?_
  refine aw_getI X zf_RX1_24 rfl hp dX1_isScratched_1 ?_
  refine aw_iload_n X 1 dX1_isScratched_4 rfl ?_
  refine aw_pS X (as := [vI (I p 4), vI a1]) mf_X1_hasCell zw_607 (p_X1_hasCell) rfl rfl (by decide) (Nat.le_of_ble_eq_true rfl) dX1_isScratched_5 ?_
  exact aw_zret X E rfl (b_X1_hasCell) dX1_isScratched_8 (hJ _ rfl)
theorem b_X1_isScratched {I : zI} {p : Nat} {a1 : Int32} : v_X1_isScratched I p a1 = 0 ∨ v_X1_isScratched I p a1 = 1 := by unfold v_X1_isScratched; exact (b_X1_hasCell)
set_option maxRecDepth 100000 in
theorem m_X1_scratchOff {l : Launch} {g : zG} {Q : Option zv → zI → zL → Prop} {I : zI} {L : zL} {p : Nat} {a1 : Int32} (hp : zsh p = (11, 6)) (h : (∀ I1 : zI, I1 = (zs I p 4 ((I p 4) ||| (jshl 1 a1))) → if a1 < 0 then (Q (some (vI (v_X1_iceOn I p a1))) I1 L) else (if a1 < 16 then (Q (some (vI (v_X1_iceOn I p a1))) (zs I1 (p + 1) a1.toNatClampNeg 0) L) else (Q (some (vI (v_X1_iceOn I p a1))) I1 L)))) : Call l g 2 M_X1_scratchOff [vR p, vI a1] I L Q := by
  refine aw_entry (by decide) (Nat.le_of_ble_eq_true rfl) (fun k hk (X : zX k g cX1_scratchOff RX1 3 (some .int) 2) E => ?_)
  show AW k g 3 I L 0 [(0, vR p), (1, vI a1)] []
  subst hk
  refine aw_aload_n X 0 dX1_scratchOff_0 rfl ?_
  refine aw_iload_n X 1 dX1_scratchOff_1 rfl ?_
  refine aw_pV X (as := [vI a1]) mf_X1_iceOn zw_438 (p_X1_iceOn hp) hp rfl rfl (by decide) (Nat.le_of_ble_eq_true rfl) dX1_scratchOff_2 ?_
  refine aw_istore_n X dX1_scratchOff_5 (by decide) rfl ?_
  refine aw_aload_n X 1 dX1_scratchOff_6 rfl ?_
  refine aw_dup X dX1_scratchOff_7 rfl ?_
  refine aw_getI X zf_RX1_24 rfl hp dX1_scratchOff_8 ?_
  refine aw_iconst (v := 1) X dX1_scratchOff_11 (by decide) ?_
  refine aw_iload_n X 2 dX1_scratchOff_12 rfl ?_
  refine aw_ishl X dX1_scratchOff_13 ?_
  refine aw_ior X dX1_scratchOff_14 ?_
  refine aw_putI X zf_RX1_24 rfl rfl rfl hp dX1_scratchOff_15 ?_
  refine aw_iload_n X 2 dX1_scratchOff_18 rfl ?_
  refine aw_nameI (fun I1 e1 => ?_)
  replace h := h I1 e1
  refine aw_if_lt X 38 dX1_scratchOff_19 rfl (fun c2 => ?_) (fun c2 => ?_)
  · replace h := zifp c2 h
    refine aw_iload_n X 0 dX1_scratchOff_38 rfl ?_
    exact aw_iret X E rfl dX1_scratchOff_39 h
  · replace h := zifn c2 h
    refine aw_iload_n X 2 dX1_scratchOff_22 rfl ?_
    refine aw_aload_n X 1 dX1_scratchOff_23 rfl ?_
    refine aw_getR X zf_RX1_27 rfl hp (zL1 hp).1 dX1_scratchOff_24 ?_
    refine aw_alen (v := 16) X (zL1 hp).2 (by decide) (by decide) dX1_scratchOff_27 ?_
    refine aw_icmp_gen X 38 dX1_scratchOff_28 rfl (fun c3 => ?_) (fun c3 => ?_)
    · replace h := zifp c3 h
      refine aw_aload_n X 1 dX1_scratchOff_31 rfl ?_
      refine aw_getR X zf_RX1_27 rfl hp (zL1 hp).1 dX1_scratchOff_32 ?_
      refine aw_iload_n X 2 dX1_scratchOff_35 rfl ?_
      refine aw_iconst (v := 0) X dX1_scratchOff_36 (by decide) ?_
      refine aw_iastj (j := a1.toNatClampNeg) X (zL1 hp).2 (zinof c2 c3 (by decide)) rfl dX1_scratchOff_37 ?_
      refine aw_iload_n X 0 dX1_scratchOff_38 rfl ?_
      exact aw_iret X E rfl dX1_scratchOff_39 h
    · replace h := zifn c3 h
      refine aw_iload_n X 0 dX1_scratchOff_38 rfl ?_
      exact aw_iret X E rfl dX1_scratchOff_39 h
def v_X3_lowestBits (I : zI) (p : Nat) (a1 : Int64) : Int64 := if (I p 1) = 0 then a1.toInt32.toInt8.toInt32.toInt64 else if (I p 1) = 1 then a1.toInt32.toInt16.toInt32.toInt64 else if (I p 1) = 2 then a1.toInt32.toInt64 else a1
set_option maxRecDepth 100000 in
theorem p_X3_lowestBits {l : Launch} {g : zG} {I : zI} {L : zL} {p : Nat} {a1 : Int64} (hp : zsh p = (13, 5)) : Call l g 1 M_X3_lowestBits [vR p, vL a1] I L (zp (some (vL (v_X3_lowestBits I p a1))) I L) := by
  refine aw_entry (by decide) (Nat.le_of_ble_eq_true rfl) (fun k hk (X : zX k g cX3_lowestBits RX3 3 (some .long) 1) E => ?_)
  show AW k g 3 I L 0 [(0, vR p), (1, vL a1)] []
  subst hk
  have hJ : ∀ w1 : Int64, w1 = (if (I p 1) = 0 then a1.toInt32.toInt8.toInt32.toInt64 else if (I p 1) = 1 then a1.toInt32.toInt16.toInt32.toInt64 else if (I p 1) = 2 then a1.toInt32.toInt64 else a1) → zp (some (vL (v_X3_lowestBits I p a1))) I L (some (vL w1)) I L := fun w1 e1 => ⟨by rw [e1]; rfl, rfl, rfl⟩
  refine aw_aload_n X 0 dX3_lowestBits_0 rfl ?_
  refine aw_getI X zf_RX3_15 rfl hp dX3_lowestBits_1 ?_
  by_cases c1 : (I p 1) = 0
  · refine aw_tableIn X 0 32 dX3_lowestBits_4 (by rw [c1]; rfl) (by decide) rfl rfl ?_
    refine aw_lload_n X 1 dX3_lowestBits_32 rfl ?_
    refine aw_l2i X dX3_lowestBits_33 ?_
    refine aw_i2b X dX3_lowestBits_34 ?_
    refine aw_i2l X dX3_lowestBits_35 ?_
    exact aw_lret X E rfl dX3_lowestBits_36 (hJ _ (if_pos c1).symm)
  by_cases c2 : (I p 1) = 1
  · refine aw_tableIn X 1 37 dX3_lowestBits_4 (by rw [c2]; rfl) (by decide) rfl rfl ?_
    refine aw_lload_n X 1 dX3_lowestBits_37 rfl ?_
    refine aw_l2i X dX3_lowestBits_38 ?_
    refine aw_i2s X dX3_lowestBits_39 ?_
    refine aw_i2l X dX3_lowestBits_40 ?_
    exact aw_lret X E rfl dX3_lowestBits_41 (hJ _ ((if_neg c1).trans (if_pos c2)).symm)
  by_cases c3 : (I p 1) = 2
  · refine aw_tableIn X 2 42 dX3_lowestBits_4 (by rw [c3]; rfl) (by decide) rfl rfl ?_
    refine aw_lload_n X 1 dX3_lowestBits_42 rfl ?_
    refine aw_l2i X dX3_lowestBits_43 ?_
    refine aw_i2l X dX3_lowestBits_44 ?_
    exact aw_lret X E rfl dX3_lowestBits_45 (hJ _ ((if_neg c1).trans ((if_neg c2).trans (if_pos c3))).symm)
  have e0 := ztn (n := 0) rfl c1
  have e1 := ztn (n := 1) rfl c2
  have e2 := ztn (n := 2) rfl c3
  refine aw_tableOut X 46 dX3_lowestBits_4 (by omega) rfl ?_
  refine aw_lload_n X 1 dX3_lowestBits_46 rfl ?_
  exact aw_lret X E rfl dX3_lowestBits_47 (hJ _ ((if_neg c1).trans ((if_neg c2).trans (if_neg c3))).symm)
set_option maxRecDepth 100000 in
theorem m_X3_put {l : Launch} {g : zG} {Q : Option zv → zI → zL → Prop} {I : zI} {L : zL} {p : Nat} {a1 : Int32} {a2 : Int64} (hp : zsh p = (13, 5)) (h : if a1 < 0 then (Q none I L) else (if a1 < (I p 2) then (if a1 < 160 then (Q none I (zs L (p + 1) a1.toNatClampNeg (v_X3_lowestBits I p a2))) else (Q none I L)) else (Q none I L))) : Call l g 2 M_X3_put [vR p, vI a1, vL a2] I L Q := by
  refine aw_entry (by decide) (Nat.le_of_ble_eq_true rfl) (fun k hk (X : zX k g cX3_put RX3 4 none 2) E => ?_)
  show AW k g 4 I L 0 [(0, vR p), (1, vI a1), (2, vL a2)] []
  subst hk
  refine aw_iload_n X 1 dX3_put_0 rfl ?_
  refine aw_if_lt X 32 dX3_put_1 rfl (fun c1 => ?_) (fun c1 => ?_)
  · replace h := zifp c1 h
    exact aw_vret X E rfl dX3_put_32 h
  · replace h := zifn c1 h
    refine aw_iload_n X 1 dX3_put_4 rfl ?_
    refine aw_aload_n X 0 dX3_put_5 rfl ?_
    refine aw_getI X zf_RX3_19 rfl hp dX3_put_6 ?_
    refine aw_icmp_gen X 32 dX3_put_9 rfl (fun c2 => ?_) (fun c2 => ?_)
    · replace h := zifp c2 h
      refine aw_iload_n X 1 dX3_put_12 rfl ?_
      refine aw_aload_n X 0 dX3_put_13 rfl ?_
      refine aw_getR X zf_RX3_11 rfl hp (zL3 hp).1 dX3_put_14 ?_
      refine aw_alen (v := 160) X (zL3 hp).2 (by decide) (by decide) dX3_put_17 ?_
      refine aw_icmp_gen X 32 dX3_put_18 rfl (fun c3 => ?_) (fun c3 => ?_)
      · replace h := zifp c3 h
        refine aw_aload_n X 0 dX3_put_21 rfl ?_
        refine aw_getR X zf_RX3_11 rfl hp (zL3 hp).1 dX3_put_22 ?_
        refine aw_iload_n X 1 dX3_put_25 rfl ?_
        refine aw_aload_n X 0 dX3_put_26 rfl ?_
        refine aw_lload_n X 2 dX3_put_27 rfl ?_
        refine aw_pV X (as := [vL a2]) mf_X3_lowestBits zw_294 (p_X3_lowestBits hp) hp rfl rfl (by decide) (Nat.le_of_ble_eq_true rfl) dX3_put_28 ?_
        refine aw_lastj (j := a1.toNatClampNeg) X (zL3 hp).2 (zinof c1 c3 (by decide)) rfl dX3_put_31 ?_
        exact aw_vret X E rfl dX3_put_32 h
      · replace h := zifn c3 h
        exact aw_vret X E rfl dX3_put_32 h
    · replace h := zifn c2 h
      exact aw_vret X E rfl dX3_put_32 h
set_option maxRecDepth 100000 in
theorem m_X3_takePane {l : Launch} {g : zG} {Q : Option zv → zI → zL → Prop} {I : zI} {L : zL} {p : Nat} {a1 : Int32} (hp : zsh p = (13, 5)) (h : (∀ I1 : zI, I1 = (zs I p 4 0) → (∀ I2 : zI, I2 = (zs I1 p 2 0) → Q none (zs I2 p 3 a1) L))) : Call l g 1 M_X3_takePane [vR p, vI a1] I L Q := by
  refine aw_entry (by decide) (Nat.le_of_ble_eq_true rfl) (fun k hk (X : zX k g cX3_takePane RX3 2 none 1) E => ?_)
  show AW k g 2 I L 0 [(0, vR p), (1, vI a1)] []
  subst hk
  refine aw_aload_n X 0 dX3_takePane_0 rfl ?_
  refine aw_iconst (v := 0) X dX3_takePane_1 (by decide) ?_
  refine aw_putZ X zf_RX3_25 rfl rfl rfl (Or.inl rfl) hp dX3_takePane_2 ?_
  refine aw_aload_n X 0 dX3_takePane_5 rfl ?_
  refine aw_iconst (v := 0) X dX3_takePane_6 (by decide) ?_
  refine aw_nameI (fun I1 e1 => ?_)
  replace h := h I1 e1
  refine aw_putI X zf_RX3_19 rfl rfl rfl hp dX3_takePane_7 ?_
  refine aw_aload_n X 0 dX3_takePane_10 rfl ?_
  refine aw_iload_n X 1 dX3_takePane_11 rfl ?_
  refine aw_nameI (fun I2 e2 => ?_)
  replace h := h I2 e2
  refine aw_putI X zf_RX3_22 rfl rfl rfl hp dX3_takePane_12 ?_
  exact aw_vret X E rfl dX3_takePane_15 h
set_option maxRecDepth 100000 in
theorem m_X4_drawBelow {l : Launch} {g : zG} {Q : Option zv → zI → zL → Prop} {I : zI} {L : zL} {p : Nat} {a1 : Int32} (hp : zsh p = (14, 10)) (h : (∀ I1 : zI, I1 = (zs I p 9 (((I p 9) * 1103515245) + 12345)) → Q (some (vI (if 0 < a1 then jrem (jushr (I1 p 9) 16) a1 else (0 : Int32)))) I1 L)) : Call l g 1 M_X4_drawBelow [vR p, vI a1] I L Q := by
  refine aw_entry (by decide) (Nat.le_of_ble_eq_true rfl) (fun k hk (X : zX k g cX4_drawBelow RX4 2 (some .int) 1) E => ?_)
  show AW k g 2 I L 0 [(0, vR p), (1, vI a1)] []
  subst hk
  refine aw_aload_n X 0 dX4_drawBelow_0 rfl ?_
  refine aw_aload_n X 0 dX4_drawBelow_1 rfl ?_
  refine aw_getI X zf_RX4_44 rfl hp dX4_drawBelow_2 ?_
  refine aw_ldc X zw_751 dX4_drawBelow_5 ?_
  refine aw_imul X dX4_drawBelow_7 ?_
  refine aw_sipush (v := 12345) X dX4_drawBelow_8 (by decide) ?_
  refine aw_iadd X dX4_drawBelow_11 ?_
  refine aw_putI X zf_RX4_44 rfl rfl rfl hp dX4_drawBelow_12 ?_
  refine aw_iload_n X 1 dX4_drawBelow_15 rfl ?_
  refine aw_nameI (fun I1 e1 => ?_)
  replace h := h I1 e1
  have hJ3 : ∀ (w1 : Int32), w1 = (if 0 < a1 then jrem (jushr (I1 p 9) 16) a1 else (0 : Int32)) → AW k g 2 I1 L 32 [] [vI w1] := by
    intro w1 q1
    subst q1
    exact aw_iret X E rfl dX4_drawBelow_32 h
  refine aw_if_len X 31 dX4_drawBelow_16 rfl (fun c2 => ?_) (fun c2 => ?_)
  · refine aw_aload_n X 0 dX4_drawBelow_19 rfl ?_
    refine aw_getI X zf_RX4_44 rfl hp dX4_drawBelow_20 ?_
    refine aw_bipush (v := 16) X dX4_drawBelow_23 (by decide) ?_
    refine aw_iushr X dX4_drawBelow_25 ?_
    refine aw_iload_n X 1 dX4_drawBelow_26 rfl ?_
    refine aw_irem X dX4_drawBelow_27 (fun e => absurd (e ▸ c2 : (0:Int32) < 0) (by decide)) ?_
    refine aw_goto X 32 dX4_drawBelow_28 rfl ?_
    refine aw_perm (ks9 := []) [] rfl ?_
    exact hJ3 _ (if_pos c2).symm
  · refine aw_iconst (v := 0) X dX4_drawBelow_31 (by decide) ?_
    refine aw_perm (ks9 := []) [] rfl ?_
    exact hJ3 _ (if_neg c2).symm
set_option maxRecDepth 100000 in
theorem s_X4_passWinter_4 {k : zK} {g : zG} {Q : Option zv → zI → zL → Prop} {I : zI} {L : zL} {p : Nat} {y1 : Int32} {y2 : Int32} {y3 : Int32} (hp : zsh p = (14, 10)) (X : zX k g cX4_passWinter RX4 4 (some .int) 6) (E : zE k g Q) (h : if y3 < y1 then (Call (kl k) g 1 M_X4_drawBelow [vR p, vI 41] I L (zi fun r2 I2 L2 => (∀ I3 : zI, I3 = (zs I2 p 4 r2) → Call (kl k) g 1 M_X4_drawBelow [vR p, vI 10] I3 L2 (zi fun r4 I4 L4 => (∀ I5 : zI, I5 = (zs I4 p 5 r4) → Call (kl k) g 5 M_X4_passNight [vR p] I5 L4 (zi fun r6 I6 L6 => AW k g 4 I6 L6 4 [(0, vR p), (1, vI y1), (2, vI (y2 + (if r6 = 0 then 0 else (1 : Int32)))), (3, vI (y3 + 1))] [])))))) else (Q (some (vI y2)) I L)) : AW k g 4 I L 4 [(0, vR p), (1, vI y1), (2, vI y2), (3, vI y3)] [] := by
  refine aw_iload_n X 3 dX4_passWinter_4 rfl ?_
  refine aw_iload_n X 1 dX4_passWinter_5 rfl ?_
  refine aw_icmp_gen X 50 dX4_passWinter_6 rfl (fun c1 => ?_) (fun c1 => ?_)
  · replace h := zifp c1 h
    refine aw_aload_n X 0 dX4_passWinter_9 rfl ?_
    refine aw_aload_n X 0 dX4_passWinter_10 rfl ?_
    refine aw_bipush (v := 41) X dX4_passWinter_11 (by decide) ?_
    refine aw_callV X (as := [vI 41]) mf_X4_drawBelow zw_747 h hp rfl rfl (by decide) (Nat.le_of_ble_eq_true rfl) dX4_passWinter_13 (fun v I2 L2 h => ?_)
    obtain ⟨r2, rfl, h⟩ := h
    refine aw_putI X zf_RX4_29 rfl rfl rfl hp dX4_passWinter_16 ?_
    refine aw_aload_n X 0 dX4_passWinter_19 rfl ?_
    refine aw_aload_n X 0 dX4_passWinter_20 rfl ?_
    refine aw_bipush (v := 10) X dX4_passWinter_21 (by decide) ?_
    refine aw_nameI (fun I3 e3 => ?_)
    replace h := h I3 e3
    refine aw_callV X (as := [vI 10]) mf_X4_drawBelow zw_747 h hp rfl rfl (by decide) (Nat.le_of_ble_eq_true rfl) dX4_passWinter_23 (fun v I4 L4 h => ?_)
    obtain ⟨r4, rfl, h⟩ := h
    refine aw_putI X zf_RX4_32 rfl rfl rfl hp dX4_passWinter_26 ?_
    refine aw_iload_n X 2 dX4_passWinter_29 rfl ?_
    refine aw_aload_n X 0 dX4_passWinter_30 rfl ?_
    refine aw_nameI (fun I5 e5 => ?_)
    replace h := h I5 e5
    refine aw_callV X (as := []) mf_X4_passNight zw_752 h hp rfl rfl (by decide) (Nat.le_of_ble_eq_true rfl) dX4_passWinter_31 (fun v I6 L6 h => ?_)
    obtain ⟨r6, rfl, h⟩ := h
    have hJ8 : ∀ (w1 : Int32), w1 = (if r6 = 0 then 0 else (1 : Int32)) → AW k g 4 I6 L6 42 [(0, vR p), (1, vI y1), (3, vI y3)] [vI w1, vI y2] := by
      intro w1 q1
      subst q1
      refine aw_iadd X dX4_passWinter_42 ?_
      refine aw_istore_n X dX4_passWinter_43 (by decide) rfl ?_
      refine aw_iinc (v := y3 + 1) X 3 dX4_passWinter_44 rfl rfl (by decide) rfl ?_
      refine aw_goto X 4 dX4_passWinter_47 rfl ?_
      refine aw_perm (ks9 := [(0, vR p), (1, vI y1), (2, vI (y2 + (if r6 = 0 then 0 else (1 : Int32)))), (3, vI (y3 + 1))]) [2, 3, 1, 0] rfl ?_
      exact h
    refine aw_if_ne X 41 dX4_passWinter_34 rfl (fun c7 => ?_) (fun c7 => ?_)
    · refine aw_iconst (v := 1) X dX4_passWinter_41 (by decide) ?_
      refine aw_perm (ks9 := [(0, vR p), (1, vI y1), (3, vI y3)]) [0, 1, 3] rfl ?_
      exact hJ8 _ (if_neg c7).symm
    · refine aw_iconst (v := 0) X dX4_passWinter_37 (by decide) ?_
      refine aw_goto X 42 dX4_passWinter_38 rfl ?_
      refine aw_perm (ks9 := [(0, vR p), (1, vI y1), (3, vI y3)]) [0, 1, 3] rfl ?_
      exact hJ8 _ (if_pos c7).symm
  · replace h := zifn c1 h
    refine aw_iload_n X 2 dX4_passWinter_50 rfl ?_
    exact aw_iret X E rfl dX4_passWinter_51 h
set_option maxRecDepth 100000 in
theorem m_X4_passWinter {l : Launch} {g : zG} {Q : Option zv → zI → zL → Prop} {I : zI} {L : zL} {p : Nat} {a1 : Int32} (hp : zsh p = (14, 10)) (h : ∀ k : zK, kl k = l → zX k g cX4_passWinter RX4 4 (some .int) 6 → zE k g Q → (AW k g 4 I L 4 [(0, vR p), (1, vI a1), (2, vI 0), (3, vI 0)] [])) : Call l g 6 M_X4_passWinter [vR p, vI a1] I L Q := by
  refine aw_entry (by decide) (Nat.le_of_ble_eq_true rfl) (fun k hk (X : zX k g cX4_passWinter RX4 4 (some .int) 6) E => ?_)
  show AW k g 4 I L 0 [(0, vR p), (1, vI a1)] []
  replace h := h k hk X E
  subst hk
  refine aw_iconst (v := 0) X dX4_passWinter_0 (by decide) ?_
  refine aw_istore_n X dX4_passWinter_1 (by decide) rfl ?_
  refine aw_iconst (v := 0) X dX4_passWinter_2 (by decide) ?_
  refine aw_istore_n X dX4_passWinter_3 (by decide) rfl ?_
  refine aw_perm (ks9 := [(0, vR p), (1, vI a1), (2, vI 0), (3, vI 0)]) [2, 3, 1, 0] rfl ?_
  exact h
def v_X3_signAt (I : zI) (L : zL) (p : Nat) (a1 : Int32) : Int32 := (v_X3_elementAt I L p a1).toInt32
set_option maxRecDepth 100000 in
theorem p_X3_signAt {l : Launch} {g : zG} {I : zI} {L : zL} {p : Nat} {a1 : Int32} (hp : zsh p = (13, 5)) : Call l g 2 M_X3_signAt [vR p, vI a1] I L (zp (some (vI (v_X3_signAt I L p a1))) I L) := by
  refine aw_entry (by decide) (Nat.le_of_ble_eq_true rfl) (fun k hk (X : zX k g cX3_signAt RX3 2 (some .int) 2) E => ?_)
  show AW k g 2 I L 0 [(0, vR p), (1, vI a1)] []
  subst hk
  have hJ : ∀ w1 : Int32, w1 = ((v_X3_elementAt I L p a1).toInt32) → zp (some (vI (v_X3_signAt I L p a1))) I L (some (vI w1)) I L := fun w1 e1 => ⟨by rw [e1]; rfl, rfl, rfl⟩
  refine aw_aload_n X 0 dX3_signAt_0 rfl ?_
  refine aw_iload_n X 1 dX3_signAt_1 rfl ?_
  refine aw_pV X (as := [vI a1]) mf_X3_elementAt zw_454 (p_X3_elementAt hp) hp rfl rfl (by decide) (Nat.le_of_ble_eq_true rfl) dX3_signAt_2 ?_
  refine aw_l2i X dX3_signAt_5 ?_
  exact aw_iret X E rfl dX3_signAt_6 (hJ _ rfl)
