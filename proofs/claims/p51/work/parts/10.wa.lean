def v_J6_bitCount_0f7a4 (a1 : Int32) : Int32 := (((((((a1 - ((jushr a1 1) &&& 1431655765)) &&& 858993459) + ((jushr (a1 - ((jushr a1 1) &&& 1431655765)) 2) &&& 858993459)) + (jushr (((a1 - ((jushr a1 1) &&& 1431655765)) &&& 858993459) + ((jushr (a1 - ((jushr a1 1) &&& 1431655765)) 2) &&& 858993459)) 4)) &&& 252645135) + (jushr (((((a1 - ((jushr a1 1) &&& 1431655765)) &&& 858993459) + ((jushr (a1 - ((jushr a1 1) &&& 1431655765)) 2) &&& 858993459)) + (jushr (((a1 - ((jushr a1 1) &&& 1431655765)) &&& 858993459) + ((jushr (a1 - ((jushr a1 1) &&& 1431655765)) 2) &&& 858993459)) 4)) &&& 252645135) 8)) + (jushr ((((((a1 - ((jushr a1 1) &&& 1431655765)) &&& 858993459) + ((jushr (a1 - ((jushr a1 1) &&& 1431655765)) 2) &&& 858993459)) + (jushr (((a1 - ((jushr a1 1) &&& 1431655765)) &&& 858993459) + ((jushr (a1 - ((jushr a1 1) &&& 1431655765)) 2) &&& 858993459)) 4)) &&& 252645135) + (jushr (((((a1 - ((jushr a1 1) &&& 1431655765)) &&& 858993459) + ((jushr (a1 - ((jushr a1 1) &&& 1431655765)) 2) &&& 858993459)) + (jushr (((a1 - ((jushr a1 1) &&& 1431655765)) &&& 858993459) + ((jushr (a1 - ((jushr a1 1) &&& 1431655765)) 2) &&& 858993459)) 4)) &&& 252645135) 8)) 16)) &&& 63
set_option maxRecDepth 100000 in
theorem p_J6_bitCount_0f7a4 {l : Launch} {g : zG} {I : zI} {L : zL} {a1 : Int32}  : Call l g 1 M_J6_bitCount_0f7a4 [vI a1] I L (zp (some (vI (v_J6_bitCount_0f7a4 a1))) I L) := by
  refine aw_entry (by decide) (Nat.le_of_ble_eq_true rfl) (fun k hk (X : zX k g cJ6_bitCount_0f7a4 RJ6 1 (some .int) 1) E => ?_)
  show AW k g 1 I L 0 [(0, vI a1)] []
  subst hk
  have hJ : ∀ w1 : Int32, w1 = ((((((((a1 - ((jushr a1 1) &&& 1431655765)) &&& 858993459) + ((jushr (a1 - ((jushr a1 1) &&& 1431655765)) 2) &&& 858993459)) + (jushr (((a1 - ((jushr a1 1) &&& 1431655765)) &&& 858993459) + ((jushr (a1 - ((jushr a1 1) &&& 1431655765)) 2) &&& 858993459)) 4)) &&& 252645135) + (jushr (((((a1 - ((jushr a1 1) &&& 1431655765)) &&& 858993459) + ((jushr (a1 - ((jushr a1 1) &&& 1431655765)) 2) &&& 858993459)) + (jushr (((a1 - ((jushr a1 1) &&& 1431655765)) &&& 858993459) + ((jushr (a1 - ((jushr a1 1) &&& 1431655765)) 2) &&& 858993459)) 4)) &&& 252645135) 8)) + (jushr ((((((a1 - ((jushr a1 1) &&& 1431655765)) &&& 858993459) + ((jushr (a1 - ((jushr a1 1) &&& 1431655765)) 2) &&& 858993459)) + (jushr (((a1 - ((jushr a1 1) &&& 1431655765)) &&& 858993459) + ((jushr (a1 - ((jushr a1 1) &&& 1431655765)) 2) &&& 858993459)) 4)) &&& 252645135) + (jushr (((((a1 - ((jushr a1 1) &&& 1431655765)) &&& 858993459) + ((jushr (a1 - ((jushr a1 1) &&& 1431655765)) 2) &&& 858993459)) + (jushr (((a1 - ((jushr a1 1) &&& 1431655765)) &&& 858993459) + ((jushr (a1 - ((jushr a1 1) &&& 1431655765)) 2) &&& 858993459)) 4)) &&& 252645135) 8)) 16)) &&& 63) → zp (some (vI (v_J6_bitCount_0f7a4 a1))) I L (some (vI w1)) I L := fun w1 e1 => ⟨by rw [e1]; rfl, rfl, rfl⟩
  refine aw_iload_n X 0 dJ6_bitCount_0f7a4_0 rfl ?_
  refine aw_iload_n X 0 dJ6_bitCount_0f7a4_1 rfl ?_
  refine aw_iconst (v := 1) X dJ6_bitCount_0f7a4_2 (by decide) ?_
  refine aw_iushr X dJ6_bitCount_0f7a4_3 ?_
  refine aw_ldcw X zw_617 dJ6_bitCount_0f7a4_4 ?_
  refine aw_iand X dJ6_bitCount_0f7a4_7 ?_
  refine aw_isub X dJ6_bitCount_0f7a4_8 ?_
  refine aw_istore_n X dJ6_bitCount_0f7a4_9 (by decide) rfl ?_
  refine aw_iload_n X 0 dJ6_bitCount_0f7a4_10 rfl ?_
  refine aw_ldcw X zw_618 dJ6_bitCount_0f7a4_11 ?_
  refine aw_iand X dJ6_bitCount_0f7a4_14 ?_
  refine aw_iload_n X 0 dJ6_bitCount_0f7a4_15 rfl ?_
  refine aw_iconst (v := 2) X dJ6_bitCount_0f7a4_16 (by decide) ?_
  refine aw_iushr X dJ6_bitCount_0f7a4_17 ?_
  refine aw_ldcw X zw_618 dJ6_bitCount_0f7a4_18 ?_
  refine aw_iand X dJ6_bitCount_0f7a4_21 ?_
  refine aw_iadd X dJ6_bitCount_0f7a4_22 ?_
  refine aw_istore_n X dJ6_bitCount_0f7a4_23 (by decide) rfl ?_
  refine aw_iload_n X 0 dJ6_bitCount_0f7a4_24 rfl ?_
  refine aw_iload_n X 0 dJ6_bitCount_0f7a4_25 rfl ?_
  refine aw_iconst (v := 4) X dJ6_bitCount_0f7a4_26 (by decide) ?_
  refine aw_iushr X dJ6_bitCount_0f7a4_27 ?_
  refine aw_iadd X dJ6_bitCount_0f7a4_28 ?_
  refine aw_ldcw X zw_619 dJ6_bitCount_0f7a4_29 ?_
  refine aw_iand X dJ6_bitCount_0f7a4_32 ?_
  refine aw_istore_n X dJ6_bitCount_0f7a4_33 (by decide) rfl ?_
  refine aw_iload_n X 0 dJ6_bitCount_0f7a4_34 rfl ?_
  refine aw_iload_n X 0 dJ6_bitCount_0f7a4_35 rfl ?_
  refine aw_bipush (v := 8) X dJ6_bitCount_0f7a4_36 (by decide) ?_
  refine aw_iushr X dJ6_bitCount_0f7a4_38 ?_
  refine aw_iadd X dJ6_bitCount_0f7a4_39 ?_
  refine aw_istore_n X dJ6_bitCount_0f7a4_40 (by decide) rfl ?_
  refine aw_iload_n X 0 dJ6_bitCount_0f7a4_41 rfl ?_
  refine aw_iload_n X 0 dJ6_bitCount_0f7a4_42 rfl ?_
  refine aw_bipush (v := 16) X dJ6_bitCount_0f7a4_43 (by decide) ?_
  refine aw_iushr X dJ6_bitCount_0f7a4_45 ?_
  refine aw_iadd X dJ6_bitCount_0f7a4_46 ?_
  refine aw_istore_n X dJ6_bitCount_0f7a4_47 (by decide) rfl ?_
  refine aw_iload_n X 0 dJ6_bitCount_0f7a4_48 rfl ?_
  refine aw_bipush (v := 63) X dJ6_bitCount_0f7a4_49 (by decide) ?_
  refine aw_iand X dJ6_bitCount_0f7a4_51 ?_
  exact aw_iret X E rfl dJ6_bitCount_0f7a4_52 (hJ _ rfl)
set_option maxRecDepth 100000 in
theorem s_X1_isOf_7 {k : zK} {g : zG} {Q : Option zv → zI → zL → Prop} {I : zI} {L : zL} {p : Nat} {y1 : Int32} {y2 : Int32} {y3 : Int32} (hp : zsh p = (11, 6)) (X : zX k g cX1_isOf RX1 4 (some .boolean) 1) (E : zE k g Q) (h : if y3 < 7 then (if y2 = y1 then (Q (some (vI (if y2 = y1 then 1 else (0 : Int32)))) I L) else ((∀ u8 : Int32, u8 = (if y2 < 0 then (-1) else if y2 < 7 then zK_KIND_ABOVE.getD y2.toNatClampNeg 0 else ((-1) : Int32)) → AW k g 4 I L 7 [(1, vI y1), (2, vI u8), (3, vI (y3 + 1))] []))) else (Q (some (vI (if y2 = y1 then 1 else (0 : Int32)))) I L)) : AW k g 4 I L 7 [(1, vI y1), (2, vI y2), (3, vI y3)] [] := by
  refine aw_iload_n X 2 dX1_isOf_7 rfl ?_
  refine aw_gets X zsta_KIND_ABOVE zw_354 (by decide) dX1_isOf_8 ?_
  refine aw_slen X zsta_KIND_ABOVE (by decide) dX1_isOf_11 ?_
  refine aw_icmp_gen X 48 dX1_isOf_12 rfl (fun c1 => ?_) (fun c1 => ?_)
  · replace h := zifp c1 h
    refine aw_iload_n X 1 dX1_isOf_15 rfl ?_
    refine aw_iload_n X 0 dX1_isOf_16 rfl ?_
    refine aw_icmp_eq X 48 dX1_isOf_17 rfl (fun c2 => ?_) (fun c2 => ?_)
    · replace h := zifp c2 h
      refine aw_iload_n X 1 dX1_isOf_48 rfl ?_
      refine aw_iload_n X 0 dX1_isOf_49 rfl ?_
      have hJ4 : ∀ (w1 : Int32), w1 = (if y2 = y1 then 1 else (0 : Int32)) → AW k g 4 I L 58 [] [vI w1] := by
        intro w1 q1
        subst q1
        exact aw_zret X E rfl (by (repeat' split) <;> first | exact Or.inl rfl | exact Or.inr rfl) dX1_isOf_58 h
      refine aw_icmp_ne X 57 dX1_isOf_50 rfl (fun c3 => ?_) (fun c3 => ?_)
      · refine aw_iconst (v := 0) X dX1_isOf_57 (by decide) ?_
        refine aw_perm (ks9 := []) [] rfl ?_
        exact hJ4 _ (if_neg c3).symm
      · refine aw_iconst (v := 1) X dX1_isOf_53 (by decide) ?_
        refine aw_goto X 58 dX1_isOf_54 rfl ?_
        refine aw_perm (ks9 := []) [] rfl ?_
        exact hJ4 _ (if_pos c3).symm
    · replace h := zifn c2 h
      refine aw_iload_n X 1 dX1_isOf_20 rfl ?_
      have hJ7 : ∀ (u8 : Int32), u8 = (if y2 < 0 then (-1) else if y2 < 7 then zK_KIND_ABOVE.getD y2.toNatClampNeg 0 else ((-1) : Int32)) → AW k g 4 I L 41 [(1, vI y1), (3, vI y3)] [vI u8] := by
        intro u8 q1
        replace h := h u8 q1
        refine aw_istore_n X dX1_isOf_41 (by decide) rfl ?_
        refine aw_iinc (v := y3 + 1) X 2 dX1_isOf_42 rfl rfl (by decide) rfl ?_
        refine aw_goto X 7 dX1_isOf_45 rfl ?_
        refine aw_perm (ks9 := [(1, vI y1), (2, vI u8), (3, vI (y3 + 1))]) [2, 1, 0] rfl ?_
        exact h
      refine aw_if_lt X 40 dX1_isOf_21 rfl (fun c5 => ?_) (fun c5 => ?_)
      · refine aw_iconst (v := (-1)) X dX1_isOf_40 (by decide) ?_
        refine aw_perm (ks9 := [(1, vI y1), (3, vI y3)]) [0, 2] rfl ?_
        exact hJ7 _ (if_pos c5).symm
      · refine aw_iload_n X 1 dX1_isOf_24 rfl ?_
        refine aw_gets X zsta_KIND_ABOVE zw_354 (by decide) dX1_isOf_25 ?_
        refine aw_slen X zsta_KIND_ABOVE (by decide) dX1_isOf_28 ?_
        refine aw_icmp_gen X 40 dX1_isOf_29 rfl (fun c6 => ?_) (fun c6 => ?_)
        · refine aw_gets X zsta_KIND_ABOVE zw_354 (by decide) dX1_isOf_32 ?_
          refine aw_iload_n X 1 dX1_isOf_35 rfl ?_
          refine aw_sald X zsta_KIND_ABOVE (by decide) (zinof c5 c6 (by decide)) dX1_isOf_36 ?_
          refine aw_goto X 41 dX1_isOf_37 rfl ?_
          refine aw_perm (ks9 := [(1, vI y1), (3, vI y3)]) [0, 2] rfl ?_
          exact hJ7 _ ((if_pos c6).symm.trans (if_neg c5).symm)
        · refine aw_iconst (v := (-1)) X dX1_isOf_40 (by decide) ?_
          refine aw_perm (ks9 := [(1, vI y1), (3, vI y3)]) [0, 2] rfl ?_
          exact hJ7 _ ((if_neg c6).symm.trans (if_neg c5).symm)
  · replace h := zifn c1 h
    refine aw_iload_n X 1 dX1_isOf_48 rfl ?_
    refine aw_iload_n X 0 dX1_isOf_49 rfl ?_
    have hJ10 : ∀ (w1 : Int32), w1 = (if y2 = y1 then 1 else (0 : Int32)) → AW k g 4 I L 58 [] [vI w1] := by
      intro w1 q1
      subst q1
      exact aw_zret X E rfl (by (repeat' split) <;> first | exact Or.inl rfl | exact Or.inr rfl) dX1_isOf_58 h
    refine aw_icmp_ne X 57 dX1_isOf_50 rfl (fun c9 => ?_) (fun c9 => ?_)
    · refine aw_iconst (v := 0) X dX1_isOf_57 (by decide) ?_
      refine aw_perm (ks9 := []) [] rfl ?_
      exact hJ10 _ (if_neg c9).symm
    · refine aw_iconst (v := 1) X dX1_isOf_53 (by decide) ?_
      refine aw_goto X 58 dX1_isOf_54 rfl ?_
      refine aw_perm (ks9 := []) [] rfl ?_
      exact hJ10 _ (if_pos c9).symm
set_option maxRecDepth 100000 in
theorem m_X1_isOf {l : Launch} {g : zG} {Q : Option zv → zI → zL → Prop} {I : zI} {L : zL} {p : Nat} {a1 : Int32} (hp : zsh p = (11, 6)) (h : ∀ k : zK, kl k = l → zX k g cX1_isOf RX1 4 (some .boolean) 1 → zE k g Q → (AW k g 4 I L 7 [(1, vI a1), (2, vI (I p 0)), (3, vI 0)] [])) : Call l g 1 M_X1_isOf [vR p, vI a1] I L Q := by
  refine aw_entry (by decide) (Nat.le_of_ble_eq_true rfl) (fun k hk (X : zX k g cX1_isOf RX1 4 (some .boolean) 1) E => ?_)
  show AW k g 4 I L 0 [(0, vR p), (1, vI a1)] []
  replace h := h k hk X E
  subst hk
  refine aw_aload_n X 0 dX1_isOf_0 rfl ?_
  refine aw_getI X zf_RX1_9 rfl hp dX1_isOf_1 ?_
  refine aw_istore_n X dX1_isOf_4 (by decide) rfl ?_
  refine aw_iconst (v := 0) X dX1_isOf_5 (by decide) ?_
  refine aw_istore_n X dX1_isOf_6 (by decide) rfl ?_
  refine aw_perm (ks9 := [(1, vI a1), (2, vI (I p 0)), (3, vI 0)]) [3, 1, 0] rfl ?_
  exact h
set_option maxRecDepth 100000 in
theorem s_X1_frosted_4 {k : zK} {g : zG} {Q : Option zv → zI → zL → Prop} {I : zI} {L : zL} {p : Nat} {y1 : Int32} {y2 : Int32} (hp : zsh p = (11, 6)) (X : zX k g cX1_frosted RX1 3 (some .int) 1) (E : zE k g Q) (h : if y2 < 16 then (vp_in y2 16 ∧ (AW k g 3 I L 4 [(0, vR p), (1, vI (if 0 < (I (p + 1) y2.toNatClampNeg) then y1 ||| (jshl 1 y2) else y1)), (2, vI (y2 + 1))] [])) else (Q (some (vI y1)) I L)) : AW k g 3 I L 4 [(0, vR p), (1, vI y1), (2, vI y2)] [] := by
  refine aw_iload_n X 2 dX1_frosted_4 rfl ?_
  refine aw_aload_n X 0 dX1_frosted_5 rfl ?_
  refine aw_getR X zf_RX1_27 rfl hp (zL1 hp).1 dX1_frosted_6 ?_
  refine aw_alen (v := 16) X (zL1 hp).2 (by decide) (by decide) dX1_frosted_9 ?_
  refine aw_icmp_gen X 34 dX1_frosted_10 rfl (fun c1 => ?_) (fun c1 => ?_)
  · replace h := zifp c1 h
    refine aw_aload_n X 0 dX1_frosted_13 rfl ?_
    refine aw_getR X zf_RX1_27 rfl hp (zL1 hp).1 dX1_frosted_14 ?_
    refine aw_iload_n X 2 dX1_frosted_17 rfl ?_
    have n2 := h.1
    replace h := h.2
    refine aw_ialdj (j := y2.toNatClampNeg) X (zL1 hp).2 n2 rfl dX1_frosted_18 ?_
    have hJ4 : ∀ (w1 : Int32), w1 = (if 0 < (I (p + 1) y2.toNatClampNeg) then y1 ||| (jshl 1 y2) else y1) → AW k g 3 I L 28 [(0, vR p), (1, vI w1), (2, vI y2)] [] := by
      intro w1 q1
      subst q1
      refine aw_iinc (v := y2 + 1) X 2 dX1_frosted_28 rfl rfl (by decide) rfl ?_
      refine aw_goto X 4 dX1_frosted_31 rfl ?_
      refine aw_perm (ks9 := [(0, vR p), (1, vI (if 0 < (I (p + 1) y2.toNatClampNeg) then y1 ||| (jshl 1 y2) else y1)), (2, vI (y2 + 1))]) [1, 2, 0] rfl ?_
      exact h
    refine aw_if_len X 28 dX1_frosted_19 rfl (fun c3 => ?_) (fun c3 => ?_)
    · refine aw_iload_n X 1 dX1_frosted_22 rfl ?_
      refine aw_iconst (v := 1) X dX1_frosted_23 (by decide) ?_
      refine aw_iload_n X 2 dX1_frosted_24 rfl ?_
      refine aw_ishl X dX1_frosted_25 ?_
      refine aw_ior X dX1_frosted_26 ?_
      refine aw_istore_n X dX1_frosted_27 (by decide) rfl ?_
      refine aw_perm (ks9 := [(0, vR p), (1, vI (y1 ||| (jshl 1 y2))), (2, vI y2)]) [1, 0, 2] rfl ?_
      exact hJ4 _ (if_pos c3).symm
    · refine aw_perm (ks9 := [(0, vR p), (1, vI y1), (2, vI y2)]) [0, 1, 2] rfl ?_
      exact hJ4 _ (if_neg c3).symm
  · replace h := zifn c1 h
    refine aw_iload_n X 1 dX1_frosted_34 rfl ?_
    exact aw_iret X E rfl dX1_frosted_35 h
set_option maxRecDepth 100000 in
theorem m_X1_frosted {l : Launch} {g : zG} {Q : Option zv → zI → zL → Prop} {I : zI} {L : zL} {p : Nat} (hp : zsh p = (11, 6)) (h : ∀ k : zK, kl k = l → zX k g cX1_frosted RX1 3 (some .int) 1 → zE k g Q → (AW k g 3 I L 4 [(0, vR p), (1, vI 0), (2, vI 0)] [])) : Call l g 1 M_X1_frosted [vR p] I L Q := by
  refine aw_entry (by decide) (Nat.le_of_ble_eq_true rfl) (fun k hk (X : zX k g cX1_frosted RX1 3 (some .int) 1) E => ?_)
  show AW k g 3 I L 0 [(0, vR p)] []
  replace h := h k hk X E
  subst hk
  refine aw_iconst (v := 0) X dX1_frosted_0 (by decide) ?_
  refine aw_istore_n X dX1_frosted_1 (by decide) rfl ?_
  refine aw_iconst (v := 0) X dX1_frosted_2 (by decide) ?_
  refine aw_istore_n X dX1_frosted_3 (by decide) rfl ?_
  refine aw_perm (ks9 := [(0, vR p), (1, vI 0), (2, vI 0)]) [2, 1, 0] rfl ?_
  exact h
def v_X4_isLetter (I : zI) (p : Nat) (a1 : Int32) : Int32 := if a1 < 0 then 0 else if a1 < (I p 2) then if a1 < 8 then 1 else (0 : Int32) else (0 : Int32)
set_option maxRecDepth 100000 in
theorem p_X4_isLetter {l : Launch} {g : zG} {I : zI} {L : zL} {p : Nat} {a1 : Int32} (hp : zsh p = (14, 10)) : Call l g 1 M_X4_isLetter [vR p, vI a1] I L (zp (some (vI (v_X4_isLetter I p a1))) I L) := by
  refine aw_entry (by decide) (Nat.le_of_ble_eq_true rfl) (fun k hk (X : zX k g cX4_isLetter RX4 2 (some .boolean) 1) E => ?_)
  show AW k g 2 I L 0 [(0, vR p), (1, vI a1)] []
  subst hk
  have hJ : ∀ w1 : Int32, w1 = (if a1 < 0 then 0 else if a1 < (I p 2) then if a1 < 8 then 1 else (0 : Int32) else (0 : Int32)) → zp (some (vI (v_X4_isLetter I p a1))) I L (some (vI w1)) I L := fun w1 e1 => ⟨by rw [e1]; rfl, rfl, rfl⟩
  refine aw_iload_n X 1 dX4_isLetter_0 rfl ?_
  have hJ4 : ∀ (w1 : Int32), w1 = (if a1 < 0 then 0 else if a1 < (I p 2) then if a1 < 8 then 1 else (0 : Int32) else (0 : Int32)) → AW k g 2 I L 26 [] [vI w1] := by
    intro w1 q1
    subst q1
    exact aw_zret X E rfl (by (repeat' split) <;> first | exact Or.inl rfl | exact Or.inr rfl) dX4_isLetter_26 (hJ _ rfl)
  refine aw_if_lt X 25 dX4_isLetter_1 rfl (fun c1 => ?_) (fun c1 => ?_)
  · refine aw_iconst (v := 0) X dX4_isLetter_25 (by decide) ?_
    refine aw_perm (ks9 := []) [] rfl ?_
    exact hJ4 _ (if_pos c1).symm
  · refine aw_iload_n X 1 dX4_isLetter_4 rfl ?_
    refine aw_aload_n X 0 dX4_isLetter_5 rfl ?_
    refine aw_getI X zf_RX4_22 rfl hp dX4_isLetter_6 ?_
    refine aw_icmp_gen X 25 dX4_isLetter_9 rfl (fun c2 => ?_) (fun c2 => ?_)
    · refine aw_iload_n X 1 dX4_isLetter_12 rfl ?_
      refine aw_aload_n X 0 dX4_isLetter_13 rfl ?_
      refine aw_getR X zf_RX4_9 rfl hp (zL4 hp).1.1 dX4_isLetter_14 ?_
      refine aw_alen (v := 8) X (zL4 hp).1.2 (by decide) (by decide) dX4_isLetter_17 ?_
      refine aw_icmp_gen X 25 dX4_isLetter_18 rfl (fun c3 => ?_) (fun c3 => ?_)
      · refine aw_iconst (v := 1) X dX4_isLetter_21 (by decide) ?_
        refine aw_goto X 26 dX4_isLetter_22 rfl ?_
        refine aw_perm (ks9 := []) [] rfl ?_
        exact hJ4 _ (((if_pos c3).symm.trans (if_pos c2).symm).trans (if_neg c1).symm)
      · refine aw_iconst (v := 0) X dX4_isLetter_25 (by decide) ?_
        refine aw_perm (ks9 := []) [] rfl ?_
        exact hJ4 _ (((if_neg c3).symm.trans (if_pos c2).symm).trans (if_neg c1).symm)
    · refine aw_iconst (v := 0) X dX4_isLetter_25 (by decide) ?_
      refine aw_perm (ks9 := []) [] rfl ?_
      exact hJ4 _ ((if_neg c2).symm.trans (if_neg c1).symm)
theorem b_X4_isLetter {I : zI} {p : Nat} {a1 : Int32} : v_X4_isLetter I p a1 = 0 ∨ v_X4_isLetter I p a1 = 1 := by
  unfold v_X4_isLetter
  repeat' split
  all_goals first | exact Or.inl rfl | exact Or.inr rfl
theorem zin_isLetter {I : zI} {p : Nat} {a1 : Int32} (h : ¬ v_X4_isLetter I p a1 = 0) : vp_in a1 8 := by
  unfold v_X4_isLetter at h
  split at h
  · exact absurd rfl h
  · rename_i c1
    split at h
    · split at h
      · rename_i c3
        exact zinof c1 c3 (by decide)
      · exact absurd rfl h
    · exact absurd rfl h
def v_X4_cellsOf (I : zI) (p : Nat) (a1 : Int32) : Int32 := if (v_X4_isLetter I p a1) = 0 then 0 else (I (p + 1) a1.toNatClampNeg)
set_option maxRecDepth 100000 in
theorem p_X4_cellsOf {l : Launch} {g : zG} {I : zI} {L : zL} {p : Nat} {a1 : Int32} (hp : zsh p = (14, 10)) : Call l g 2 M_X4_cellsOf [vR p, vI a1] I L (zp (some (vI (v_X4_cellsOf I p a1))) I L) := by
  refine aw_entry (by decide) (Nat.le_of_ble_eq_true rfl) (fun k hk (X : zX k g cX4_cellsOf RX4 2 (some .int) 2) E => ?_)
  show AW k g 2 I L 0 [(0, vR p), (1, vI a1)] []
  subst hk
  have hJ : ∀ w1 : Int32, w1 = (if (v_X4_isLetter I p a1) = 0 then 0 else (I (p + 1) a1.toNatClampNeg)) → zp (some (vI (v_X4_cellsOf I p a1))) I L (some (vI w1)) I L := fun w1 e1 => ⟨by rw [e1]; rfl, rfl, rfl⟩
  refine aw_aload_n X 0 dX4_cellsOf_0 rfl ?_
  refine aw_iload_n X 1 dX4_cellsOf_1 rfl ?_
  refine aw_pV X (as := [vI a1]) mf_X4_isLetter zw_396 (p_X4_isLetter hp) hp rfl rfl (by decide) (Nat.le_of_ble_eq_true rfl) dX4_cellsOf_2 ?_
  have hJ2 : ∀ (w1 : Int32), w1 = (if (v_X4_isLetter I p a1) = 0 then 0 else (I (p + 1) a1.toNatClampNeg)) → AW k g 2 I L 18 [] [vI w1] := by
    intro w1 q1
    subst q1
    exact aw_iret X E rfl dX4_cellsOf_18 (hJ _ rfl)
  refine aw_if_eq X 17 dX4_cellsOf_5 rfl (fun c1 => ?_) (fun c1 => ?_)
  · refine aw_iconst (v := 0) X dX4_cellsOf_17 (by decide) ?_
    refine aw_perm (ks9 := []) [] rfl ?_
    exact hJ2 _ (if_pos c1).symm
  · refine aw_aload_n X 0 dX4_cellsOf_8 rfl ?_
    refine aw_getR X zf_RX4_9 rfl hp (zL4 hp).1.1 dX4_cellsOf_9 ?_
    refine aw_iload_n X 1 dX4_cellsOf_12 rfl ?_
    refine aw_ialdj (j := a1.toNatClampNeg) X (zL4 hp).1.2 (zin_isLetter c1) rfl dX4_cellsOf_13 ?_
    refine aw_goto X 18 dX4_cellsOf_14 rfl ?_
    refine aw_perm (ks9 := []) [] rfl ?_
    exact hJ2 _ (if_neg c1).symm
set_option maxRecDepth 100000 in
theorem s_X4_readingOf_7 {k : zK} {g : zG} {Q : Option zv → zI → zL → Prop} {I : zI} {L : zL} {p : Nat} {y1 : Int32} {y2 : Int32} {y3 : Int32} {y4 : Int32} (hp : zsh p = (14, 10)) (X : zX k g cX4_readingOf RX4 6 (some .int) 3) (E : zE k g Q) (h : if y4 < (I p 2) then ((∀ u5 : Int32, u5 = (if (v_J6_bitCount_0f7a4 ((v_X4_cellsOf I p y4) ^^^ y1)) < y3 then y4 else if (v_J6_bitCount_0f7a4 ((v_X4_cellsOf I p y4) ^^^ y1)) = y3 then (-1) else y2) → ∀ u6 : Int32, u6 = (if (v_J6_bitCount_0f7a4 ((v_X4_cellsOf I p y4) ^^^ y1)) < y3 then v_J6_bitCount_0f7a4 ((v_X4_cellsOf I p y4) ^^^ y1) else y3) → AW k g 6 I L 7 [(0, vR p), (1, vI y1), (2, vI u5), (3, vI u6), (4, vI (y4 + 1))] [])) else (Q (some (vI y2)) I L)) : AW k g 6 I L 7 [(0, vR p), (1, vI y1), (2, vI y2), (3, vI y3), (4, vI y4)] [] := by
  refine aw_iload X 4 dX4_readingOf_7 rfl ?_
  refine aw_aload_n X 0 dX4_readingOf_9 rfl ?_
  refine aw_getI X zf_RX4_22 rfl hp dX4_readingOf_10 ?_
  refine aw_icmp_gen X 58 dX4_readingOf_13 rfl (fun c1 => ?_) (fun c1 => ?_)
  · replace h := zifp c1 h
    refine aw_aload_n X 0 dX4_readingOf_16 rfl ?_
    refine aw_iload X 4 dX4_readingOf_17 rfl ?_
    refine aw_pV X (as := [vI y4]) mf_X4_cellsOf zw_426 (p_X4_cellsOf hp) hp rfl rfl (by decide) (Nat.le_of_ble_eq_true rfl) dX4_readingOf_19 ?_
    refine aw_iload_n X 1 dX4_readingOf_22 rfl ?_
    refine aw_ixor X dX4_readingOf_23 ?_
    refine aw_pS X (as := [vI ((v_X4_cellsOf I p y4) ^^^ y1)]) mf_J6_bitCount_0f7a4 zw_656 (p_J6_bitCount_0f7a4) rfl rfl (by decide) (Nat.le_of_ble_eq_true rfl) dX4_readingOf_24 ?_
    refine aw_istore X dX4_readingOf_27 (by decide) rfl ?_
    refine aw_iload X 0 dX4_readingOf_29 rfl ?_
    refine aw_iload_n X 4 dX4_readingOf_31 rfl ?_
    have hJ4 : ∀ (u5 : Int32) (u6 : Int32), u5 = (if (v_J6_bitCount_0f7a4 ((v_X4_cellsOf I p y4) ^^^ y1)) < y3 then y4 else if (v_J6_bitCount_0f7a4 ((v_X4_cellsOf I p y4) ^^^ y1)) = y3 then (-1) else y2) → u6 = (if (v_J6_bitCount_0f7a4 ((v_X4_cellsOf I p y4) ^^^ y1)) < y3 then v_J6_bitCount_0f7a4 ((v_X4_cellsOf I p y4) ^^^ y1) else y3) → AW k g 6 I L 52 [(0, vR p), (1, vI y1), (2, vI u5), (3, vI u6), (4, vI y4)] [] := by
      intro u5 u6 q1 q2
      replace h := h u5 q1
      replace h := h u6 q2
      refine aw_iinc (v := y4 + 1) X 4 dX4_readingOf_52 rfl rfl (by decide) rfl ?_
      refine aw_goto X 7 dX4_readingOf_55 rfl ?_
      refine aw_perm (ks9 := [(0, vR p), (1, vI y1), (2, vI u5), (3, vI u6), (4, vI (y4 + 1))]) [1, 2, 3, 4, 0] rfl ?_
      exact h
    refine aw_icmp_gen X 44 dX4_readingOf_32 rfl (fun c2 => ?_) (fun c2 => ?_)
    · refine aw_iload X 0 dX4_readingOf_35 rfl ?_
      refine aw_istore_n X dX4_readingOf_37 (by decide) rfl ?_
      refine aw_iload X 5 dX4_readingOf_38 rfl ?_
      refine aw_istore_n X dX4_readingOf_40 (by decide) rfl ?_
      refine aw_goto X 52 dX4_readingOf_41 rfl ?_
      refine aw_perm (ks9 := [(0, vR p), (1, vI y1), (2, vI y4), (3, vI (v_J6_bitCount_0f7a4 ((v_X4_cellsOf I p y4) ^^^ y1))), (4, vI y4)]) [3, 4, 0, 1, 5] rfl ?_
      exact hJ4 _ _ (if_pos c2).symm (if_pos c2).symm
    · refine aw_iload X 0 dX4_readingOf_44 rfl ?_
      refine aw_iload_n X 4 dX4_readingOf_46 rfl ?_
      refine aw_icmp_ne X 52 dX4_readingOf_47 rfl (fun c3 => ?_) (fun c3 => ?_)
      · refine aw_perm (ks9 := [(0, vR p), (1, vI y1), (2, vI y2), (3, vI y3), (4, vI y4)]) [1, 2, 3, 4, 5] rfl ?_
        exact hJ4 _ _ ((if_neg c3).symm.trans (if_neg c2).symm) (if_neg c2).symm
      · refine aw_iconst (v := (-1)) X dX4_readingOf_50 (by decide) ?_
        refine aw_istore_n X dX4_readingOf_51 (by decide) rfl ?_
        refine aw_perm (ks9 := [(0, vR p), (1, vI y1), (2, vI (-1)), (3, vI y3), (4, vI y4)]) [2, 3, 0, 4, 5] rfl ?_
        exact hJ4 _ _ ((if_pos c3).symm.trans (if_neg c2).symm) (if_neg c2).symm
  · replace h := zifn c1 h
    refine aw_iload_n X 2 dX4_readingOf_58 rfl ?_
    exact aw_iret X E rfl dX4_readingOf_59 h
set_option maxRecDepth 100000 in
theorem m_X4_readingOf {l : Launch} {g : zG} {Q : Option zv → zI → zL → Prop} {I : zI} {L : zL} {p : Nat} {a1 : Int32} (hp : zsh p = (14, 10)) (h : ∀ k : zK, kl k = l → zX k g cX4_readingOf RX4 6 (some .int) 3 → zE k g Q → (AW k g 6 I L 7 [(0, vR p), (1, vI a1), (2, vI (-1)), (3, vI 5), (4, vI 0)] [])) : Call l g 3 M_X4_readingOf [vR p, vI a1] I L Q := by
  refine aw_entry (by decide) (Nat.le_of_ble_eq_true rfl) (fun k hk (X : zX k g cX4_readingOf RX4 6 (some .int) 3) E => ?_)
  show AW k g 6 I L 0 [(0, vR p), (1, vI a1)] []
  replace h := h k hk X E
  subst hk
  refine aw_iconst (v := (-1)) X dX4_readingOf_0 (by decide) ?_
  refine aw_istore_n X dX4_readingOf_1 (by decide) rfl ?_
  refine aw_iconst (v := 5) X dX4_readingOf_2 (by decide) ?_
  refine aw_istore_n X dX4_readingOf_3 (by decide) rfl ?_
  refine aw_iconst (v := 0) X dX4_readingOf_4 (by decide) ?_
  refine aw_istore X dX4_readingOf_5 (by decide) rfl ?_
  refine aw_perm (ks9 := [(0, vR p), (1, vI a1), (2, vI (-1)), (3, vI 5), (4, vI 0)]) [3, 4, 2, 1, 0] rfl ?_
  exact h
set_option maxRecDepth 100000 in
theorem s_X4_fewestUnlike_6 {k : zK} {g : zG} {Q : Option zv → zI → zL → Prop} {I : zI} {L : zL} {p : Nat} {y1 : Int32} {y2 : Int32} {y3 : Int32} {y4 : Int32} (hp : zsh p = (14, 10)) (X : zX k g cX4_fewestUnlike RX4 5 (some .int) 3) (E : zE k g Q) (h : if y4 < (I p 2) then ((∀ u4 : Int32, u4 = (if y4 = y2 then y3 else (jmin y3 (v_J6_bitCount_0f7a4 ((v_X4_cellsOf I p y4) ^^^ y1)))) → AW k g 5 I L 6 [(0, vR p), (1, vI y1), (2, vI y2), (3, vI u4), (4, vI (y4 + 1))] [])) else (Q (some (vI y3)) I L)) : AW k g 5 I L 6 [(0, vR p), (1, vI y1), (2, vI y2), (3, vI y3), (4, vI y4)] [] := by
  refine aw_iload X 4 dX4_fewestUnlike_6 rfl ?_
  refine aw_aload_n X 0 dX4_fewestUnlike_8 rfl ?_
  refine aw_getI X zf_RX4_22 rfl hp dX4_fewestUnlike_9 ?_
  refine aw_icmp_gen X 43 dX4_fewestUnlike_12 rfl (fun c1 => ?_) (fun c1 => ?_)
  · replace h := zifp c1 h
    refine aw_iload X 4 dX4_fewestUnlike_15 rfl ?_
    refine aw_iload_n X 2 dX4_fewestUnlike_17 rfl ?_
    have hJ3 : ∀ (u4 : Int32), u4 = (if y4 = y2 then y3 else (jmin y3 (v_J6_bitCount_0f7a4 ((v_X4_cellsOf I p y4) ^^^ y1)))) → AW k g 5 I L 37 [(0, vR p), (1, vI y1), (2, vI y2), (3, vI u4), (4, vI y4)] [] := by
      intro u4 q1
      replace h := h u4 q1
      refine aw_iinc (v := y4 + 1) X 4 dX4_fewestUnlike_37 rfl rfl (by decide) rfl ?_
      refine aw_goto X 6 dX4_fewestUnlike_40 rfl ?_
      refine aw_perm (ks9 := [(0, vR p), (1, vI y1), (2, vI y2), (3, vI u4), (4, vI (y4 + 1))]) [1, 2, 3, 4, 0] rfl ?_
      exact h
    refine aw_icmp_eq X 37 dX4_fewestUnlike_18 rfl (fun c2 => ?_) (fun c2 => ?_)
    · refine aw_perm (ks9 := [(0, vR p), (1, vI y1), (2, vI y2), (3, vI y3), (4, vI y4)]) [0, 1, 2, 3, 4] rfl ?_
      exact hJ3 _ (if_pos c2).symm
    · refine aw_iload_n X 3 dX4_fewestUnlike_21 rfl ?_
      refine aw_aload_n X 0 dX4_fewestUnlike_22 rfl ?_
      refine aw_iload X 4 dX4_fewestUnlike_23 rfl ?_
      refine aw_pV X (as := [vI y4]) mf_X4_cellsOf zw_426 (p_X4_cellsOf hp) hp rfl rfl (by decide) (Nat.le_of_ble_eq_true rfl) dX4_fewestUnlike_25 ?_
      refine aw_iload_n X 1 dX4_fewestUnlike_28 rfl ?_
      refine aw_ixor X dX4_fewestUnlike_29 ?_
      refine aw_pS X (as := [vI ((v_X4_cellsOf I p y4) ^^^ y1)]) mf_J6_bitCount_0f7a4 zw_656 (p_J6_bitCount_0f7a4) rfl rfl (by decide) (Nat.le_of_ble_eq_true rfl) dX4_fewestUnlike_30 ?_
      refine aw_min X (by decide) (Nat.le_of_ble_eq_true rfl) ⟨zw_826, zw_601, zw_30, zw_602⟩ dX4_fewestUnlike_33 ?_
      refine aw_istore_n X dX4_fewestUnlike_36 (by decide) rfl ?_
      refine aw_perm (ks9 := [(0, vR p), (1, vI y1), (2, vI y2), (3, vI (jmin y3 (v_J6_bitCount_0f7a4 ((v_X4_cellsOf I p y4) ^^^ y1)))), (4, vI y4)]) [1, 2, 3, 0, 4] rfl ?_
      exact hJ3 _ (if_neg c2).symm
  · replace h := zifn c1 h
    refine aw_iload_n X 3 dX4_fewestUnlike_43 rfl ?_
    exact aw_iret X E rfl dX4_fewestUnlike_44 h
set_option maxRecDepth 100000 in
theorem m_X4_fewestUnlike {l : Launch} {g : zG} {Q : Option zv → zI → zL → Prop} {I : zI} {L : zL} {p : Nat} {a1 : Int32} {a2 : Int32} (hp : zsh p = (14, 10)) (h : ∀ k : zK, kl k = l → zX k g cX4_fewestUnlike RX4 5 (some .int) 3 → zE k g Q → (AW k g 5 I L 6 [(0, vR p), (1, vI a1), (2, vI a2), (3, vI 17), (4, vI 0)] [])) : Call l g 3 M_X4_fewestUnlike [vR p, vI a1, vI a2] I L Q := by
  refine aw_entry (by decide) (Nat.le_of_ble_eq_true rfl) (fun k hk (X : zX k g cX4_fewestUnlike RX4 5 (some .int) 3) E => ?_)
  show AW k g 5 I L 0 [(0, vR p), (1, vI a1), (2, vI a2)] []
  replace h := h k hk X E
  subst hk
  refine aw_bipush (v := 17) X dX4_fewestUnlike_0 (by decide) ?_
  refine aw_istore_n X dX4_fewestUnlike_2 (by decide) rfl ?_
  refine aw_iconst (v := 0) X dX4_fewestUnlike_3 (by decide) ?_
  refine aw_istore X dX4_fewestUnlike_4 (by decide) rfl ?_
  refine aw_perm (ks9 := [(0, vR p), (1, vI a1), (2, vI a2), (3, vI 17), (4, vI 0)]) [2, 3, 4, 1, 0] rfl ?_
  exact h
def v_X4_cellsUnlike (I : zI) (p : Nat) (a1 : Int32) (a2 : Int32) : Int32 := v_J6_bitCount_0f7a4 ((v_X4_cellsOf I p a1) ^^^ (v_X4_cellsOf I p a2))
set_option maxRecDepth 100000 in
theorem p_X4_cellsUnlike {l : Launch} {g : zG} {I : zI} {L : zL} {p : Nat} {a1 : Int32} {a2 : Int32} (hp : zsh p = (14, 10)) : Call l g 3 M_X4_cellsUnlike [vR p, vI a1, vI a2] I L (zp (some (vI (v_X4_cellsUnlike I p a1 a2))) I L) := by
  refine aw_entry (by decide) (Nat.le_of_ble_eq_true rfl) (fun k hk (X : zX k g cX4_cellsUnlike RX4 3 (some .int) 3) E => ?_)
  show AW k g 3 I L 0 [(0, vR p), (1, vI a1), (2, vI a2)] []
  subst hk
  have hJ : ∀ w1 : Int32, w1 = (v_J6_bitCount_0f7a4 ((v_X4_cellsOf I p a1) ^^^ (v_X4_cellsOf I p a2))) → zp (some (vI (v_X4_cellsUnlike I p a1 a2))) I L (some (vI w1)) I L := fun w1 e1 => ⟨by rw [e1]; rfl, rfl, rfl⟩
  refine aw_aload_n X 0 dX4_cellsUnlike_0 rfl ?_
  refine aw_iload_n X 1 dX4_cellsUnlike_1 rfl ?_
  refine aw_pV X (as := [vI a1]) mf_X4_cellsOf zw_426 (p_X4_cellsOf hp) hp rfl rfl (by decide) (Nat.le_of_ble_eq_true rfl) dX4_cellsUnlike_2 ?_
  refine aw_aload_n X 0 dX4_cellsUnlike_5 rfl ?_
  refine aw_iload_n X 2 dX4_cellsUnlike_6 rfl ?_
  refine aw_pV X (as := [vI a2]) mf_X4_cellsOf zw_426 (p_X4_cellsOf hp) hp rfl rfl (by decide) (Nat.le_of_ble_eq_true rfl) dX4_cellsUnlike_7 ?_
  refine aw_ixor X dX4_cellsUnlike_10 ?_
  refine aw_pS X (as := [vI ((v_X4_cellsOf I p a1) ^^^ (v_X4_cellsOf I p a2))]) mf_J6_bitCount_0f7a4 zw_656 (p_J6_bitCount_0f7a4) rfl rfl (by decide) (Nat.le_of_ble_eq_true rfl) dX4_cellsUnlike_11 ?_
  exact aw_iret X E rfl dX4_cellsUnlike_14 (hJ _ rfl)
set_option maxRecDepth 100000 in
theorem s_X4_nearestPair_7 {k : zK} {g : zG} {Q : Option zv → zI → zL → Prop} {I : zI} {L : zL} {p : Nat} {y1 : Int32} {y2 : Int32} {y3 : Int32} (hp : zsh p = (14, 10)) (X : zX k g cX4_nearestPair RX4 6 (some .int) 4) (E : zE k g Q) (h : if y3 < (I p 2) then (AW k g 6 I L 20 [(0, vR p), (1, vI y1), (2, vI y2), (3, vI y3), (4, vI (y3 + 1))] []) else (Q (some (vI y1)) I L)) : AW k g 6 I L 7 [(0, vR p), (1, vI y1), (2, vI y2), (3, vI y3)] [] := by
  refine aw_iload_n X 3 dX4_nearestPair_7 rfl ?_
  refine aw_aload_n X 0 dX4_nearestPair_8 rfl ?_
  refine aw_getI X zf_RX4_22 rfl hp dX4_nearestPair_9 ?_
  refine aw_icmp_gen X 67 dX4_nearestPair_12 rfl (fun c1 => ?_) (fun c1 => ?_)
  · replace h := zifp c1 h
    refine aw_iload_n X 3 dX4_nearestPair_15 rfl ?_
    refine aw_iconst (v := 1) X dX4_nearestPair_16 (by decide) ?_
    refine aw_iadd X dX4_nearestPair_17 ?_
    refine aw_istore X dX4_nearestPair_18 (by decide) rfl ?_
    refine aw_perm (ks9 := [(0, vR p), (1, vI y1), (2, vI y2), (3, vI y3), (4, vI (y3 + 1))]) [1, 2, 3, 4, 0] rfl ?_
    exact h
  · replace h := zifn c1 h
    refine aw_iload_n X 1 dX4_nearestPair_67 rfl ?_
    exact aw_iret X E rfl dX4_nearestPair_68 h
set_option maxRecDepth 100000 in
theorem s_X4_nearestPair_20 {k : zK} {g : zG} {Q : Option zv → zI → zL → Prop} {I : zI} {L : zL} {p : Nat} {y1 : Int32} {y2 : Int32} {y3 : Int32} {y4 : Int32} (hp : zsh p = (14, 10)) (X : zX k g cX4_nearestPair RX4 6 (some .int) 4) (E : zE k g Q) (h : if y4 < (I p 2) then ((∀ u4 : Int32, u4 = (if (v_X4_cellsUnlike I p y3 y4) < y2 then v_X4_cellsUnlike I p y3 y4 else y2) → AW k g 6 I L 20 [(0, vR p), (1, vI (if (v_X4_cellsUnlike I p y3 y4) < y2 then (10 * y3) + y4 else y1)), (2, vI u4), (3, vI y3), (4, vI (y4 + 1))] [])) else (AW k g 6 I L 7 [(0, vR p), (1, vI y1), (2, vI y2), (3, vI (y3 + 1))] [])) : AW k g 6 I L 20 [(0, vR p), (1, vI y1), (2, vI y2), (3, vI y3), (4, vI y4)] [] := by
  refine aw_iload X 4 dX4_nearestPair_20 rfl ?_
  refine aw_aload_n X 0 dX4_nearestPair_22 rfl ?_
  refine aw_getI X zf_RX4_22 rfl hp dX4_nearestPair_23 ?_
  refine aw_icmp_gen X 61 dX4_nearestPair_26 rfl (fun c1 => ?_) (fun c1 => ?_)
  · replace h := zifp c1 h
    refine aw_aload_n X 0 dX4_nearestPair_29 rfl ?_
    refine aw_iload_n X 3 dX4_nearestPair_30 rfl ?_
    refine aw_iload X 4 dX4_nearestPair_31 rfl ?_
    refine aw_pV X (as := [vI y3, vI y4]) mf_X4_cellsUnlike zw_813 (p_X4_cellsUnlike hp) hp rfl rfl (by decide) (Nat.le_of_ble_eq_true rfl) dX4_nearestPair_33 ?_
    refine aw_istore X dX4_nearestPair_36 (by decide) rfl ?_
    refine aw_iload X 0 dX4_nearestPair_38 rfl ?_
    refine aw_iload_n X 3 dX4_nearestPair_40 rfl ?_
    have hJ3 : ∀ (w1 : Int32) (u4 : Int32), w1 = (if (v_X4_cellsUnlike I p y3 y4) < y2 then (10 * y3) + y4 else y1) → u4 = (if (v_X4_cellsUnlike I p y3 y4) < y2 then v_X4_cellsUnlike I p y3 y4 else y2) → AW k g 6 I L 55 [(0, vR p), (1, vI w1), (2, vI u4), (3, vI y3), (4, vI y4)] [] := by
      intro w1 u4 q1 q2
      replace h := h u4 q2
      subst q1
      refine aw_iinc (v := y4 + 1) X 4 dX4_nearestPair_55 rfl rfl (by decide) rfl ?_
      refine aw_goto X 20 dX4_nearestPair_58 rfl ?_
      refine aw_perm (ks9 := [(0, vR p), (1, vI (if (v_X4_cellsUnlike I p y3 y4) < y2 then (10 * y3) + y4 else y1)), (2, vI u4), (3, vI y3), (4, vI (y4 + 1))]) [1, 2, 3, 4, 0] rfl ?_
      exact h
    refine aw_icmp_gen X 55 dX4_nearestPair_41 rfl (fun c2 => ?_) (fun c2 => ?_)
    · refine aw_iload X 0 dX4_nearestPair_44 rfl ?_
      refine aw_istore_n X dX4_nearestPair_46 (by decide) rfl ?_
      refine aw_bipush (v := 10) X dX4_nearestPair_47 (by decide) ?_
      refine aw_iload_n X 4 dX4_nearestPair_49 rfl ?_
      refine aw_imul X dX4_nearestPair_50 ?_
      refine aw_iload X 5 dX4_nearestPair_51 rfl ?_
      refine aw_iadd X dX4_nearestPair_53 ?_
      refine aw_istore_n X dX4_nearestPair_54 (by decide) rfl ?_
      refine aw_perm (ks9 := [(0, vR p), (1, vI ((10 * y3) + y4)), (2, vI (v_X4_cellsUnlike I p y3 y4)), (3, vI y3), (4, vI y4)]) [3, 0, 1, 4, 5] rfl ?_
      exact hJ3 _ _ (if_pos c2).symm (if_pos c2).symm
    · refine aw_perm (ks9 := [(0, vR p), (1, vI y1), (2, vI y2), (3, vI y3), (4, vI y4)]) [1, 2, 3, 4, 5] rfl ?_
      exact hJ3 _ _ (if_neg c2).symm (if_neg c2).symm
  · replace h := zifn c1 h
    refine aw_iinc (v := y3 + 1) X 3 dX4_nearestPair_61 rfl rfl (by decide) rfl ?_
    refine aw_goto X 7 dX4_nearestPair_64 rfl ?_
    refine aw_perm (ks9 := [(0, vR p), (1, vI y1), (2, vI y2), (3, vI (y3 + 1))]) [1, 2, 3, 0] rfl ?_
    exact h
set_option maxRecDepth 100000 in
theorem m_X4_nearestPair {l : Launch} {g : zG} {Q : Option zv → zI → zL → Prop} {I : zI} {L : zL} {p : Nat} (hp : zsh p = (14, 10)) (h : ∀ k : zK, kl k = l → zX k g cX4_nearestPair RX4 6 (some .int) 4 → zE k g Q → (AW k g 6 I L 7 [(0, vR p), (1, vI (-1)), (2, vI 17), (3, vI 0)] [])) : Call l g 4 M_X4_nearestPair [vR p] I L Q := by
  refine aw_entry (by decide) (Nat.le_of_ble_eq_true rfl) (fun k hk (X : zX k g cX4_nearestPair RX4 6 (some .int) 4) E => ?_)
  show AW k g 6 I L 0 [(0, vR p)] []
  replace h := h k hk X E
  subst hk
  refine aw_iconst (v := (-1)) X dX4_nearestPair_0 (by decide) ?_
  refine aw_istore_n X dX4_nearestPair_1 (by decide) rfl ?_
  refine aw_bipush (v := 17) X dX4_nearestPair_2 (by decide) ?_
  refine aw_istore_n X dX4_nearestPair_4 (by decide) rfl ?_
  refine aw_iconst (v := 0) X dX4_nearestPair_5 (by decide) ?_
  refine aw_istore_n X dX4_nearestPair_6 (by decide) rfl ?_
  refine aw_perm (ks9 := [(0, vR p), (1, vI (-1)), (2, vI 17), (3, vI 0)]) [3, 2, 1, 0] rfl ?_
  exact h
set_option maxRecDepth 100000 in
theorem s_X4_bestChange_7 {k : zK} {g : zG} {Q : Option zv → zI → zL → Prop} {I : zI} {L : zL} {p : Nat} {y1 : Int32} {y2 : Int32} {y3 : Int32} {y4 : Int32} (hp : zsh p = (14, 10)) (X : zX k g cX4_bestChange RX4 6 (some .int) 4) (E : zE k g Q) (h : if y4 < 16 then (Call (kl k) g 3 M_X4_fewestUnlike [vR p, vI ((v_X4_cellsOf I p y1) ^^^ (jshl 1 y4)), vI y1] I L (zi fun r2 I2 L2 => AW k g 6 I2 L2 7 [(0, vR p), (1, vI y1), (2, vI (if y3 < r2 then y4 else y2)), (3, vI (if y3 < r2 then r2 else y3)), (4, vI (y4 + 1))] [])) else (Q (some (vI y2)) I L)) : AW k g 6 I L 7 [(0, vR p), (1, vI y1), (2, vI y2), (3, vI y3), (4, vI y4)] [] := by
  refine aw_iload X 4 dX4_bestChange_7 rfl ?_
  refine aw_bipush (v := 16) X dX4_bestChange_9 (by decide) ?_
  refine aw_icmp_gen X 49 dX4_bestChange_11 rfl (fun c1 => ?_) (fun c1 => ?_)
  · replace h := zifp c1 h
    refine aw_aload_n X 0 dX4_bestChange_14 rfl ?_
    refine aw_aload_n X 0 dX4_bestChange_15 rfl ?_
    refine aw_iload_n X 1 dX4_bestChange_16 rfl ?_
    refine aw_pV X (as := [vI y1]) mf_X4_cellsOf zw_426 (p_X4_cellsOf hp) hp rfl rfl (by decide) (Nat.le_of_ble_eq_true rfl) dX4_bestChange_17 ?_
    refine aw_iconst (v := 1) X dX4_bestChange_20 (by decide) ?_
    refine aw_iload X 4 dX4_bestChange_21 rfl ?_
    refine aw_ishl X dX4_bestChange_23 ?_
    refine aw_ixor X dX4_bestChange_24 ?_
    refine aw_iload_n X 1 dX4_bestChange_25 rfl ?_
    refine aw_callV X (as := [vI ((v_X4_cellsOf I p y1) ^^^ (jshl 1 y4)), vI y1]) mf_X4_fewestUnlike zw_822 h hp rfl rfl (by decide) (Nat.le_of_ble_eq_true rfl) dX4_bestChange_26 (fun v I2 L2 h => ?_)
    obtain ⟨r2, rfl, h⟩ := h
    refine aw_istore X dX4_bestChange_29 (by decide) rfl ?_
    refine aw_iload X 0 dX4_bestChange_31 rfl ?_
    refine aw_iload_n X 4 dX4_bestChange_33 rfl ?_
    have hJ4 : ∀ (w1 : Int32) (w2 : Int32), w1 = (if y3 < r2 then y4 else y2) → w2 = (if y3 < r2 then r2 else y3) → AW k g 6 I2 L2 43 [(0, vR p), (1, vI y1), (2, vI w1), (3, vI w2), (4, vI y4)] [] := by
      intro w1 w2 q1 q2
      subst q1
      subst q2
      refine aw_iinc (v := y4 + 1) X 4 dX4_bestChange_43 rfl rfl (by decide) rfl ?_
      refine aw_goto X 7 dX4_bestChange_46 rfl ?_
      refine aw_perm (ks9 := [(0, vR p), (1, vI y1), (2, vI (if y3 < r2 then y4 else y2)), (3, vI (if y3 < r2 then r2 else y3)), (4, vI (y4 + 1))]) [1, 2, 3, 4, 0] rfl ?_
      exact h
    refine aw_icmp_len X 43 dX4_bestChange_34 rfl (fun c3 => ?_) (fun c3 => ?_)
    · refine aw_iload X 0 dX4_bestChange_37 rfl ?_
      refine aw_istore_n X dX4_bestChange_39 (by decide) rfl ?_
      refine aw_iload X 5 dX4_bestChange_40 rfl ?_
      refine aw_istore_n X dX4_bestChange_42 (by decide) rfl ?_
      refine aw_perm (ks9 := [(0, vR p), (1, vI y1), (2, vI y4), (3, vI r2), (4, vI y4)]) [3, 4, 0, 1, 5] rfl ?_
      exact hJ4 _ _ (if_pos c3).symm (if_pos c3).symm
    · refine aw_perm (ks9 := [(0, vR p), (1, vI y1), (2, vI y2), (3, vI y3), (4, vI y4)]) [1, 2, 3, 4, 5] rfl ?_
      exact hJ4 _ _ (if_neg c3).symm (if_neg c3).symm
  · replace h := zifn c1 h
    refine aw_iload_n X 2 dX4_bestChange_49 rfl ?_
    exact aw_iret X E rfl dX4_bestChange_50 h
set_option maxRecDepth 100000 in
theorem m_X4_bestChange {l : Launch} {g : zG} {Q : Option zv → zI → zL → Prop} {I : zI} {L : zL} {p : Nat} {a1 : Int32} (hp : zsh p = (14, 10)) (h : ∀ k : zK, kl k = l → zX k g cX4_bestChange RX4 6 (some .int) 4 → zE k g Q → (AW k g 6 I L 7 [(0, vR p), (1, vI a1), (2, vI (-1)), (3, vI (-1)), (4, vI 0)] [])) : Call l g 4 M_X4_bestChange [vR p, vI a1] I L Q := by
  refine aw_entry (by decide) (Nat.le_of_ble_eq_true rfl) (fun k hk (X : zX k g cX4_bestChange RX4 6 (some .int) 4) E => ?_)
  show AW k g 6 I L 0 [(0, vR p), (1, vI a1)] []
  replace h := h k hk X E
  subst hk
  refine aw_iconst (v := (-1)) X dX4_bestChange_0 (by decide) ?_
  refine aw_istore_n X dX4_bestChange_1 (by decide) rfl ?_
  refine aw_iconst (v := (-1)) X dX4_bestChange_2 (by decide) ?_
  refine aw_istore_n X dX4_bestChange_3 (by decide) rfl ?_
  refine aw_iconst (v := 0) X dX4_bestChange_4 (by decide) ?_
  refine aw_istore X dX4_bestChange_5 (by decide) rfl ?_
  refine aw_perm (ks9 := [(0, vR p), (1, vI a1), (2, vI (-1)), (3, vI (-1)), (4, vI 0)]) [3, 4, 2, 1, 0] rfl ?_
  exact h
set_option maxRecDepth 100000 in
theorem s_X5_lettersAmongReadings_4 {k : zK} {g : zG} {Q : Option zv → zI → zL → Prop} {I : zI} {L : zL} {y1 : Int32} {y2 : Int32}  (X : zX k g cX5_lettersAmongReadings RX5 3 (some .int) 1) (E : zE k g Q) (h : if y2 < 25 then (vp_in y2 25 ∧ ((∀ u5 : Int32, u5 = (if (I 62 y2.toNatClampNeg) < 0 then y1 else (y1 ||| (jshl 1 (I 62 y2.toNatClampNeg)))) → AW k g 3 I L 4 [(0, vR 59), (1, vI u5), (2, vI (y2 + 1))] []))) else (Q (some (vI y1)) I L)) : AW k g 3 I L 4 [(0, vR 59), (1, vI y1), (2, vI y2)] [] := by
  refine aw_iload_n X 2 dX5_lettersAmongReadings_4 rfl ?_
  refine aw_aload_n X 0 dX5_lettersAmongReadings_5 rfl ?_
  refine aw_getR X zf_RX5_22 rfl zs_59 zr_59_2 dX5_lettersAmongReadings_6 ?_
  refine aw_alen (v := 25) X zs_62 (by decide) (by decide) dX5_lettersAmongReadings_9 ?_
  refine aw_icmp_gen X 39 dX5_lettersAmongReadings_10 rfl (fun c1 => ?_) (fun c1 => ?_)
  · replace h := zifp c1 h
    refine aw_aload_n X 0 dX5_lettersAmongReadings_13 rfl ?_
    refine aw_getR X zf_RX5_22 rfl zs_59 zr_59_2 dX5_lettersAmongReadings_14 ?_
    refine aw_iload_n X 2 dX5_lettersAmongReadings_17 rfl ?_
    have n2 := h.1
    replace h := h.2
    refine aw_ialdj (j := y2.toNatClampNeg) X zs_62 n2 rfl dX5_lettersAmongReadings_18 ?_
    have hJ4 : ∀ (u5 : Int32), u5 = (if (I 62 y2.toNatClampNeg) < 0 then y1 else (y1 ||| (jshl 1 (I 62 y2.toNatClampNeg)))) → AW k g 3 I L 33 [(0, vR 59), (1, vI u5), (2, vI y2)] [] := by
      intro u5 q1
      replace h := h u5 q1
      refine aw_iinc (v := y2 + 1) X 2 dX5_lettersAmongReadings_33 rfl rfl (by decide) rfl ?_
      refine aw_goto X 4 dX5_lettersAmongReadings_36 rfl ?_
      refine aw_perm (ks9 := [(0, vR 59), (1, vI u5), (2, vI (y2 + 1))]) [1, 2, 0] rfl ?_
      exact h
    refine aw_if_lt X 33 dX5_lettersAmongReadings_19 rfl (fun c3 => ?_) (fun c3 => ?_)
    · refine aw_perm (ks9 := [(0, vR 59), (1, vI y1), (2, vI y2)]) [0, 1, 2] rfl ?_
      exact hJ4 _ (if_pos c3).symm
    · refine aw_iload_n X 1 dX5_lettersAmongReadings_22 rfl ?_
      refine aw_iconst (v := 1) X dX5_lettersAmongReadings_23 (by decide) ?_
      refine aw_aload_n X 0 dX5_lettersAmongReadings_24 rfl ?_
      refine aw_getR X zf_RX5_22 rfl zs_59 zr_59_2 dX5_lettersAmongReadings_25 ?_
      refine aw_iload_n X 2 dX5_lettersAmongReadings_28 rfl ?_
      refine aw_ialdj (j := y2.toNatClampNeg) X zs_62 n2 rfl dX5_lettersAmongReadings_29 ?_
      refine aw_ishl X dX5_lettersAmongReadings_30 ?_
      refine aw_ior X dX5_lettersAmongReadings_31 ?_
      refine aw_istore_n X dX5_lettersAmongReadings_32 (by decide) rfl ?_
      refine aw_perm (ks9 := [(0, vR 59), (1, vI (y1 ||| (jshl 1 (I 62 y2.toNatClampNeg)))), (2, vI y2)]) [1, 0, 2] rfl ?_
      exact hJ4 _ (if_neg c3).symm
  · replace h := zifn c1 h
    refine aw_iload_n X 1 dX5_lettersAmongReadings_39 rfl ?_
    exact aw_iret X E rfl dX5_lettersAmongReadings_40 h
set_option maxRecDepth 100000 in
theorem m_X5_lettersAmongReadings {l : Launch} {g : zG} {Q : Option zv → zI → zL → Prop} {I : zI} {L : zL}   (h : ∀ k : zK, kl k = l → zX k g cX5_lettersAmongReadings RX5 3 (some .int) 1 → zE k g Q → (AW k g 3 I L 4 [(0, vR 59), (1, vI 0), (2, vI 0)] [])) : Call l g 1 M_X5_lettersAmongReadings [vR 59] I L Q := by
  refine aw_entry (by decide) (Nat.le_of_ble_eq_true rfl) (fun k hk (X : zX k g cX5_lettersAmongReadings RX5 3 (some .int) 1) E => ?_)
  show AW k g 3 I L 0 [(0, vR 59)] []
  replace h := h k hk X E
  subst hk
  refine aw_iconst (v := 0) X dX5_lettersAmongReadings_0 (by decide) ?_
  refine aw_istore_n X dX5_lettersAmongReadings_1 (by decide) rfl ?_
  refine aw_iconst (v := 0) X dX5_lettersAmongReadings_2 (by decide) ?_
  refine aw_istore_n X dX5_lettersAmongReadings_3 (by decide) rfl ?_
  refine aw_perm (ks9 := [(0, vR 59), (1, vI 0), (2, vI 0)]) [2, 1, 0] rfl ?_
  exact h
def v_L_at (g : zG) (a2 : Int32) : Int32 := if a2 < (Int32.ofNat (gn g)) then gxs g a2.toNatClampNeg else (0 : Int32)
def k_L_at (g : zG) (a2 : Int32) : Prop := (a2 < (Int32.ofNat (gn g)) → vp_in a2 (gn g))
set_option maxRecDepth 100000 in
theorem p_L_at {l : Launch} {g : zG} {I : zI} {L : zL} {a2 : Int32}  (hk0 : k_L_at g a2) : Call l g 1 M_L_at [vR 3000, vI a2] I L (zp (some (vI (v_L_at g a2))) I L) := by
  refine aw_entry (by decide) (Nat.le_of_ble_eq_true rfl) (fun k hk (X : zX k g cL_at RL 2 (some .int) 1) E => ?_)
  show AW k g 2 I L 0 [(0, vR 3000), (1, vI a2)] []
  subst hk
  have n3 : (a2 < (Int32.ofNat (gn g)) → vp_in a2 (gn g)) := hk0
  have hJ : ∀ w1 : Int32, w1 = (if a2 < (Int32.ofNat (gn g)) then gxs g a2.toNatClampNeg else (0 : Int32)) → zp (some (vI (v_L_at g a2))) I L (some (vI w1)) I L := fun w1 e1 => ⟨by rw [e1]; rfl, rfl, rfl⟩
  refine aw_iload_n X 1 dL_at_0 rfl ?_
  refine aw_aload_n X 0 dL_at_1 rfl ?_
  refine aw_xlen X dL_at_2 ?_
  have hJ4 : ∀ (w1 : Int32), w1 = (if a2 < (Int32.ofNat (gn g)) then gxs g a2.toNatClampNeg else (0 : Int32)) → AW k g 2 I L 13 [] [vI w1] := by
    intro w1 q1
    subst q1
    exact aw_iret X E rfl dL_at_13 (hJ _ rfl)
  refine aw_icmp_gen X 12 dL_at_3 rfl (fun c1 => ?_) (fun c1 => ?_)
  · have n2 := (n3 c1)
    refine aw_aload_n X 0 dL_at_6 rfl ?_
    refine aw_iload_n X 1 dL_at_7 rfl ?_
    refine aw_xald X n2 dL_at_8 ?_
    refine aw_goto X 13 dL_at_9 rfl ?_
    refine aw_perm (ks9 := []) [] rfl ?_
    exact hJ4 _ (if_pos c1).symm
  · refine aw_iconst (v := 0) X dL_at_12 (by decide) ?_
    refine aw_perm (ks9 := []) [] rfl ?_
    exact hJ4 _ (if_neg c1).symm
theorem ofN_le (n : Nat) : (Int32.ofNat n).toInt ≤ n := by
  rcases Nat.lt_or_ge n 2147483648 with h | h
  · rw [show Int32.ofNat n = nI n from rfl, nI_toInt h]
    exact Int.le_refl _
  · have := Int32.toInt_lt (Int32.ofNat n)
    omega
theorem kat_lit {g : zG} {a : Int32} (h : ¬ a < 0) : k_L_at g a := fun h2 => zinof h h2 (ofN_le _)
