/-! values of pure methods; names of memories -/
abbrev jrem (x y : Int32) : Int32 := x - x / y * y
abbrev jshl (x y : Int32) : Int32 := x <<< (y &&& 31)
abbrev jshr (x y : Int32) : Int32 := x >>> (y &&& 31)
abbrev jushr (x y : Int32) : Int32 := (x.toUInt32 >>> (y.toUInt32 &&& Int32.toUInt32 31)).toInt32
abbrev zK_KIND_ABOVE : List Int32 := [-1, 0, 0, 2, 0, 1, 3]
abbrev zK_FREEZING : List Int32 := [10, 20, 0, 0, 51, 0, 70]
abbrev zK_MELTING : List Int32 := [11, 0, 30, 40, 0, 0, 71]
abbrev zK_SHOWING : List Int32 := [12, 0, 0, 0, 50, 60, 0]
theorem zsta_KIND_ABOVE : (1001, RX1, "KIND_ABOVE", zK_KIND_ABOVE) ∈ zsta := List.mem_of_getElem? (i := 0) rfl
theorem zsta_FREEZING : (1002, RX0, "FREEZING", zK_FREEZING) ∈ zsta := List.mem_of_getElem? (i := 1) rfl
theorem zsta_MELTING : (1003, RX0, "MELTING", zK_MELTING) ∈ zsta := List.mem_of_getElem? (i := 2) rfl
theorem zsta_SHOWING : (1004, RX0, "SHOWING", zK_SHOWING) ∈ zsta := List.mem_of_getElem? (i := 3) rfl
theorem zinof {i m : Int32} {n : Nat} (h1 : ¬ i < 0) (h2 : i < m) (hm : m.toInt ≤ n) : vp_in i n := by
  rintro (h | h)
  · exact h1 h
  · have a := Int32.lt_iff_toInt_lt.mp h2
    have b : (0 : Int) ≤ i.toInt := by
      have := Int32.not_lt.mp h1
      simpa using Int32.le_iff_toInt_le.mp this
    have e : i.toNatClampNeg = i.toInt.toNat := rfl
    omega
/-- what a pure method's call leaves -/
def zp (v : Option zv) (I : zI) (L : zL) : Option zv → zI → zL → Prop := fun v' I' L' => v' = v ∧ I' = I ∧ L' = L
section ZQ
variable {k : zK} {g : zG} {cc : ByteArray} {own : String} {nL d pc : Nat} {rt : Option FieldType} {I : zI} {L : zL} {ls : List (Nat × zv)} {st : List zv}
theorem aw_nameI (h : ∀ I1, I1 = I → AW k g nL I1 L pc ls st) : AW k g nL I L pc ls st := h I rfl
theorem aw_nameL (h : ∀ L1, L1 = L → AW k g nL I L1 pc ls st) : AW k g nL I L pc ls st := h L rfl
theorem aw_pV (X : zX k g cc own nL rt d) {d' idx n ci N recv : Nat} {M : zM} {as st0 : List zv} {v : zv} (hM : zMV M n ci N) (hw : Cond.methodLink own idx M.1 ∈ zT) (hC : Call (kl k) g d' M (vR recv :: as) I L (zp (some v) I L)) (hsh : zsh recv = (10 + ci, N)) (hst : st0 = as.reverse ++ vR recv :: st) (hn : as.length = n) (hd : d' + 1 ≤ d) (hs : st.length ≤ 4) (dg : decode cc pc = .ok (.invokevirtual idx, 3)) (h : AW k g nL I L (pc + 3) ls (v :: st)) : AW k g nL I L pc ls st0 :=
  aw_callV X hM hw hC hsh hst hn hd hs dg (fun v' I' L' e => by obtain ⟨rfl, rfl, rfl⟩ := e; exact h)
theorem aw_pS (X : zX k g cc own nL rt d) {d' idx n : Nat} {M : zM} {as st0 : List zv} {v : zv} (hM : zMS M n) (hw : Cond.methodLink own idx M.1 ∈ zT) (hC : Call (kl k) g d' M as I L (zp (some v) I L)) (hst : st0 = as.reverse ++ st) (hn : as.length = n) (hd : d' + 1 ≤ d) (hs : st.length ≤ 4) (dg : decode cc pc = .ok (.invokestatic idx, 3)) (h : AW k g nL I L (pc + 3) ls (v :: st)) : AW k g nL I L pc ls st0 :=
  aw_callS X hM hw hC hst hn hd hs dg (fun v' I' L' e => by obtain ⟨rfl, rfl, rfl⟩ := e; exact h)
/-- texts (proved further on) -/
def zstr6 (t : Nat) : Prop := ∃ j, j < 6 ∧ t = 2000 + j
def zsln (t : Nat) : Int32 := Int32.ofNat (zslen.getD (t - 2000) 0)
def zsch (t : Nat) (i : Int32) : Int32 := (zsbyt.getD (t - 2000) []).getD i.toNatClampNeg 0
def zsin (t : Nat) (i : Int32) : Prop := vp_in i (zslen.getD (t - 2000) 0)
end ZQ
theorem zcl_0 : zCl 0 5 RX0 TX0 tyX0 := ⟨rfl, fun w hw => zT_mem ((by decide +kernel : ∀ w ∈ wsX00, w ∈ lw_tbl) w hw) ((by decide +kernel : ∀ w ∈ wsX00, goodWord w = true) w hw), tyX0_ok, nmX0⟩
theorem zcl_1 : zCl 1 6 RX1 TX1 tyX1 := ⟨rfl, fun w hw => zT_mem ((by decide +kernel : ∀ w ∈ wsX10, w ∈ lw_tbl) w hw) ((by decide +kernel : ∀ w ∈ wsX10, goodWord w = true) w hw), tyX1_ok, nmX1⟩
theorem zcl_2 : zCl 2 3 RX2 TX2 tyX2 := ⟨rfl, fun w hw => zT_mem ((by decide +kernel : ∀ w ∈ wsX20, w ∈ lw_tbl) w hw) ((by decide +kernel : ∀ w ∈ wsX20, goodWord w = true) w hw), tyX2_ok, nmX2⟩
theorem zcl_3 : zCl 3 5 RX3 TX3 tyX3 := ⟨rfl, fun w hw => zT_mem ((by decide +kernel : ∀ w ∈ wsX30, w ∈ lw_tbl) w hw) ((by decide +kernel : ∀ w ∈ wsX30, goodWord w = true) w hw), tyX3_ok, nmX3⟩
theorem zcl_4 : zCl 4 10 RX4 TX4 tyX4 := ⟨rfl, fun w hw => zT_mem ((by decide +kernel : ∀ w ∈ wsX40, w ∈ lw_tbl) w hw) ((by decide +kernel : ∀ w ∈ wsX40, goodWord w = true) w hw), tyX4_ok, nmX4⟩
theorem zcl_5 : zCl 5 7 RX5 TX5 tyX5 := ⟨rfl, fun w hw => zT_mem ((by decide +kernel : ∀ w ∈ wsX50, w ∈ lw_tbl) w hw) ((by decide +kernel : ∀ w ∈ wsX50, goodWord w = true) w hw), tyX5_ok, nmX5⟩
theorem zcl_6 : zCl 6 9 RX6 TX6 tyX6 := ⟨rfl, fun w hw => zT_mem ((by decide +kernel : ∀ w ∈ wsX60, w ∈ lw_tbl) w hw) ((by decide +kernel : ∀ w ∈ wsX60, goodWord w = true) w hw), tyX6_ok, nmX6⟩
theorem zcl_7 : zCl 7 31 RX7 TX7 tyX7 := ⟨rfl, fun w hw => zT_mem ((by decide +kernel : ∀ w ∈ wsX70, w ∈ lw_tbl) w hw) ((by decide +kernel : ∀ w ∈ wsX70, goodWord w = true) w hw), tyX7_ok, nmX7⟩
theorem zj_ini0 : Cond.initialized RJ0 ∈ zT := zTi 70 (by decide +kernel) (by decide +kernel)
theorem zj_ini1 : Cond.initialized RJ1 ∈ zT := zTi 71 (by decide +kernel) (by decide +kernel)
theorem zj_ini3 : Cond.initialized RJ3 ∈ zT := zTi 72 (by decide +kernel) (by decide +kernel)
abbrev M_J0_length : zM := (yJ0_length_8abf5, cJ0_length_8abf5, 1, some .int)
abbrev M_J0_coder : zM := (yJ0_coder_7d493, cJ0_coder_7d493, 1, some .byte)
abbrev M_J0_charAt : zM := (yJ0_charAt_5068e, cJ0_charAt_5068e, 2, some .char)
abbrev M_J0_isLatin1 : zM := (yJ0_isLatin1_aae02, cJ0_isLatin1_aae02, 1, some .boolean)
abbrev M_J0_checkIndex : zM := (yJ0_checkIndex_df160, cJ0_checkIndex_df160, 2, none)
abbrev M_J1_charAt : zM := (yJ1_charAt_3b067, cJ1_charAt_3b067, 2, some .char)
abbrev M_J3_checkIndex : zM := (yJ3_checkIndex_8e157, cJ3_checkIndex_8e157, 3, some .int)
def zMK (M : zM) (n : Nat) : Prop := zMd M n ∧ Cond.instanceMethod M.1 ∈ zT ∧ Cond.selects M.1.cls M.1 M.1 ∈ zT ∧ M.1.cls = "java/lang/String"
theorem zj_length : zMK M_J0_length 0 := ⟨⟨zj_ini0, zTi 563 (by decide +kernel) (by decide +kernel), by decide +kernel, by decide⟩, zTi 561 (by decide +kernel) (by decide +kernel), zTi 562 (by decide +kernel) (by decide +kernel), rfl⟩
theorem zj_coder : zMK M_J0_coder 0 := ⟨⟨zj_ini0, zTi 567 (by decide +kernel) (by decide +kernel), by decide +kernel, by decide⟩, zTi 565 (by decide +kernel) (by decide +kernel), zTi 566 (by decide +kernel) (by decide +kernel), rfl⟩
theorem zj_charAt : zMK M_J0_charAt 1 := ⟨⟨zj_ini0, zTi 573 (by decide +kernel) (by decide +kernel), by decide +kernel, by decide⟩, zTi 571 (by decide +kernel) (by decide +kernel), zTi 572 (by decide +kernel) (by decide +kernel), rfl⟩
theorem zj_isLatin1 : zMK M_J0_isLatin1 0 := ⟨⟨zj_ini0, zTi 577 (by decide +kernel) (by decide +kernel), by decide +kernel, by decide⟩, zTi 575 (by decide +kernel) (by decide +kernel), zTi 576 (by decide +kernel) (by decide +kernel), rfl⟩
theorem zj_checkIndex : zMS M_J0_checkIndex 2 := ⟨⟨zj_ini0, zTi 583 (by decide +kernel) (by decide +kernel), by decide +kernel, by decide⟩, zTi 582 (by decide +kernel) (by decide +kernel)⟩
theorem zj_charAt1 : zMS M_J1_charAt 2 := ⟨⟨zj_ini1, zTi 580 (by decide +kernel) (by decide +kernel), by decide +kernel, by decide⟩, zTi 579 (by decide +kernel) (by decide +kernel)⟩
theorem zj_checkIndex3 : zMS M_J3_checkIndex 3 := ⟨⟨zj_ini3, zTi 588 (by decide +kernel) (by decide +kernel), by decide +kernel, by decide⟩, zTi 587 (by decide +kernel) (by decide +kernel)⟩
section ZSK
variable {k : zK} {g : zG} {cc : ByteArray} {own : String} {nL d pc : Nat} {rt : Option FieldType} {I : zI} {L : zL} {ls : List (Nat × zv)} {st : List zv} {idx j : Nat}
theorem aw_callK (X : zX k g cc own nL rt d) {d' n : Nat} {M : zM} {as st0 : List zv} {Q' : Option zv → zI → zL → Prop} (hM : zMK M n) (hw : Cond.methodLink own idx M.1 ∈ zT) (hj : j < 6) (hC : Call (kl k) g d' M (vR (2000 + j) :: as) I L Q') (hst : st0 = as.reverse ++ vR (2000 + j) :: st) (hn : as.length = n) (hd : d' + 1 ≤ d) (hs : st.length ≤ 4) (dg : decode cc pc = .ok (.invokevirtual idx, 3))
    (kk : ∀ v I' L', Q' v I' L' → AW k g nL I' L' (pc + 3) ls (v.toList ++ st)) : AW k g nL I L pc ls st0 := by
  intro H locs la hP hD hS hl
  obtain ⟨⟨hini, hcode, hdesc, hmx⟩, hin, hsel, hcl⟩ := hM
  have hz : zc (gad g) (vR (2000 + j)) = .ref (gad g (2000 + j)) := zr_n _ (by omega)
  have hG : GoodIn zT (wsV own idx M.1.cls M.1 (Cond.code M.1 M.2.1 M.2.2.1 M.2.2.2 :: zT)) := by
    intro w hw9
    unfold wsV at hw9
    rcases List.mem_append.mp hw9 with h | h
    · simp only [List.mem_cons, List.not_mem_nil, or_false] at h
      rcases h with rfl | rfl | rfl | rfl
      · exact zgood hw
      · exact zgood hin
      · exact zgood hsel
      · exact zgood hini
    · rcases List.mem_cons.mp h with rfl | h
      · exact zgood hcode
      · exact zgood h
  refine aw_after X (st := st) (ls := ls) (va_runV (C := M.1.cls) (b := gad g (2000 + j)) (As := as.map (zc (gad g))) (rest := st.map (zc (gad g))) (n := n) ⟨X.1, X.2.1, X.2.2.1, X.2.2.2.1, X.2.2.2.2.1⟩ hC (cwV n X.2.2.2.2.1 hG rfl rfl rfl ⟨rfl, hdesc⟩ ⟨?_, ?_⟩) ⟨zblind, by rw [hcl]; exact vk_recv (adK := fun j => gad g (2000 + j)) X.2.2.2.2.2.2.1.2.2.2.1 hj hS, fun U hU hW => ⟨?_, zWd X hP hD hS hU hW⟩⟩ rfl (by rw [List.length_map]; exact hn) hl.1 ?_ (lv_room (zrest (gad g) hs)) dg ⟨Nat.zero_le _, Nat.zero_le _⟩) hS hl kk
  · exact Nat.le_trans hd X.2.2.2.2.2.2.2.2.2.1
  · have := X.2.2.2.2.2.2.2.2.2.2
    show 8 + (M.2.2.1 + 11) + 64 * d' ≤ _
    omega
  · rw [List.map_cons, hz]
  · show st0.map (zc (gad g)) = _
    rw [hst, List.map_append, List.map_reverse, List.map_cons, hz]
theorem aw_gval (X : zX k g cc own nL rt d) (hj : j < 6) (hl : Cond.fieldLink own idx "java/lang/String" "value" "[B" ∈ zT) (dg : decode cc pc = .ok (.getfield idx, 3)) (h : AW k g nL I L (pc + 3) ls (vR (2100 + j) :: st)) : AW k g nL I L pc ls (vR (2000 + j) :: st) := by
  intro H locs la hP hD hS hl9
  have h9 := h H locs la hP hD hS hl9
  rw [List.map_cons, show zc (gad g) (vR (2100 + j)) = .ref (gad g (2100 + j)) from zr_n _ (by omega)] at h9
  rw [List.map_cons, show zc (gad g) (vR (2000 + j)) = .ref (gad g (2000 + j)) from zr_n _ (by omega)]
  exact vk_getf X.1 X.2.1 (X.2.2.2.2.2.2.1.2.2.2.1.1 j hj).2.2.1 hS X.2.2.2.1 (X.2.2.2.2.1 _ hl) (fun _ h => h) dg h9
theorem aw_gcod (X : zX k g cc own nL rt d) (hj : j < 6) (hl : Cond.fieldLink own idx "java/lang/String" "coder" "B" ∈ zT) (dg : decode cc pc = .ok (.getfield idx, 3)) (h : AW k g nL I L (pc + 3) ls (vI 0 :: st)) : AW k g nL I L pc ls (vR (2000 + j) :: st) := by
  intro H locs la hP hD hS hl9
  have h9 := h H locs la hP hD hS hl9
  rw [List.map_cons, show zc (gad g) (vR (2000 + j)) = .ref (gad g (2000 + j)) from zr_n _ (by omega)]
  exact vk_getf X.1 X.2.1 (X.2.2.2.2.2.2.1.2.2.2.1.1 j hj).2.1 hS X.2.2.2.1 (X.2.2.2.2.1 _ hl) (fun _ h => h) dg h9
theorem aw_gcomp (X : zX k g cc own nL rt d) (hl : Cond.fieldLink own idx "java/lang/String" "COMPACT_STRINGS" "Z" ∈ zT) (dg : decode cc pc = .ok (.getstatic idx, 3)) (h : AW k g nL I L (pc + 3) ls (vI 1 :: st)) : AW k g nL I L pc ls st := by
  intro H locs la hP hD hS hl9
  exact va_gets X.1 X.2.1 X.2.2.2.2.2.2.1.2.1 hS X.2.2.2.1 (X.2.2.2.2.1 _ hl) (fun _ h => h) dg (h H locs la hP hD hS hl9)
theorem aw_gform (X : zX k g cc own nL rt d) (hl : Cond.fieldLink own idx "jdk/internal/util/Preconditions" "SIOOBE_FORMATTER" "Ljava/util/function/BiFunction;" ∈ zT) (dg : decode cc pc = .ok (.getstatic idx, 3)) (h0 : AW k g nL I L (pc + 3) ls (vR 0 :: st)) (h1 : AW k g nL I L (pc + 3) ls (vR 2999 :: st)) : AW k g nL I L pc ls st := by
  intro H locs la hP hD hS hl9
  rcases X.2.2.2.2.2.2.1.2.2.1 with z | z
  · exact va_gets X.1 X.2.1 z hS X.2.2.2.1 (X.2.2.2.2.1 _ hl) (fun _ h => h) dg (h0 H locs la hP hD hS hl9)
  · have h9 := h1 H locs la hP hD hS hl9
    rw [List.map_cons, show zc (gad g) (vR 2999) = .ref (gad g 2999) from zr_n _ (by omega)] at h9
    exact va_gets X.1 X.2.1 z hS X.2.2.2.1 (X.2.2.2.2.1 _ hl) (fun _ h => h) dg h9
theorem aw_blen (X : zX k g cc own nL rt d) (hj : j < 6) {v : Int32} (hv : Int32.ofNat (zslen.getD j 0) = v) (dg : decode cc pc = .ok (.arraylength, 1)) (h : AW k g nL I L (pc + 1) ls (vI v :: st)) : AW k g nL I L pc ls (vR (2100 + j) :: st) := by
  intro H locs la hP hD hS hl9
  have h9 := h H locs la hP hD hS hl9
  rw [List.map_cons, show zc (gad g) (vR (2100 + j)) = .ref (gad g (2100 + j)) from zr_n _ (by omega)]
  exact va_tlen X.1 X.2.1 (X.2.2.2.2.2.2.1.2.2.2.1.1 j hj).2.2.2 hS hv dg h9
theorem aw_bget (X : zX k g cc own nL rt d) (hj : j < 6) {i : Int32} (hi : vp_in i (zslen.getD j 0)) (dg : decode cc pc = .ok (.baload, 1)) (h : AW k g nL I L (pc + 1) ls (vI ((zsbyt.getD j []).getD i.toNatClampNeg 0) :: st)) : AW k g nL I L pc ls (vI i :: vR (2100 + j) :: st) := by
  intro H locs la hP hD hS hl9
  have h9 := h H locs la hP hD hS hl9
  rw [List.map_cons, List.map_cons, show zc (gad g) (vR (2100 + j)) = .ref (gad g (2100 + j)) from zr_n _ (by omega)]
  exact va_tb X.1 X.2.1 (X.2.2.2.2.2.2.1.2.2.2.1.1 j hj).2.2.2 hS hi rfl dg h9
end ZSK
theorem pj_coder {l : Launch} {g : zG} {I : zI} {L : zL} {j : Nat} (hj : j < 6) : Call l g 1 M_J0_coder [vR (2000 + j)] I L (zp (some (vI 0)) I L) := by
  refine aw_entry (by decide) (Nat.le_of_ble_eq_true rfl) (fun k hk (X : zX k g cJ0_coder_7d493 RJ0 1 (some .byte) 1) E => ?_)
  show AW k g 1 I L 0 [(0, vR (2000 + j))] []
  refine aw_gcomp X (zTi 568 (by decide +kernel) (by decide +kernel)) dJ0_coder_7d493_0 ?_
  refine aw_if_eq X 13 dJ0_coder_7d493_3 rfl (fun h => absurd h (by decide)) (fun _ => ?_)
  refine aw_aload_n X 0 dJ0_coder_7d493_6 rfl ?_
  refine aw_gcod X hj (zTi 1479 (by decide +kernel) (by decide +kernel)) dJ0_coder_7d493_7 ?_
  refine aw_goto X 14 dJ0_coder_7d493_10 rfl ?_
  exact aw_nret .byte X E rfl rfl dJ0_coder_7d493_14 ⟨rfl, rfl, rfl⟩
theorem pj_isLatin1 {l : Launch} {g : zG} {I : zI} {L : zL} {j : Nat} (hj : j < 6) : Call l g 1 M_J0_isLatin1 [vR (2000 + j)] I L (zp (some (vI 1)) I L) := by
  refine aw_entry (by decide) (Nat.le_of_ble_eq_true rfl) (fun k hk (X : zX k g cJ0_isLatin1_aae02 RJ0 1 (some .boolean) 1) E => ?_)
  show AW k g 1 I L 0 [(0, vR (2000 + j))] []
  refine aw_gcomp X (zTi 568 (by decide +kernel) (by decide +kernel)) dJ0_isLatin1_aae02_0 ?_
  refine aw_if_eq X 17 dJ0_isLatin1_aae02_3 rfl (fun h => absurd h (by decide)) (fun _ => ?_)
  refine aw_aload_n X 0 dJ0_isLatin1_aae02_6 rfl ?_
  refine aw_gcod X hj (zTi 1479 (by decide +kernel) (by decide +kernel)) dJ0_isLatin1_aae02_7 ?_
  refine aw_if_ne X 17 dJ0_isLatin1_aae02_10 rfl (fun h => absurd rfl h) (fun _ => ?_)
  refine aw_iconst (v := 1) X dJ0_isLatin1_aae02_13 (by decide) ?_
  refine aw_goto X 18 dJ0_isLatin1_aae02_14 rfl ?_
  exact aw_nret .boolean X E rfl rfl dJ0_isLatin1_aae02_18 ⟨rfl, rfl, rfl⟩
theorem pj_checkIndex3 {l : Launch} {g : zG} {I : zI} {L : zL} {f : Nat} {i n : Int32} (h0 : ¬ i < 0) (h1 : i < n) : Call l g 1 M_J3_checkIndex [vI i, vI n, vR f] I L (zp (some (vI i)) I L) := by
  refine aw_entry (by decide) (Nat.le_of_ble_eq_true rfl) (fun k hk (X : zX k g cJ3_checkIndex_8e157 RJ3 3 (some .int) 1) E => ?_)
  show AW k g 3 I L 0 [(0, vI i), (1, vI n), (2, vR f)] []
  refine aw_iload_n X 0 dJ3_checkIndex_8e157_0 rfl ?_
  refine aw_if_lt X 9 dJ3_checkIndex_8e157_1 rfl (fun h => absurd h h0) (fun _ => ?_)
  refine aw_iload_n X 0 dJ3_checkIndex_8e157_4 rfl ?_
  refine aw_iload_n X 1 dJ3_checkIndex_8e157_5 rfl ?_
  refine aw_icmp_lt X 16 dJ3_checkIndex_8e157_6 rfl (fun _ => ?_) (fun h => absurd h1 h)
  refine aw_iload_n X 0 dJ3_checkIndex_8e157_16 rfl ?_
  exact aw_iret X E rfl dJ3_checkIndex_8e157_17 ⟨rfl, rfl, rfl⟩
theorem pj_checkIndex {l : Launch} {g : zG} {I : zI} {L : zL} {i n : Int32} (h0 : ¬ i < 0) (h1 : i < n) : Call l g 2 M_J0_checkIndex [vI i, vI n] I L (zp none I L) := by
  refine aw_entry (by decide) (Nat.le_of_ble_eq_true rfl) (fun k hk (X : zX k g cJ0_checkIndex_df160 RJ0 2 none 2) E => ?_)
  show AW k g 2 I L 0 [(0, vI i), (1, vI n)] []
  subst hk
  refine aw_iload_n X 0 dJ0_checkIndex_df160_0 rfl ?_
  refine aw_iload_n X 1 dJ0_checkIndex_df160_1 rfl ?_
  have t : ∀ f : Nat, AW k g 2 I L 5 [(0, vI i), (1, vI n)] [vR f, vI n, vI i] := fun f => by
    refine aw_pS X zj_checkIndex3 (zTi 586 (by decide +kernel) (by decide +kernel)) (pj_checkIndex3 (f := f) h0 h1) (st := []) rfl rfl (by decide) (by decide) dJ0_checkIndex_df160_5 ?_
    refine aw_pop X dJ0_checkIndex_df160_8 rfl ?_
    exact aw_vret X E rfl dJ0_checkIndex_df160_9 ⟨rfl, rfl, rfl⟩
  exact aw_gform X (zTi 584 (by decide +kernel) (by decide +kernel)) dJ0_checkIndex_df160_2 (t 0) (t 2999)
theorem zsb_fact : ∀ j, j < 6 → ∀ n, n < 4 → ((((zsbyt.getD j []).getD n 0) &&& 255).toUInt32 % 65536).toInt32 = (zsbyt.getD j []).getD n 0 ∧ narrow .char (.int ((zsbyt.getD j []).getD n 0)) = .int ((zsbyt.getD j []).getD n 0) := by decide +kernel
theorem zsl_fact : ∀ j, j < 6 → zslen.getD j 0 ≤ 4 ∧ (Int32.ofNat (zslen.getD j 0)).toInt = (zslen.getD j 0 : Nat) ∧ Int32.ofNat (zslen.getD j 0) >>> (0 &&& 31) = Int32.ofNat (zslen.getD j 0) := by decide +kernel
theorem pj_charAt1 {l : Launch} {g : zG} {I : zI} {L : zL} {j : Nat} (hj : j < 6) {i : Int32} (hi : vp_in i (zslen.getD j 0)) : Call l g 3 M_J1_charAt [vR (2100 + j), vI i] I L (zp (some (vI ((zsbyt.getD j []).getD i.toNatClampNeg 0))) I L) := by
  have hi0 : ¬ i < 0 := fun h => hi (Or.inl h)
  have hi1 : i.toNatClampNeg < zslen.getD j 0 := Nat.lt_of_not_le fun h => hi (Or.inr h)
  obtain ⟨q1, q2, -⟩ := zsl_fact j hj
  obtain ⟨b1, b2⟩ := zsb_fact j hj i.toNatClampNeg (by omega)
  have hi2 : i < Int32.ofNat (zslen.getD j 0) := by
    rw [Int32.lt_iff_toInt_lt, q2]
    have e : i.toNatClampNeg = i.toInt.toNat := rfl
    omega
  refine aw_entry (by decide) (Nat.le_of_ble_eq_true rfl) (fun k hk (X : zX k g cJ1_charAt_3b067 RJ1 2 (some .char) 3) E => ?_)
  show AW k g 2 I L 0 [(0, vR (2100 + j)), (1, vI i)] []
  subst hk
  refine aw_iload_n X 1 dJ1_charAt_3b067_0 rfl ?_
  refine aw_aload_n X 0 dJ1_charAt_3b067_1 rfl ?_
  refine aw_blen X hj rfl dJ1_charAt_3b067_2 ?_
  refine aw_callS X zj_checkIndex (zTi 581 (by decide +kernel) (by decide +kernel)) (pj_checkIndex hi0 hi2) (st := []) rfl rfl (by decide) (by decide) dJ1_charAt_3b067_3 ?_
  rintro v I' L' ⟨rfl, rfl, rfl⟩
  refine aw_aload_n X 0 dJ1_charAt_3b067_6 rfl ?_
  refine aw_iload_n X 1 dJ1_charAt_3b067_7 rfl ?_
  refine aw_bget X hj hi dJ1_charAt_3b067_8 ?_
  refine aw_sipush (v := 255) X dJ1_charAt_3b067_9 (by decide) ?_
  refine aw_iand X dJ1_charAt_3b067_12 ?_
  refine aw_i2c X dJ1_charAt_3b067_13 ?_
  rw [b1]
  exact aw_nret .char X E rfl b2 dJ1_charAt_3b067_14 ⟨rfl, rfl, rfl⟩
theorem pj_charAt {l : Launch} {g : zG} {I : zI} {L : zL} {j : Nat} (hj : j < 6) {i : Int32} (hi : vp_in i (zslen.getD j 0)) : Call l g 4 M_J0_charAt [vR (2000 + j), vI i] I L (zp (some (vI ((zsbyt.getD j []).getD i.toNatClampNeg 0))) I L) := by
  have hi1 : i.toNatClampNeg < zslen.getD j 0 := Nat.lt_of_not_le fun h => hi (Or.inr h)
  obtain ⟨q1, -, -⟩ := zsl_fact j hj
  obtain ⟨-, b2⟩ := zsb_fact j hj i.toNatClampNeg (by omega)
  refine aw_entry (by decide) (Nat.le_of_ble_eq_true rfl) (fun k hk (X : zX k g cJ0_charAt_5068e RJ0 2 (some .char) 4) E => ?_)
  show AW k g 2 I L 0 [(0, vR (2000 + j)), (1, vI i)] []
  subst hk
  refine aw_aload_n X 0 dJ0_charAt_5068e_0 rfl ?_
  refine aw_callK X zj_isLatin1 (zTi 574 (by decide +kernel) (by decide +kernel)) hj (pj_isLatin1 hj) (as := []) (st := []) rfl rfl (by decide) (by decide) dJ0_charAt_5068e_1 ?_
  rintro v I' L' ⟨rfl, rfl, rfl⟩
  refine aw_if_eq X 16 dJ0_charAt_5068e_4 rfl (fun h => absurd h (by decide)) (fun _ => ?_)
  refine aw_aload_n X 0 dJ0_charAt_5068e_7 rfl ?_
  refine aw_gval X hj (zTi 1478 (by decide +kernel) (by decide +kernel)) dJ0_charAt_5068e_8 ?_
  refine aw_iload_n X 1 dJ0_charAt_5068e_11 rfl ?_
  refine aw_pS X zj_charAt1 (zTi 578 (by decide +kernel) (by decide +kernel)) (pj_charAt1 hj hi) (st := []) rfl rfl (by decide) (by decide) dJ0_charAt_5068e_12 ?_
  exact aw_nret .char X E rfl b2 dJ0_charAt_5068e_15 ⟨rfl, rfl, rfl⟩
theorem pj_length {l : Launch} {g : zG} {I : zI} {L : zL} {j : Nat} (hj : j < 6) : Call l g 2 M_J0_length [vR (2000 + j)] I L (zp (some (vI (Int32.ofNat (zslen.getD j 0)))) I L) := by
  obtain ⟨-, -, q3⟩ := zsl_fact j hj
  refine aw_entry (by decide) (Nat.le_of_ble_eq_true rfl) (fun k hk (X : zX k g cJ0_length_8abf5 RJ0 1 (some .int) 2) E => ?_)
  show AW k g 1 I L 0 [(0, vR (2000 + j))] []
  subst hk
  refine aw_aload_n X 0 dJ0_length_8abf5_0 rfl ?_
  refine aw_gval X hj (zTi 1478 (by decide +kernel) (by decide +kernel)) dJ0_length_8abf5_1 ?_
  refine aw_blen X hj rfl dJ0_length_8abf5_4 ?_
  refine aw_aload_n X 0 dJ0_length_8abf5_5 rfl ?_
  refine aw_callK X zj_coder (zTi 564 (by decide +kernel) (by decide +kernel)) hj (pj_coder hj) (as := []) (st := [vI _]) rfl rfl (by decide) (Nat.le_of_ble_eq_true rfl) dJ0_length_8abf5_6 ?_
  rintro v I' L' ⟨rfl, rfl, rfl⟩
  refine aw_ishr X dJ0_length_8abf5_9 ?_
  rw [q3]
  exact aw_iret X E rfl dJ0_length_8abf5_10 ⟨rfl, rfl, rfl⟩
section ZST2
variable {k : zK} {g : zG} {cc : ByteArray} {own : String} {nL d pc : Nat} {rt : Option FieldType} {I : zI} {L : zL} {ls : List (Nat × zv)} {st : List zv} {idx t : Nat}
theorem aw_strlen (X : zX k g cc own nL rt d) (hd : 8 ≤ d) (hs : st.length ≤ 4) (hw : Cond.methodLink own idx yJ0_length_8abf5 ∈ zT) (ht : zstr6 t) (dg : decode cc pc = .ok (.invokevirtual idx, 3)) (h : AW k g nL I L (pc + 3) ls (vI (zsln t) :: st)) : AW k g nL I L pc ls (vR t :: st) := by
  obtain ⟨j, hj, rfl⟩ := ht
  refine aw_callK X zj_length hw hj (pj_length hj) (as := []) (st := st) rfl rfl (by omega) hs dg ?_
  rintro v I' L' ⟨rfl, rfl, rfl⟩
  unfold zsln at h
  rw [Nat.add_sub_cancel_left] at h
  exact h
theorem aw_strchar (X : zX k g cc own nL rt d) (hd : 8 ≤ d) (hs : st.length ≤ 4) (hw : Cond.methodLink own idx yJ0_charAt_5068e ∈ zT) (ht : zstr6 t) {i : Int32} (hi : zsin t i) (dg : decode cc pc = .ok (.invokevirtual idx, 3)) (h : AW k g nL I L (pc + 3) ls (vI (zsch t i) :: st)) : AW k g nL I L pc ls (vI i :: vR t :: st) := by
  obtain ⟨j, hj, rfl⟩ := ht
  unfold zsin at hi
  rw [Nat.add_sub_cancel_left] at hi
  refine aw_callK X zj_charAt hw hj (pj_charAt hj hi) (as := [vI i]) (st := st) rfl rfl (by omega) hs dg ?_
  rintro v I' L' ⟨rfl, rfl, rfl⟩
  unfold zsch at h
  rw [Nat.add_sub_cancel_left] at h
  exact h
end ZST2
