/-! values of pure methods; names of memories -/
abbrev jrem (x y : Int32) : Int32 := x - x / y * y
abbrev jshl (x y : Int32) : Int32 := x <<< (y &&& 31)
abbrev jshr (x y : Int32) : Int32 := x >>> (y &&& 31)
abbrev jushr (x y : Int32) : Int32 := (x.toUInt32 >>> (y.toUInt32 &&& Int32.toUInt32 31)).toInt32
abbrev zK_KIND_ABOVE : List Int32 := [-1, 0, 0, 2, 0, 1, 3]
theorem zsta_KIND_ABOVE : (1001, RX1, "KIND_ABOVE", zK_KIND_ABOVE) ∈ zsta := List.mem_of_getElem? (i := 0) rfl
theorem zinof {i m : Int32} {n : Nat} (h1 : ¬ i < 0) (h2 : i < m) (hm : m.toInt ≤ n) : vp_in i n := by
  rintro (h | h)
  · exact h1 h
  · have a := Int32.lt_iff_toInt_lt.mp h2
    have b : (0 : Int) ≤ i.toInt := by
      have := Int32.not_lt.mp h1
      simpa using Int32.le_iff_toInt_le.mp this
    have e : i.toNatClampNeg = i.toInt.toNat := rfl
    omega
/-- what a pure method's call leaves -/
def zp (v : Option zv) (I : zI) (L : zL) : Option zv → zI → zL → Prop := fun v' I' L' => v' = v ∧ I' = I ∧ L' = L
section ZQ
variable {k : zK} {g : zG} {cc : ByteArray} {own : String} {nL d pc : Nat} {rt : Option FieldType} {I : zI} {L : zL} {ls : List (Nat × zv)} {st : List zv}
theorem aw_nameI (h : ∀ I1, I1 = I → AW k g nL I1 L pc ls st) : AW k g nL I L pc ls st := h I rfl
theorem aw_nameL (h : ∀ L1, L1 = L → AW k g nL I L1 pc ls st) : AW k g nL I L pc ls st := h L rfl
theorem aw_pV (X : zX k g cc own nL rt d) {d' idx n ci N recv : Nat} {M : zM} {as st0 : List zv} {v : zv} (hM : zMV M n ci N) (hw : Cond.methodLink own idx M.1 ∈ zT) (hC : Call (kl k) g d' M (vR recv :: as) I L (zp (some v) I L)) (hsh : zsh recv = (10 + ci, N)) (hst : st0 = as.reverse ++ vR recv :: st) (hn : as.length = n) (hd : d' + 1 ≤ d) (hs : st.length ≤ 4) (dg : decode cc pc = .ok (.invokevirtual idx, 3)) (h : AW k g nL I L (pc + 3) ls (v :: st)) : AW k g nL I L pc ls st0 :=
  aw_callV X hM hw hC hsh hst hn hd hs dg (fun v' I' L' e => by obtain ⟨rfl, rfl, rfl⟩ := e; exact h)
theorem aw_pS (X : zX k g cc own nL rt d) {d' idx n : Nat} {M : zM} {as st0 : List zv} {v : zv} (hM : zMS M n) (hw : Cond.methodLink own idx M.1 ∈ zT) (hC : Call (kl k) g d' M as I L (zp (some v) I L)) (hst : st0 = as.reverse ++ st) (hn : as.length = n) (hd : d' + 1 ≤ d) (hs : st.length ≤ 4) (dg : decode cc pc = .ok (.invokestatic idx, 3)) (h : AW k g nL I L (pc + 3) ls (v :: st)) : AW k g nL I L pc ls st0 :=
  aw_callS X hM hw hC hst hn hd hs dg (fun v' I' L' e => by obtain ⟨rfl, rfl, rfl⟩ := e; exact h)
theorem aw_baldj (X : zX k g cc own nL rt d) (hb : gb g = true) {i : Int32} {j : Nat} (hi : vp_in i 37) (hj : i.toNatClampNeg = j) (dg : decode cc pc = .ok (.iaload, 1)) (h : AW k g nL I L (pc + 1) ls (vI (I 87 j) :: st)) : AW k g nL I L pc ls (vI i :: vR 87 :: st) := by
  subst hj; exact aw_bald X hb hi dg h
theorem aw_bastj (X : zX k g cc own nL rt d) (hb : gb g = true) {i x : Int32} {j : Nat} (hi : vp_in i 37) (hj : i.toNatClampNeg = j) (dg : decode cc pc = .ok (.iastore, 1)) (h : AW k g nL (zs I 87 j x) L (pc + 1) ls st) : AW k g nL I L pc ls (vI x :: vI i :: vR 87 :: st) := by
  subst hj; exact aw_bast X hb hi dg h
/-- the law's end: 1 on the stack -/
def zEl (k : zK) (g : zG) : Prop := ∀ (pc : Nat) (H : Heap) (locs : List Loc) (la : Array Slot), decode cL_law pc = .ok (.ireturn, 1) → va_S (gA g) (ks k).heap H locs → zW k H locs (F0 (km k) pc la [.int 1])
theorem aw_lend (X : zX k g cL_law RL nL rt d) (E : zEl k g) {x : Int32} (dg : decode cL_law pc = .ok (.ireturn, 1)) (h : x = 1) : AW k g nL I L pc ls [vI x] := by
  subst h
  intro H locs la hP hD hS hl
  exact E pc H locs la dg hS
end ZQ
theorem zcl_0 : zCl 0 5 RX0 TX0 tyX0 := ⟨rfl, fun w hw => zT_mem ((by decide +kernel : ∀ w ∈ wsX00, w ∈ lw_tbl) w hw) ((by decide +kernel : ∀ w ∈ wsX00, goodWord w = true) w hw), tyX0_ok, nmX0⟩
theorem zcl_1 : zCl 1 6 RX1 TX1 tyX1 := ⟨rfl, fun w hw => zT_mem ((by decide +kernel : ∀ w ∈ wsX10, w ∈ lw_tbl) w hw) ((by decide +kernel : ∀ w ∈ wsX10, goodWord w = true) w hw), tyX1_ok, nmX1⟩
theorem zcl_2 : zCl 2 3 RX2 TX2 tyX2 := ⟨rfl, fun w hw => zT_mem ((by decide +kernel : ∀ w ∈ wsX20, w ∈ lw_tbl) w hw) ((by decide +kernel : ∀ w ∈ wsX20, goodWord w = true) w hw), tyX2_ok, nmX2⟩
theorem zcl_3 : zCl 3 5 RX3 TX3 tyX3 := ⟨rfl, fun w hw => zT_mem ((by decide +kernel : ∀ w ∈ wsX30, w ∈ lw_tbl) w hw) ((by decide +kernel : ∀ w ∈ wsX30, goodWord w = true) w hw), tyX3_ok, nmX3⟩
theorem zcl_4 : zCl 4 10 RX4 TX4 tyX4 := ⟨rfl, fun w hw => zT_mem ((by decide +kernel : ∀ w ∈ wsX40, w ∈ lw_tbl) w hw) ((by decide +kernel : ∀ w ∈ wsX40, goodWord w = true) w hw), tyX4_ok, nmX4⟩
theorem zcl_5 : zCl 5 7 RX5 TX5 tyX5 := ⟨rfl, fun w hw => zT_mem ((by decide +kernel : ∀ w ∈ wsX50, w ∈ lw_tbl) w hw) ((by decide +kernel : ∀ w ∈ wsX50, goodWord w = true) w hw), tyX5_ok, nmX5⟩
theorem zcl_6 : zCl 6 9 RX6 TX6 tyX6 := ⟨rfl, fun w hw => zT_mem ((by decide +kernel : ∀ w ∈ wsX60, w ∈ lw_tbl) w hw) ((by decide +kernel : ∀ w ∈ wsX60, goodWord w = true) w hw), tyX6_ok, nmX6⟩
