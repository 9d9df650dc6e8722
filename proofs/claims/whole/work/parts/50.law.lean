/-! THE LAW'S BODY -/
def PW (g : zG) (I : zI) (L : zL) (H : Heap) : Prop := va_P (gD g) vwCl (zw g I L) H ∧ va_D (gA g) (zw g I L)
/-- the law's walk: the script's n ints are xs; its end with 1 on the stack is a good end -/
def zXl (k : zK) (g : zG) (cs sl n : Nat) (xs : Nat → Int32) : Prop :=
  zX k g cL_law RL 4 ret 60 ∧ va_X (gad g 3000) n xs (ks k) (ks k).heap ∧ gad g 3000 < (ks k).heap.size ∧ gz g = (ks k).heap.size ∧ n ≤ 3072 ∧ (cs ≤ k.2.2.2.1.cells ∧ sl ≤ k.2.2.2.1.slots) ∧
  ∀ (H : Heap) (locs : List Loc) (la : Array Slot), va_S (gA g) (ks k).heap H locs → zWc k cs sl H locs (F0 (km k) 1742 la [.int 1])
def lsL (i : Int32) : List (Nat × zv) := [(3, vI i), (2, vR 87), (1, vR 1), (0, vR 3000)]
theorem and63 (x : Int32) : ∃ q : Nat, q < 64 ∧ (x &&& 63).toInt = q := by
  have h : (x &&& 63).toBitVec.toNat ≤ 63 := by
    rw [Int32.toBitVec_and, BitVec.toNat_and]
    exact Nat.and_le_right
  refine ⟨(x &&& 63).toBitVec.toNat, by omega, ?_⟩
  show (x &&& 63).toBitVec.toInt = _
  rw [BitVec.toInt_eq_toNat_of_lt (by omega)]
section ZLW
variable {k : zK} {g : zG} {cs sl n pc : Nat} {xs : Nat → Int32} {PP : Heap → Prop} {I : zI} {L : zL} {ls : List (Nat × zv)} {st : List zv}
theorem gA_b (X : zXl k g cs sl n xs) : ¬ gA g (gad g 3000) := by
  intro h
  have h1 : gz g ≤ gad g 3000 := h
  have h2 := X.2.2.1
  have h3 := X.2.2.2.1
  omega
theorem al_sld (X : zXl k g cs sl n xs) {i : Int32} {nL cs sl : Nat} (hi : vp_in i n) (dg : decode cL_law pc = .ok (.iaload, 1)) (h : AG k g PP cs sl nL (pc + 1) ls (vI (xs i.toNatClampNeg) :: st)) : AG k g PP cs sl nL pc ls (vI i :: vR 3000 :: st) := by
  intro H locs la hP hS hl
  have h9 := h H locs la hP hS hl
  rw [List.map_cons, List.map_cons, show zc (gad g) (vR 3000) = .ref (gad g 3000) from zr_n _ (by decide)]
  exact va_sld X.1.1 X.1.2.1 X.2.1 X.2.2.1 (gA_b X) hS hi dg h9
theorem al_slen (X : zXl k g cs sl n xs) {nL cs sl : Nat} (dg : decode cL_law pc = .ok (.arraylength, 1)) (h : AG k g PP cs sl nL (pc + 1) ls (vI (Int32.ofNat n) :: st)) : AG k g PP cs sl nL pc ls (vR 3000 :: st) := by
  intro H locs la hP hS hl
  have h9 := h H locs la hP hS hl
  rw [List.map_cons, show zc (gad g) (vR 3000) = .ref (gad g 3000) from zr_n _ (by decide)]
  exact va_slen X.1.1 X.1.2.1 X.2.1 X.2.2.1 (gA_b X) hS dg h9
theorem al_arg (X : zXl k g cs sl n xs) {i v : Int32} {c : Int} {cs sl : Nat} (hi : vp_in (i + v) n) (hv : Int32.ofInt c = v) (d0 : decode cL_law pc = .ok (.aload_n 0, 1)) (d1 : decode cL_law (pc + 1) = .ok (.iload_n 3, 1)) (d2 : decode cL_law (pc + 2) = .ok (.iconst c, 1)) (d3 : decode cL_law (pc + 3) = .ok (.iadd, 1)) (d4 : decode cL_law (pc + 4) = .ok (.iaload, 1)) (h : AG k g PP cs sl 4 (pc + 5) (lsL i) (vI (xs (i + v).toNatClampNeg) :: st)) : AG k g PP cs sl 4 pc (lsL i) st := by
  refine ag_aload_n X.1 3 d0 rfl ?_
  refine ag_iload_n X.1 0 d1 rfl ?_
  refine ag_iconst (v := v) X.1 d2 hv ?_
  refine ag_iadd X.1 d3 ?_
  exact al_sld X hi d4 h
theorem zWd2 {cc : ByteArray} {own : String} {nL d : Nat} {rt : Option FieldType} (X : zX k g cc own nL rt d) {H : Heap} {locs : List Loc} (hP : PW g I L H) (hS : va_S (gA g) (ks k).heap H locs) {U : State} (ht : U.heap = H) (hW : (ks k).WarmedH U.vm) : Wd g I L U U.heap := zWd X hP.1 hP.2 hS ht hW
theorem al_callV {cc : ByteArray} {own : String} {nL d : Nat} {rt : Option FieldType} (X : zX k g cc own nL rt d) (hc : cs ≤ k.2.2.2.1.cells ∧ sl ≤ k.2.2.2.1.slots) {d' idx n ci N recv : Nat} {M : zM} {as st0 : List zv} {Q' : Option zv → zI → zL → Prop} (hM : zMV M n ci N) (hw : Cond.methodLink own idx M.1 ∈ zT) (hC : Call (kl k) g d' M (vR recv :: as) I L Q') (hsh : zsh recv = (10 + ci, N)) (hst : st0 = as.reverse ++ vR recv :: st) (hn : as.length = n) (hd : d' + 1 ≤ d) (hs : st.length ≤ 4) (dg : decode cc pc = .ok (.invokevirtual idx, 3))
    (kk : ∀ v I' L', Q' v I' L' → AG k g (PW g I' L') cs sl nL (pc + 3) ls (v.toList ++ st)) : AG k g (PW g I L) cs sl nL pc ls st0 := by
  intro H locs la hP hS hl
  obtain ⟨⟨hini, hcode, hdesc, hmx⟩, hin, hsel, T, hvc⟩ := hM
  have ho := zok (i := recv) (by rw [hsh]; show 10 + ci ≠ 9; omega)
  have he := zw_at (g := g) (I := I) (L := L) ho.1 ho.2
  rw [zcell_obj hsh] at he
  have hz : zc (gad g) (vR recv) = .ref (gad g recv) := zr_n _ (by omega)
  have hG : GoodIn zT (wsV own idx M.1.cls M.1 (Cond.code M.1 M.2.1 M.2.2.1 M.2.2.2 :: zT)) := by
    intro w hw9
    unfold wsV at hw9
    rcases List.mem_append.mp hw9 with h | h
    · simp only [List.mem_cons, List.not_mem_nil, or_false] at h
      rcases h with rfl | rfl | rfl | rfl
      · exact zgood hw
      · exact zgood hin
      · exact zgood hsel
      · exact zgood hini
    · rcases List.mem_cons.mp h with rfl | h
      · exact zgood hcode
      · exact zgood h
  have hr : va_Run k.1 (kl k) k.2.2.1 k.2.2.2.1 (ks k) (km k) k.2.2.2.2.2.2.1 k.2.2.2.2.2.2.2.1 k.2.2.2.2.2.2.2.2.1 k.2.2.2.2.2.2.2.2.2.1 H locs cs sl 0 0 (F0 (km k) pc la (st0.map (zc (gad g)))) (st.map (zc (gad g))) (zQ g Q' (Value.ref (gad g recv) :: as.map (zc (gad g))).toArray) (gA g) := by
    refine va_runV (C := M.1.cls) (b := gad g recv) (As := as.map (zc (gad g))) (rest := st.map (zc (gad g))) (n := n) ⟨X.1, X.2.1, X.2.2.1, X.2.2.2.1, X.2.2.2.2.1⟩ hC (cwV n X.2.2.2.2.1 hG rfl rfl rfl ⟨rfl, hdesc⟩ ⟨?_, ?_⟩) ⟨zblind, va_recv X.2.2.2.2.2.1 hP.1 hvc he, fun U hU hW => ⟨?_, zWd2 X hP hS hU hW⟩⟩ rfl (by rw [List.length_map]; exact hn) hl.1 ?_ (lv_room (zrest (gad g) hs)) dg hc
    · exact Nat.le_trans hd X.2.2.2.2.2.2.2.2.2.1
    · have := X.2.2.2.2.2.2.2.2.2.2
      show 8 + (M.2.2.1 + 11) + 64 * d' ≤ _
      omega
    · rw [List.map_cons, hz]
    · show st0.map (zc (gad g)) = _
      rw [hst, List.map_append, List.map_reverse, List.map_cons, hz]
  intro T9 hT X9
  obtain ⟨v, st₀, t, T', Lc, h0, X', hL, e1, e2, ⟨⟨v', I', L', hv, hq, hWd⟩, hz9, hk⟩, hgo⟩ := hr T9 hT X9
  have hv' : v = v'.map (zc (gad g)) := by injection hv
  subst hv'
  rw [h0] at hz9 hk
  have hS' : va_S (gA g) (ks k).heap T'.heap (locs ++ Lc) := ⟨Nat.le_trans hS.1 (by rw [e1]; exact hz9), fun q h1 h2 => by rw [e1, hk q (Nat.lt_of_lt_of_le h1 hS.1) h2]; exact hS.2.1 q h1 h2, fun q hq => by
      rcases List.mem_append.mp hq with h | h
      · exact hS.2.2 q h
      · exact hL q h⟩
  obtain ⟨t2, a1, b1⟩ := kk v' I' L' hq T'.heap (locs ++ Lc) la (by rw [e1]; exact ⟨hWd.1, hWd.2.1⟩) hS' hl T' rfl X'
  refine ⟨t2, hgo t2 ?_, b1⟩
  cases v' with
  | none => exact a1
  | some x => exact a1
end ZLW
