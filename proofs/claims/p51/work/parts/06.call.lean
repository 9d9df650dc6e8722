/-! RETURNS, ENTRIES, CALLS over the abstract memory -/
/-- where the walk is to end: Q at the method's return -/
def zE (k : zK) (g : zG) (Q : Option zv → zI → zL → Prop) : Prop := k.2.2.2.2.2.2.2.2.2.2.1 = MQ k.2.2.2.2.2.2.2.1 (zQ g Q) k.2.2.2.2.2.2.1 (ks k) 0 0 (gA g) ∧ k.2.2.2.2.2.2.2.2.2.2.2.1 = 0 ∧ k.2.2.2.2.2.2.2.2.2.2.2.2 = 0
section ZR
variable {k : zK} {g : zG} {cc : ByteArray} {own : String} {nL d pc : Nat} {rt : Option FieldType} {I : zI} {L : zL} {ls : List (Nat × zv)} {st : List zv} {Q : Option zv → zI → zL → Prop}
theorem zWd (X : zX k g cc own nL rt d) {H : Heap} {locs : List Loc} (hP : va_P (gD g) vwCl (zw g I L) H) (hD : va_D (gA g) (zw g I L)) (hS : va_S (gA g) (ks k).heap H locs) {U : State} (ht : U.heap = H) (hW : (ks k).WarmedH U.vm) : Wd g I L U U.heap := by
  rw [ht]
  exact ⟨hP, hD, va_K.moved hW.alike X.2.2.2.2.2.1, zSt.go hW hS.2.1 X.2.2.2.2.2.2.1⟩
theorem zEnd (X : zX k g cc own nL rt d) {H : Heap} {locs : List Loc} (hP : va_P (gD g) vwCl (zw g I L) H) (hD : va_D (gA g) (zw g I L)) (hS : va_S (gA g) (ks k).heap H locs) (v : Option zv) (hq : Q v I L) {oc : Outcome} (hoc : oc = .returned (v.map (zc (gad g)))) : ∀ t : State, t.heap = H → (ks k).WarmedH t.vm → zQ g Q k.2.2.2.2.2.2.1 (ks k) oc t :=
  fun t ht hW => ⟨⟨v, I, L, hoc, hq, zWd X hP hD hS ht hW⟩, hS.F ht⟩
theorem aw_iret (X : zX k g cc own nL rt d) (E : zE k g Q) (hr : rt = some .int) {x : Int32} (dg : decode cc pc = .ok (.ireturn, 1)) (hq : Q (some (vI x)) I L) : AW k g nL I L pc ls [vI x] := by
  intro H locs la hP hD hS hl
  unfold zW
  rw [E.1, E.2.1, E.2.2]
  exact W.iret X.1 X.2.1 (by rw [X.2.2.2.2.2.2.2.2.1, hr]) (zEnd X hP hD hS (some (vI x)) hq rfl) hS.2.2 dg X.2.2.2.2.2.2.2.1
theorem aw_nret (ty : FieldType) (X : zX k g cc own nL rt d) (E : zE k g Q) (hr : rt = some ty) {x : Int32} (hn : narrow ty (.int x) = .int x) (dg : decode cc pc = .ok (.ireturn, 1)) (hq : Q (some (vI x)) I L) : AW k g nL I L pc ls [vI x] := by
  intro H locs la hP hD hS hl
  unfold zW
  rw [E.1, E.2.1, E.2.2]
  exact W.zret X.1 X.2.1 (by rw [X.2.2.2.2.2.2.2.2.1, hr]) hn (zEnd X hP hD hS (some (vI x)) hq rfl) hS.2.2 dg X.2.2.2.2.2.2.2.1
theorem aw_zret (X : zX k g cc own nL rt d) (E : zE k g Q) (hr : rt = some .boolean) {x : Int32} (hx : x = 0 ∨ x = 1) (dg : decode cc pc = .ok (.ireturn, 1)) (hq : Q (some (vI x)) I L) : AW k g nL I L pc ls [vI x] := aw_nret .boolean X E hr (by rcases hx with rfl | rfl <;> rfl) dg hq
theorem aw_lret (X : zX k g cc own nL rt d) (E : zE k g Q) (hr : rt = some .long) {x : Int64} (dg : decode cc pc = .ok (.lreturn, 1)) (hq : Q (some (vL x)) I L) : AW k g nL I L pc ls [vL x] := by
  intro H locs la hP hD hS hl
  unfold zW
  rw [E.1, E.2.1, E.2.2]
  exact W.lret X.1 X.2.1 (by rw [X.2.2.2.2.2.2.2.2.1, hr]) (zEnd X hP hD hS (some (vL x)) hq rfl) hS.2.2 dg X.2.2.2.2.2.2.2.1
theorem aw_vret (X : zX k g cc own nL rt d) (E : zE k g Q) (hr : rt = none) (dg : decode cc pc = .ok (.return_, 1)) (hq : Q none I L) : AW k g nL I L pc ls [] := by
  intro H locs la hP hD hS hl
  unfold zW
  rw [E.1, E.2.1, E.2.2]
  exact W.vret X.1 X.2.1 (by rw [X.2.2.2.2.2.2.2.2.1, hr]) (zEnd X hP hD hS none hq rfl) hS.2.2 dg X.2.2.2.2.2.2.2.1
theorem aw_aret (X : zX k g cc own nL rt d) (E : zE k g Q) {C : String} (hr : rt = some (.object C)) {x : Nat} (dg : decode cc pc = .ok (.areturn, 1)) (hq : Q (some (vR x)) I L) : AW k g nL I L pc ls [vR x] := by
  intro H locs la hP hD hS hl
  unfold zW
  rw [E.1, E.2.1, E.2.2]
  exact W.aret X.1 X.2.1 (by rw [X.2.2.2.2.2.2.2.2.1, hr]) (Or.inl ⟨C, rfl⟩) (by
    show zr (gad g) x = .null ∨ ∃ a, zr (gad g) x = .ref a
    unfold zr
    split
    · exact Or.inl rfl
    · exact Or.inr ⟨_, rfl⟩) (zEnd X hP hD hS (some (vR x)) hq rfl) hS.2.2 dg X.2.2.2.2.2.2.2.1
/-- entry -/
def zargs : Nat → List zv → List (Nat × zv)
  | _, [] => []
  | i, v :: vs => (i, v) :: zargs (if z2 v then i + 2 else i + 1) vs
def zlen : List zv → Nat
  | [] => 0
  | v :: vs => (if z2 v then 2 else 1) + zlen vs
theorem zc_cat2' (ad : Nat → Nat) (v : zv) : ((zc ad v).category = 2) ↔ z2 v = true := by
  rw [← zc_cat2 ad v]
  exact (beq_iff_eq).symm
theorem zargs_eq (ad : Nat → Nat) : ∀ (vs : List zv) (i : Nat), lv_args i (vs.map (zc ad)) = (zargs i vs).map fun q => (q.1, zc ad q.2)
  | [], _ => rfl
  | v :: vs, i => by
    show (i, zc ad v) :: lv_args (if (zc ad v).category = 2 then i + 2 else i + 1) (vs.map (zc ad)) = (i, zc ad v) :: (zargs (if z2 v then i + 2 else i + 1) vs).map _
    rw [zargs_eq ad vs]
    simp only [zc_cat2']
theorem zlen_eq (ad : Nat → Nat) : ∀ (vs : List zv), (lg_sl (vs.map (zc ad))).length = zlen vs
  | [] => rfl
  | v :: vs => by
    have h := zlen_eq ad vs
    unfold lg_sl at h ⊢
    rw [List.map_cons, List.flatMap_cons, List.length_append, h]
    show _ = (if z2 v then 2 else 1) + zlen vs
    simp only [zc_cat2']
    split <;> rfl
theorem aw_entry {l : Launch} {M : zM} {as : List zv} (hy : plainName M.1.cls = true) (hlen : zlen as ≤ M.2.2.1) (h : ∀ k : zK, kl k = l → zX k g M.2.1 M.1.cls M.2.2.1 M.2.2.2 d → zE k g Q → AW k g M.2.2.1 I L 0 (zargs 0 as) []) : Call l g d M as I L Q := by
  unfold Call
  refine Met.ofW (cc := M.2.1) (maxL := M.2.2.1) (ret := M.2.2.2) hy rfl ?_
  intro p e s m args below meth c s₁ B hml hv
  obtain ⟨rfl, hP, hD, hK, hSt⟩ := hv
  have hts := atoms_spec (ws := Cond.code M.1 M.2.1 M.2.2.1 M.2.2.2 :: zT) B.pre
  have X : zX (p, l, e, (headSpec (Cond.code M.1 M.2.1 M.2.2.1 M.2.2.2 :: zT) (zRm d)).room, s, m, (as.map (zc (gad g))).toArray, below, meth, c, MQ below (zQ g Q) (as.map (zc (gad g))).toArray s 0 0 (gA g), 0, 0) g M.2.1 M.1.cls M.2.2.1 M.2.2.2 d :=
    ⟨B.exec, B.bytes, hml, findClass_of_methodNamed B.named, fun w hw => hts w (List.mem_cons_of_mem _ hw), hK, hSt, B.notSynchronized, B.returns, Nat.le_refl _, Nat.le_refl _, Nat.zero_le _, Nat.zero_le _⟩
  have hl := lv_entry (as.map (zc (gad g))) (n := M.2.2.1) (by rw [zlen_eq]; exact hlen)
  rw [zargs_eq] at hl
  rw [lg_entry_eq]
  exact h _ rfl X ⟨rfl, rfl, rfl⟩ s.heap [] _ hP hD va_S.rf hl
/-- behind a call -/
theorem aw_after (X : zX k g cc own nL rt d) {Q' : Option zv → zI → zL → Prop} {H : Heap} {locs : List Loc} {la : Array Slot} {st0 : List Value} {a : Array Value} (hr : va_Run k.1 (kl k) k.2.2.1 k.2.2.2.1 (ks k) (km k) k.2.2.2.2.2.2.1 k.2.2.2.2.2.2.2.1 k.2.2.2.2.2.2.2.2.1 k.2.2.2.2.2.2.2.2.2.1 H locs k.2.2.2.2.2.2.2.2.2.2.2.1 k.2.2.2.2.2.2.2.2.2.2.2.2 0 0 (F0 (km k) pc la st0) (st.map (zc (gad g))) (zQ g Q' a) (gA g))
    (hS : va_S (gA g) (ks k).heap H locs) (hl : lv_has la nL (ls.map fun q => (q.1, zc (gad g) q.2))) (kk : ∀ v I' L', Q' v I' L' → AW k g nL I' L' (pc + 3) ls (v.toList ++ st)) : zW k H locs (F0 (km k) pc la st0) := by
  intro T hT X9
  obtain ⟨v, st₀, t, T', Lc, h0, X', hL, e1, e2, ⟨⟨v', I', L', hv, hq, hWd⟩, hz, hk⟩, hgo⟩ := hr T hT X9
  have hv' : v = v'.map (zc (gad g)) := by injection hv
  subst hv'
  rw [h0] at hz hk
  have hS' : va_S (gA g) (ks k).heap T'.heap (locs ++ Lc) := ⟨Nat.le_trans hS.1 (by rw [e1]; exact hz), fun q h1 h2 => by rw [e1, hk q (Nat.lt_of_lt_of_le h1 hS.1) h2]; exact hS.2.1 q h1 h2, fun q hq => by
      rcases List.mem_append.mp hq with h | h
      · exact hS.2.2 q h
      · exact hL q h⟩
  obtain ⟨t2, a1, b1⟩ := kk v' I' L' hq T'.heap (locs ++ Lc) la (by rw [e1]; exact hWd.1) hWd.2.1 hS' hl T' rfl X'
  refine ⟨t2, hgo t2 ?_, b1⟩
  cases v' with
  | none => exact a1
  | some x => exact a1
/-- a method's own facts, for a call of it -/
def zMd (M : zM) (n : Nat) : Prop := Cond.initialized M.1.cls ∈ zT ∧ Cond.code M.1 M.2.1 M.2.2.1 M.2.2.2 ∈ zT ∧ (M.1.cls ≠ "java/lang/invoke/MethodHandle" ∧ M.1.cls ≠ "java/lang/invoke/VarHandle" ∧ (parseMethodDescriptor M.1.desc).map (fun d => d.parameters.length) = some n) ∧ M.2.2.1 ≤ 17
/-- a method of a class of ours, called by invokevirtual -/
def zMV (M : zM) (n ci N : Nat) : Prop := zMd M n ∧ Cond.instanceMethod M.1 ∈ zT ∧ Cond.selects M.1.cls M.1 M.1 ∈ zT ∧ ∃ T, vwCl[ci]? = some (M.1.cls, T, N)
def zMS (M : zM) (n : Nat) : Prop := zMd M n ∧ Cond.static M.1 ∈ zT
theorem zgood {w : Cond} (h : w ∈ zT) : w ∈ zT ∧ ((w.onTables && w.keeps) = true ∨ ∃ ty, w = .arrayClass ty) := ⟨h, good_of_word (List.mem_filter.mp h).2⟩
theorem zblind {as : List zv} : FrameBlind (zPc g as I L) := fun a U gf mk q => by
  obtain ⟨q0, qP, qD, qK, qS⟩ := q
  exact ⟨q0, qP, qD, va_K.moved (u := U) (U := U.calling gf mk a) (Vm.Alike.refl U.vm) qK, zSt.blind rfl qS⟩
theorem zrest (ad : Nat → Nat) {st : List zv} (h : st.length ≤ 4) : ((st.map (zc ad)).map fun v => v.category).sum ≤ 8 := by
  have := zcsum ad st
  omega
theorem aw_callV (X : zX k g cc own nL rt d) {d' idx n ci N recv : Nat} {M : zM} {as st0 : List zv} {Q' : Option zv → zI → zL → Prop} (hM : zMV M n ci N) (hw : Cond.methodLink own idx M.1 ∈ zT) (hC : Call (kl k) g d' M (vR recv :: as) I L Q') (hsh : zsh recv = (10 + ci, N)) (hst : st0 = as.reverse ++ vR recv :: st) (hn : as.length = n) (hd : d' + 1 ≤ d) (hs : st.length ≤ 4) (dg : decode cc pc = .ok (.invokevirtual idx, 3))
    (kk : ∀ v I' L', Q' v I' L' → AW k g nL I' L' (pc + 3) ls (v.toList ++ st)) : AW k g nL I L pc ls st0 := by
  intro H locs la hP hD hS hl
  obtain ⟨⟨hini, hcode, hdesc, hmx⟩, hin, hsel, T, hvc⟩ := hM
  have ho := zok (i := recv) (by rw [hsh]; show 10 + ci ≠ 9; omega)
  have he := zw_at (g := g) (I := I) (L := L) ho.1 ho.2
  rw [zcell_obj hsh] at he
  have hz : zc (gad g) (vR recv) = .ref (gad g recv) := zr_n _ (by omega)
  have hG : GoodIn zT (wsV own idx M.1.cls M.1 (Cond.code M.1 M.2.1 M.2.2.1 M.2.2.2 :: zT)) := by
    intro w hw9
    unfold wsV at hw9
    rcases List.mem_append.mp hw9 with h | h
    · simp only [List.mem_cons, List.not_mem_nil, or_false] at h
      rcases h with rfl | rfl | rfl | rfl
      · exact zgood hw
      · exact zgood hin
      · exact zgood hsel
      · exact zgood hini
    · rcases List.mem_cons.mp h with rfl | h
      · exact zgood hcode
      · exact zgood h
  refine aw_after X (st := st) (ls := ls) (va_runV (C := M.1.cls) (b := gad g recv) (As := as.map (zc (gad g))) (rest := st.map (zc (gad g))) (n := n) ⟨X.1, X.2.1, X.2.2.1, X.2.2.2.1, X.2.2.2.2.1⟩ hC (cwV n X.2.2.2.2.1 hG rfl rfl rfl ⟨rfl, hdesc⟩ ⟨?_, ?_⟩) ⟨zblind, va_recv X.2.2.2.2.2.1 hP hvc he, fun U hU hW => ⟨?_, zWd X hP hD hS hU hW⟩⟩ rfl (by rw [List.length_map]; exact hn) hl.1 ?_ (lv_room (zrest (gad g) hs)) dg ⟨X.2.2.2.2.2.2.2.2.2.2.2.1, X.2.2.2.2.2.2.2.2.2.2.2.2⟩) hS hl kk
  · exact Nat.le_trans hd X.2.2.2.2.2.2.2.2.2.1
  · have := X.2.2.2.2.2.2.2.2.2.2.1
    show 8 + (M.2.2.1 + 11) + 36 * d' ≤ _
    omega
  · rw [List.map_cons, hz]
  · show st0.map (zc (gad g)) = _
    rw [hst, List.map_append, List.map_reverse, List.map_cons, hz]
theorem aw_callS (X : zX k g cc own nL rt d) {d' idx n : Nat} {M : zM} {as st0 : List zv} {Q' : Option zv → zI → zL → Prop} (hM : zMS M n) (hw : Cond.methodLink own idx M.1 ∈ zT) (hC : Call (kl k) g d' M as I L Q') (hst : st0 = as.reverse ++ st) (hn : as.length = n) (hd : d' + 1 ≤ d) (hs : st.length ≤ 4) (dg : decode cc pc = .ok (.invokestatic idx, 3))
    (kk : ∀ v I' L', Q' v I' L' → AW k g nL I' L' (pc + 3) ls (v.toList ++ st)) : AW k g nL I L pc ls st0 := by
  intro H locs la hP hD hS hl
  obtain ⟨⟨hini, hcode, hdesc, hmx⟩, hst9⟩ := hM
  have hG : GoodIn zT (va_wsS own idx M.1 (Cond.code M.1 M.2.1 M.2.2.1 M.2.2.2 :: zT)) := by
    intro w hw9
    unfold va_wsS at hw9
    rcases List.mem_append.mp hw9 with h | h
    · simp only [List.mem_cons, List.not_mem_nil, or_false] at h
      rcases h with rfl | rfl | rfl
      · exact zgood hw
      · exact zgood hst9
      · exact zgood hini
    · rcases List.mem_cons.mp h with rfl | h
      · exact zgood hcode
      · exact zgood h
  refine aw_after X (st := st) (ls := ls) (va_runS (As := as.map (zc (gad g))) (rest := st.map (zc (gad g))) (n := n) ⟨X.1, X.2.1, X.2.2.1, X.2.2.2.1, X.2.2.2.2.1⟩ hC (va_cwS n X.2.2.2.2.1 hG rfl rfl rfl hdesc ⟨?_, ?_⟩) ⟨zblind, fun U hU hW => ⟨rfl, zWd X hP hD hS hU hW⟩⟩ rfl (by rw [List.length_map]; exact hn) hl.1 ?_ (lv_room (zrest (gad g) hs)) dg ⟨X.2.2.2.2.2.2.2.2.2.2.2.1, X.2.2.2.2.2.2.2.2.2.2.2.2⟩) hS hl kk
  · exact Nat.le_trans hd X.2.2.2.2.2.2.2.2.2.1
  · have := X.2.2.2.2.2.2.2.2.2.2.1
    show 8 + (M.2.2.1 + 11) + 36 * d' ≤ _
    omega
  · show st0.map (zc (gad g)) = _
    rw [hst, List.map_append, List.map_reverse]
end ZR
