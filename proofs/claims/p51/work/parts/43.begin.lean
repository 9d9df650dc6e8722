/-! THE MEMORY BEHIND THE CONSTRUCTORS; THE LAW'S THREE OBJECTS, each with memory of its own -/
theorem wr_foldk {α : Type} {z : α} {ws : List (Nat × Nat × α)} {K : Nat} (h : ∀ q ∈ ws, q.2.1 < K) (M : Nat → Nat → α) (hM : ∀ a k, K ≤ k → M a k = z) : ∀ a k, K ≤ k → ws.foldl (fun M q => zs M q.1 q.2.1 q.2.2) M a k = z := by
  induction ws generalizing M with
  | nil => exact hM
  | cons q ws ih =>
    refine ih (fun r hr => h r (List.mem_cons_of_mem _ hr)) _ (fun a k hk => ?_)
    show zs M q.1 q.2.1 q.2.2 a k = z
    have := h q List.mem_cons_self
    rw [zs_ne (fun e => by omega)]
    exact hM a k hk
theorem rT_hi {a k : Nat} (hk : 10 ≤ k) : rT 86 a k = 0 := by
  refine wr_foldk (K := 10) (fun q hq => ?_) _ (fun _ _ _ => rfl) a k hk
  exact of_decide_eq_true (List.all_eq_true.mp (by decide +kernel : ((zwR.take 86).all fun q => decide (q.2.1 < 10)) = true) q hq)
theorem zrf_hi {a k : Nat} (hk : 10 ≤ k) : zrf a k = 0 := by
  have h : ∀ l ∈ zrfL, l.length ≤ 10 := fun l hl => of_decide_eq_true (List.all_eq_true.mp (by decide +kernel : (zrfL.all fun l => decide (l.length ≤ 10)) = true) l hl)
  have h2 : (zrfL.getD a []).length ≤ 10 := by
    rw [List.getD_eq_getElem?_getD]
    cases e : zrfL[a]? with
    | none => exact Nat.zero_le _
    | some l => exact h l (List.mem_of_getElem? e)
  unfold zrf
  generalize zrfL.getD a [] = l at h2
  rw [List.getD_eq_getElem?_getD, List.getElem?_eq_none (by omega)]
  rfl
theorem rT_lo : ∀ a, a < 88 → ∀ k, k < 10 → rT 86 a k = zrf a k := by decide +kernel
theorem zwF_end {g : zG} : zwF g 86 (rT 86) (iT 190) = zwA g (iT 190) (fun _ _ => 0) := by
  unfold zwF zwA
  show (List.range 86).map _ = (List.range 86).map _
  refine List.map_congr_left (fun j hj => ?_)
  have hj : j < 86 := List.mem_range.mp hj
  have e : rT 86 (j + 1) = zrf (j + 1) := by
    funext k
    by_cases hk : k < 10
    · exact rT_lo (j + 1) (by omega) k hk
    · rw [rT_hi (by omega), zrf_hi (by omega)]
  unfold zcF zcell
  rw [e, if_neg (show ¬ j + 1 = 87 by omega)]
theorem i_VS : VS (iT 190) 0 0 := ⟨by decide, by decide, by decide +kernel, by decide +kernel, by unfold zle; decide +kernel, by unfold zle; decide +kernel, by unfold zle; decide +kernel, by unfold zle; decide +kernel, fun j hj => absurd hj (Nat.not_lt_zero j), fun i hi => absurd hi (Nat.not_lt_zero i)⟩
theorem i_shN : shN (iT 190) := by
  have h : ∀ s, s < 8 → iT 190 (66 + 2 * s) 4 = 0 ∧ iT 190 (66 + 2 * s) 3 = -1 := by decide +kernel
  exact h
theorem i_29 : iT 190 2 9 = 1 := by decide +kernel
theorem i_18 : iT 190 1 8 = 0 := by decide +kernel
theorem i_87 : iT 190 87 = fun _ => 0 := funext (wrF_fresh (by decide +kernel))
def PW (g : zG) (I : zI) (L : zL) (H : Heap) : Prop := va_P (gD g) vwCl (zw g I L) H ∧ va_D (gA g) (zw g I L)
/-- the cells, with the law's row behind them -/
def zB2 (g : zG) : Prop := ∀ i, 1 ≤ i → i ≤ 87 → gad g i = gz g + (i - 1)
theorem zB2.B {g : zG} (h : zB2 g) : zB g := fun i h1 h2 => h i h1 (Nat.le_trans h2 (by decide))
theorem zw_get {g : zG} {I : zI} {L : zL} {k : Nat} {q : Nat × va_E} (h : (zw g I L)[k]? = some q) : k ≤ 86 ∧ q.1 = gad g (k + 1) := by
  unfold zw at h
  have h86 : zN = 86 := rfl
  by_cases hk : k < 86
  · rw [List.getElem?_append_left (by rw [zwA_len]; exact hk)] at h
    have h2 := zwA_at (g := g) (I := I) (L := L) (i := k + 1) (by omega) (by omega)
    rw [Nat.add_sub_cancel] at h2
    have e := Option.some.inj (h.symm.trans h2)
    exact ⟨by omega, by rw [e]⟩
  · rw [List.getElem?_append_right (by rw [zwA_len]; omega), zwA_len] at h
    unfold zwB at h
    by_cases hb : gb g = true
    · rw [if_pos hb] at h
      have hz : k - zN < 1 := (List.getElem?_eq_some_iff.mp h).1
      have hk9 : k = 86 := by omega
      subst hk9
      have e : (gad g 87, zcell g I L 87) = q := Option.some.inj h
      exact ⟨Nat.le_refl _, by rw [← e]⟩
    · rw [if_neg hb] at h
      exact absurd h (by simp)
theorem zw_D {g : zG} (B : zB2 g) {I : zI} {L : zL} : va_D (gA g) (zw g I L) := by
  refine ⟨fun i j p q hi hj e => ?_, fun k q hk => ?_⟩
  · obtain ⟨a1, a2⟩ := zw_get hi
    obtain ⟨b1, b2⟩ := zw_get hj
    rw [a2, b2, B (i + 1) (by omega) (by omega), B (j + 1) (by omega) (by omega)] at e
    omega
  · obtain ⟨a1, a2⟩ := zw_get hk
    show gz g ≤ q.1
    rw [a2, B (k + 1) (by omega) (by omega)]
    omega
theorem PW_lt {g : zG} (B : zB2 g) {I : zI} {L : zL} {H : Heap} (h : PW g I L H) : gz g ≤ H.size := by
  have h1 := (h.1 _ _ (zw_at (g := g) (I := I) (L := L) (i := 1) (by decide) (by decide))).lt
  have h2 : gad g 1 < H.size := h1
  rw [B 1 (by decide) (by decide)] at h2
  omega
/-- the same machine, its cells from z on -/
def re (g : zG) (z : Nat) (fl : Bool) : zG := (gD g, z, fun i => if i ≤ 87 then z + (i - 1) else gad g i, gac g, gn g, gxs g, fl)
section ZRE
variable {k : zK} {g : zG} {z pc cs sl mc ms d nL : Nat} {fl : Bool} {cc : ByteArray} {own : String} {rt : Option FieldType} {PP : Heap → Prop} {I : zI} {L : zL} {ls : List (Nat × zv)} {st : List zv}
theorem re_B : zB2 (re g z fl) := fun i _ h2 => if_pos h2
theorem re_hi {i : Nat} (h : 88 ≤ i) : gad (re g z fl) i = gad g i := if_neg (by omega)
theorem re_St {U : State} {H : Heap} (hz : gz g ≤ z) (h : zSt g U H) : zSt (re g z fl) U H := by
  have hA : ∀ q, gA (re g z fl) q → gA g q := fun q h => Nat.le_trans hz h
  obtain ⟨h1, h2, h3⟩ := h
  refine ⟨fun q hq => ?_, ?_, h3⟩
  · have e88 : 88 ≤ q.1 := by
      simp only [zsta, List.mem_cons, List.not_mem_nil, or_false] at hq
      subst hq
      decide
    have h9 := h1 q hq
    rw [re_hi e88]
    exact ⟨h9.1.narrow hA, h9.2.narrow hA⟩
  · rw [re_hi (by decide)]
    exact h2.narrow hA
theorem re_X (hz : gz g ≤ z) (X : zXc k g cc own nL rt d mc ms) : zXc k (re g z fl) cc own nL rt d mc ms := by
  obtain ⟨⟨x1, x2, x3, x4, x5, x6, x7, x8⟩, y1, y2, y3, y4, y5⟩ := X
  exact ⟨⟨x1, x2, x3, x4, x5, x6, re_St hz x7, x8⟩, y1, y2, y3, re_B.B, y5⟩
/-- the next object: what stood is left alone from here on -/
theorem ag_next (hs : (ks k).heap.size ≤ gz g) (hH : ∀ H, PP H → gz g ≤ H.size) (h : ∀ z, gz g ≤ z → AG k (re g z fl) (WC (re g z fl) 0 (rT 0) (iT 0)) cs sl nL pc [(0, vR 3000)] []) : AG k g PP cs sl nL pc [(0, vR 3000)] [] := by
  intro H locs la hP hS hl
  refine va_forget (fun q hq => Nat.le_trans hs (hS.2.2 q hq)) ?_
  refine h H.size (hH H hP) H [] la ⟨fun k q e => by simp [zwF] at e, rfl⟩ ⟨hS.1, fun q a _ => hS.2.1 q a (fun c => absurd (Nat.lt_of_lt_of_le a (Nat.le_trans hs c)) (Nat.lt_irrefl q)), fun _ hh => absurd hh List.not_mem_nil⟩ ?_
  have e : zc (gad (re g H.size fl)) (vR 3000) = zc (gad g) (vR 3000) := by
    show zr (gad (re g H.size fl)) 3000 = zr (gad g) 3000
    unfold zr
    rw [re_hi (by decide)]
  show lv_has la nL [(0, zc (gad (re g H.size fl)) (vR 3000))]
  rw [e]
  exact hl
theorem ag_pw (B : zB2 g) (hb : gb g = false) (h : AG k g (PW g (iT 190) (fun _ _ => 0)) cs sl nL pc ls st) : AG k g (WC g 86 (rT 86) (iT 190)) cs sl nL pc ls st := by
  intro H locs la hP hS hl
  refine h H locs la ⟨?_, zw_D B⟩ hS hl
  have h1 := hP.1
  rw [zwF_end] at h1
  unfold zw zwB
  rw [if_neg (by rw [hb]; decide), List.append_nil]
  exact h1
theorem al_newb (X : zXc k g cc own nL rt d mc ms) (B : zB2 g) (hb : gb g = true) (hcs : cs + 1 ≤ mc) (hsl : sl + 37 ≤ ms) (dg : decode cc pc = .ok (.newarray .int, 2)) (h : AG k g (PW g (iT 190) (fun _ _ => 0)) (cs + 1) (sl + 37) nL (pc + 2) ls (vR 87 :: st)) : AG k g (WC g 86 (rT 86) (iT 190)) cs sl nL pc ls (vI 37 :: st) := by
  intro H locs la hP hS hl
  obtain ⟨X, x1, x2, x3, -, x4⟩ := X
  have he : gad g 87 = H.size := by rw [B 87 (by decide) (by decide), hP.2]
  obtain ⟨t1, ht⟩ := ztB g
  have hRA : (ks k).vm.findClass ("[" ++ (FieldType.int).toString) = some (gac g 3) := (X.2.2.2.2.2.1.2 t1 _ ht).2
  have hN : (37 : Int32).toNatClampNeg = 37 := by decide
  refine va_newaK (atype := .int) X.1 X.2.1 (X.2.2.2.2.1 _ zv_85) rfl dg rfl (by decide) hN (by decide) (Nat.le_trans hcs x1) (Nat.le_trans hsl x2) rfl fun H1 cA e1 z1 o1 hAr hNm => ?_
  have hcA : cA = gac g 3 := Option.some.inj (hNm.symm.trans hRA)
  subst hcA
  have hP9 : va_P (gD g) vwCl (zw g (iT 190) (fun _ _ => 0)) H1 := by
    unfold zw
    rw [← zwF_end]
    refine (hP.1.kept (fun k x hx => o1 x.1 ((hP.1 k x hx).lt))).app (fun k x hx => ?_)
    unfold zwB at hx
    rw [if_pos hb] at hx
    have hz9 : k < 1 := (List.getElem?_eq_some_iff.mp hx).1
    rw [show k = 0 by omega] at hx
    have e : (gad g 87, zcell g (iT 190) (fun _ _ => 0) 87) = x := Option.some.inj hx
    rw [← e, he, zcell_b, i_87]
    exact e1
  have h9 := h H1 locs la ⟨hP9, zw_D B⟩ (vS_push hS z1 o1) hl
  rw [List.map_cons, show zc (gad g) (vR 87) = .ref (gad g 87) from zr_n _ (by decide), he] at h9
  exact h9
theorem al_callV (X : zX k g cc own nL rt d) (hc : cs ≤ k.2.2.2.1.cells ∧ sl ≤ k.2.2.2.1.slots) {d' idx n ci N recv : Nat} {M : zM} {as st0 : List zv} {Q' : Option zv → zI → zL → Prop} (hM : zMV M n ci N) (hw : Cond.methodLink own idx M.1 ∈ zT) (hC : Call (kl k) g d' M (vR recv :: as) I L Q') (hsh : zsh recv = (10 + ci, N)) (hst : st0 = as.reverse ++ vR recv :: st) (hn : as.length = n) (hd : d' + 1 ≤ d) (hs : st.length ≤ 4) (dg : decode cc pc = .ok (.invokevirtual idx, 3))
    (kk : ∀ v I' L', Q' v I' L' → AG k g (PW g I' L') cs sl nL (pc + 3) ls (v.toList ++ st)) : AG k g (PW g I L) cs sl nL pc ls st0 := by
  intro H locs la hP hS hl
  obtain ⟨⟨hini, hcode, hdesc, hmx⟩, hin, hsel, T, hvc⟩ := hM
  have ho := zok (i := recv) (by rw [hsh]; show 10 + ci ≠ 9; omega)
  have he := zw_at (g := g) (I := I) (L := L) ho.1 ho.2
  rw [zcell_obj hsh] at he
  have hz : zc (gad g) (vR recv) = .ref (gad g recv) := zr_n _ (by omega)
  have hG : GoodIn zT (wsV own idx M.1.cls M.1 (Cond.code M.1 M.2.1 M.2.2.1 M.2.2.2 :: zT)) := by
    intro w hw9
    unfold wsV at hw9
    rcases List.mem_append.mp hw9 with h | h
    · simp only [List.mem_cons, List.not_mem_nil, or_false] at h
      rcases h with rfl | rfl | rfl | rfl
      · exact zgood hw
      · exact zgood hin
      · exact zgood hsel
      · exact zgood hini
    · rcases List.mem_cons.mp h with rfl | h
      · exact zgood hcode
      · exact zgood h
  have hr : va_Run k.1 (kl k) k.2.2.1 k.2.2.2.1 (ks k) (km k) k.2.2.2.2.2.2.1 k.2.2.2.2.2.2.2.1 k.2.2.2.2.2.2.2.2.1 k.2.2.2.2.2.2.2.2.2.1 H locs cs sl 0 0 (F0 (km k) pc la (st0.map (zc (gad g)))) (st.map (zc (gad g))) (zQ g Q' (Value.ref (gad g recv) :: as.map (zc (gad g))).toArray) (gA g) := by
    refine va_runV (C := M.1.cls) (b := gad g recv) (As := as.map (zc (gad g))) (rest := st.map (zc (gad g))) (n := n) ⟨X.1, X.2.1, X.2.2.1, X.2.2.2.1, X.2.2.2.2.1⟩ hC (cwV n X.2.2.2.2.1 hG rfl rfl rfl ⟨rfl, hdesc⟩ ⟨?_, ?_⟩) ⟨zblind, va_recv X.2.2.2.2.2.1 hP.1 hvc he, fun U hU hW => ⟨?_, zWd X hP.1 hP.2 hS hU hW⟩⟩ rfl (by rw [List.length_map]; exact hn) hl.1 ?_ (lv_room (zrest (gad g) hs)) dg hc
    · exact Nat.le_trans hd X.2.2.2.2.2.2.2.2.2.1
    · have := X.2.2.2.2.2.2.2.2.2.2.1
      show 8 + (M.2.2.1 + 11) + 36 * d' ≤ _
      omega
    · rw [List.map_cons, hz]
    · show st0.map (zc (gad g)) = _
      rw [hst, List.map_append, List.map_reverse, List.map_cons, hz]
  intro T9 hT X9
  obtain ⟨v, st₀, t, T', Lc, h0, X', hL, e1, e2, ⟨⟨v', I', L', hv, hq, hWd⟩, hz9, hk⟩, hgo⟩ := hr T9 hT X9
  have hv' : v = v'.map (zc (gad g)) := by injection hv
  subst hv'
  rw [h0] at hz9 hk
  have hS' : va_S (gA g) (ks k).heap T'.heap (locs ++ Lc) := ⟨Nat.le_trans hS.1 (by rw [e1]; exact hz9), fun q h1 h2 => by rw [e1, hk q (Nat.lt_of_lt_of_le h1 hS.1) h2]; exact hS.2.1 q h1 h2, fun q hq => by
      rcases List.mem_append.mp hq with h | h
      · exact hS.2.2 q h
      · exact hL q h⟩
  obtain ⟨t2, a1, b1⟩ := kk v' I' L' hq T'.heap (locs ++ Lc) la (by rw [e1]; exact ⟨hWd.1, hWd.2.1⟩) hS' hl T' rfl X'
  refine ⟨t2, hgo t2 ?_, b1⟩
  cases v' with
  | none => exact a1
  | some x => exact a1
/-- a new object of the class -/
theorem law_new (X : zXc k g cL_law RL 13 rt 11 600000 7302250) (d1 : decode cL_law pc = .ok (.new 19, 3)) (d2 : decode cL_law (pc + 3) = .ok (.dup, 1)) (d3 : decode cL_law (pc + 4) = .ok (.invokespecial 109, 3)) (hcs : cs + 86 ≤ 600000) (hsl : sl + 2052 ≤ 7302250) (h : AG k g (WC g 86 (rT 86) (iT 190)) (cs + 86) (sl + 2052) 13 (pc + 7) ls [vR 1]) : AG k g (WC g 0 (rT 0) (iT 0)) cs sl 13 pc ls [] := by
  refine ac_new (n1 := 1) (cs1 := cs + 1) (sl1 := sl + 9) X zcl_6 (zTi 36 (by decide +kernel) (by decide +kernel)) (zTi 37 (by decide +kernel) (by decide +kernel)) zw_23 rfl (Nat.le_of_ble_eq_true rfl) zdf_6 (wrF_fresh (by decide +kernel)) (wrF_fresh (by decide +kernel)) (by omega) (by omega) d1 rfl rfl rfl ?_
  refine ag_dup X.1 d2 rfl ?_
  exact ac_call (recv := 1) (as := []) (st := [vR 1]) (cs1 := cs + 86) (sl1 := sl + 2052) X qm_X6 (zTi 38 (by decide +kernel) (by decide +kernel)) q_1 (by decide) (Nat.le_of_ble_eq_true rfl) rfl rfl (Nat.le_of_ble_eq_true rfl) (Nat.le_of_ble_eq_true rfl) (by omega) (by omega) rfl rfl d3 h
/-- the law, from its entry -/
theorem law_0 (X : zXc k g cL_law RL 13 (some .boolean) 11 600000 7302250) (hcK : k.2.2.2.2.2.2.2.2.2.2.2.1 = 600000) (hsK : k.2.2.2.2.2.2.2.2.2.2.2.2 = 7302250) (hs : (ks k).heap.size ≤ gz g) (E : ∀ g : zG, (ks k).heap.size ≤ gz g → zEl k g) (B : zB2 g) (hb : gb g = false) : AG k g (WC g 0 (rT 0) (iT 0)) 0 0 13 0 [(0, vR 3000)] [] := by
  have hc : ∀ n m : Nat, n ≤ 600000 → m ≤ 7302250 → n ≤ k.2.2.2.1.cells ∧ m ≤ k.2.2.2.1.slots := fun n m h1 h2 => ⟨Nat.le_trans h1 X.2.1, Nat.le_trans h2 X.2.2.1⟩
  refine law_new X dL_law_0 dL_law_3 dL_law_4 (by omega) (by omega) ?_
  refine ag_pw B hb ?_
  refine al_callV (recv := 1) (as := []) (st := []) (d' := 4) (Q' := fun v _ _ => v = some (vI (-6))) X.1 (hc _ _ (by omega) (by omega)) mf_X6_restore (zTi 761 (by decide +kernel) (by decide +kernel)) (x_restore i_18 rfl) rfl rfl rfl (by decide) (by decide) dL_law_7 (fun v I1 L1 hq => ?_)
  subst hq
  refine ag_bipush (v := -6) X.1 dL_law_10 (by decide) ?_
  refine ag_icmp_ne X.1 28 dL_law_12 (by decide) (fun c => absurd rfl c) (fun _ => ?_)
  refine ag_next (fl := false) hs (fun H h => PW_lt B h) (fun z1 hz1 => ?_)
  have X2 := re_X (fl := false) hz1 X
  have B2 : zB2 (re g z1 false) := re_B
  have hb2 : gb (re g z1 false) = false := rfl
  have hs2 : (ks k).heap.size ≤ gz (re g z1 false) := Nat.le_trans hs hz1
  generalize re g z1 false = g2 at X2 B2 hb2 hs2 ⊢
  refine law_new X2 dL_law_15 dL_law_18 dL_law_19 (by omega) (by omega) ?_
  refine ag_pw B2 hb2 ?_
  refine al_callV (recv := 1) (as := []) (st := []) (d' := 4) (Q' := fun v _ _ => v = some (vI (nI 0))) X2.1 (hc _ _ (by omega) (by omega)) mf_X6_image (zTi 757 (by decide +kernel) (by decide +kernel)) (u_image (RC_snp i_VS) (fun _ _ _ _ => rfl)) rfl rfl rfl (by decide) (by decide) dL_law_22 (fun v I1 L1 hq => ?_)
  subst hq
  refine ag_if_eq X2.1 30 dL_law_25 (by decide) (fun _ => ?_) (fun c => absurd rfl c)
  refine ag_next (fl := true) hs2 (fun H h => PW_lt B2 h) (fun z2 hz2 => ?_)
  have X3 := re_X (fl := true) hz2 X2
  have B3 : zB2 (re g2 z2 true) := re_B
  have hb3 : gb (re g2 z2 true) = true := rfl
  have hs3 : (ks k).heap.size ≤ gz (re g2 z2 true) := Nat.le_trans hs2 hz2
  generalize re g2 z2 true = g3 at X3 B3 hb3 hs3 ⊢
  refine law_new X3 dL_law_30 dL_law_33 dL_law_34 (by omega) (by omega) ?_
  refine ag_astore_n (ls' := [(1, vR 1), (0, vR 3000)]) X3.1 dL_law_37 (by decide) rfl ?_
  refine ag_bipush (v := 37) X3.1 dL_law_38 (by decide) ?_
  refine al_newb X3 B3 hb3 (by omega) (by omega) dL_law_40 ?_
  refine ag_astore_n (ls' := [(2, vR 87), (1, vR 1), (0, vR 3000)]) X3.1 dL_law_42 (by decide) rfl ?_
  refine ag_sub [(0, vR 3000), (1, vR 1), (2, vR 87)] (fun q hq => ?_) ?_
  · simp only [List.mem_cons, List.not_mem_nil, or_false] at hq
    rcases hq with rfl | rfl | rfl <;> simp
  intro H locs la hP hS hl
  refine W.widen (k := 600000) (n := 7302250) (by omega) (by omega) ?_
  have h9 := law_43 (L := fun _ _ => 0) hb3 X3.1 (E g3 hs3) (iT 190) i_VS i_shN i_29 H locs la hP.1 hP.2 hS hl
  unfold zW at h9
  rw [hcK, hsK] at h9
  exact h9
end ZRE
