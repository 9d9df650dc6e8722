/-! FIELDS AND ARRAYS over the abstract memory -/
theorem zcell_obj {g : zG} {I : zI} {L : zL} {i ci N : Nat} (h : zsh i = (10 + ci, N)) : zcell g I L i = .inr (ci, (List.range N).map (fun k => if zfr ci k then zr (gad g) (zrf i k) else .int (I i k))) := by
  unfold zcell
  rw [if_neg (zne87 (by rw [h]; show 10 + ci ≠ 9; omega)), h]
  show (if 10 + ci = 0 then _ else if 10 + ci = 1 then _ else if 10 + ci < 10 then _ else Sum.inr (10 + ci - 10, (List.range N).map (fun k => if zfr (10 + ci - 10) k then zr (gad g) (zrf i k) else .int (I i k)))) = _
  rw [if_neg (by omega), if_neg (by omega), if_neg (by omega), Nat.add_sub_cancel_left]
theorem zcell_i {g : zG} {I : zI} {L : zL} {i n : Nat} (h : zsh i = (0, n)) : zcell g I L i = .inl (gac g i, n, .inl (I i)) := by
  unfold zcell
  rw [if_neg (zne87 (by rw [h]; exact fun e => nomatch e)), h]
  rfl
theorem zcell_l {g : zG} {I : zI} {L : zL} {i n : Nat} (h : zsh i = (1, n)) : zcell g I L i = .inl (gac g i, n, .inr (.inl (L i))) := by
  unfold zcell
  rw [if_neg (zne87 (by rw [h]; exact fun e => nomatch e)), h]
  rfl
theorem zcell_r {g : zG} {I : zI} {L : zL} {i n kd : Nat} (h : zsh i = (kd, n)) (h2 : kd = 2 ∨ kd = 3) : zcell g I L i = .inl (gac g i, n, .inr (.inr (.inr (.inr (fun k => if zrf i k = 0 then none else some (gad g (zrf i k))))))) := by
  unfold zcell
  rw [if_neg (zne87 (by rw [h]; rcases h2 with rfl | rfl <;> exact fun e => nomatch e)), h]
  rcases h2 with rfl | rfl <;> rfl
theorem zcell_neI {g : zG} {I : zI} {L : zL} {a k : Nat} {x : Int32} {j : Nat} (h : j ≠ a) : zcell g (zs I a k x) L j = zcell g I L j := by
  unfold zcell
  simp only [zs_nec h]
theorem zcell_neL {g : zG} {I : zI} {L : zL} {a k : Nat} {x : Int64} {j : Nat} (h : j ≠ a) : zcell g I (zs L a k x) j = zcell g I L j := by
  unfold zcell
  simp only [zs_nec h]
theorem zset_obj {ci N a kf : Nat} {x : Int32} {ad : Nat → Nat} {I : zI} (hr : zfr ci kf = false) : ((List.range N).map (fun k => if zfr ci k then zr ad (zrf a k) else .int (I a k))).set kf (.int x) = (List.range N).map (fun k => if zfr ci k then zr ad (zrf a k) else .int (zs I a kf x a k)) := by
  apply List.ext_getElem?
  intro j
  rw [List.getElem?_set, List.getElem?_map, List.getElem?_map, List.length_map, List.length_range]
  by_cases e : kf = j
  · subst e
    rw [if_pos rfl]
    by_cases hj : kf < N
    · rw [if_pos hj, List.getElem?_range hj, Option.map_some, hr, zs_same]
      rfl
    · rw [if_neg hj, List.getElem?_eq_none (by rw [List.length_range]; omega)]
      rfl
  · rw [if_neg e]
    by_cases hj : j < N
    · rw [List.getElem?_range hj, Option.map_some, Option.map_some, zs_ne (fun h => e h.2.symm)]
    · rw [List.getElem?_eq_none (by rw [List.length_range]; omega)]
      rfl
def zCl (ci N : Nat) (C : String) (T : u_T) (t0 : Nat → FieldType) : Prop := vwCl[ci]? = some (C, T, N) ∧ (∀ w ∈ u_ws C T N, w ∈ zT) ∧ (∀ k, k < N → parseFieldDescriptor (T k).2.2.1 = some (t0 k)) ∧ (∀ a, a < N → ∀ b, b < N → a ≠ b → (T a).2.1 ≠ (T b).2.1)
/-- a field as a class's constant pool names it: class ci of N slots, slot kf -/
def zF (own : String) (idx ci kf N : Nat) (C : String) (T : u_T) (t0 : Nat → FieldType) : Prop := zCl ci N C T t0 ∧ (T kf).1 = C ∧ Cond.fieldLink own idx C (T kf).2.1 (T kf).2.2.1 ∈ zT ∧ kf < N
section ZM
variable {k : zK} {g : zG} {cc : ByteArray} {own : String} {nL d pc : Nat} {rt : Option FieldType} {I : zI} {L : zL} {ls : List (Nat × zv)} {st : List zv} {idx ci kf N a : Nat} {C : String} {T : u_T} {t0 : Nat → FieldType}
theorem aw_getI (X : zX k g cc own nL rt d) (F : zF own idx ci kf N C T t0) (hr : zfr ci kf = false) (ha : zsh a = (10 + ci, N)) (dg : decode cc pc = .ok (.getfield idx, 3)) (h : AW k g nL I L (pc + 3) ls (vI (I a kf) :: st)) : AW k g nL I L pc ls (vR a :: st) := by
  intro H locs la hP hD hS hl
  have h9 := h H locs la hP hD hS hl
  obtain ⟨⟨hc, hw, -, -⟩, hC, hlk, hk⟩ := F
  have ho := zok (i := a) (by rw [ha]; show 10 + ci ≠ 9; omega)
  have he := zw_at (g := g) (I := I) (L := L) ho.1 ho.2
  rw [zcell_obj ha] at he
  have hz : zc (gad g) (vR a) = .ref (gad g a) := zr_n _ (by omega)
  rw [List.map_cons, hz]
  exact va_get X.1 X.2.1 X.2.2.2.2.1 hw X.2.2.2.1 X.2.2.2.2.2.1 hP (a - 1) he hc kf hk (X.2.2.2.2.1 _ hlk) (fun _ h => by rw [hC] at h; exact h) (by rw [List.getElem?_map, List.getElem?_range hk, Option.map_some, hr]; rfl) dg h9
theorem aw_getR (X : zX k g cc own nL rt d) (F : zF own idx ci kf N C T t0) (hr : zfr ci kf = true) {r : Nat} (ha : zsh a = (10 + ci, N)) (hv : zrf a kf = r) (dg : decode cc pc = .ok (.getfield idx, 3)) (h : AW k g nL I L (pc + 3) ls (vR r :: st)) : AW k g nL I L pc ls (vR a :: st) := by
  intro H locs la hP hD hS hl
  have h9 := h H locs la hP hD hS hl
  obtain ⟨⟨hc, hw, -, -⟩, hC, hlk, hk⟩ := F
  have ho := zok (i := a) (by rw [ha]; show 10 + ci ≠ 9; omega)
  have he := zw_at (g := g) (I := I) (L := L) ho.1 ho.2
  rw [zcell_obj ha] at he
  have hz : zc (gad g) (vR a) = .ref (gad g a) := zr_n _ (by omega)
  rw [List.map_cons, hz]
  exact va_get X.1 X.2.1 X.2.2.2.2.1 hw X.2.2.2.1 X.2.2.2.2.2.1 hP (a - 1) he hc kf hk (X.2.2.2.2.1 _ hlk) (fun _ h => by rw [hC] at h; exact h) (by rw [List.getElem?_map, List.getElem?_range hk, Option.map_some, hr, hv]; rfl) dg h9
theorem aw_putG (ty : FieldType) (X : zX k g cc own nL rt d) (F : zF own idx ci kf N C T t0) (hr : zfr ci kf = false) (hfin : (T kf).2.2.2 = false) (hty : t0 kf = ty) {x : Int32} (hn : narrow ty (.int x) = .int x) (hfit : fits ty (.int x) = true) (ha : zsh a = (10 + ci, N)) (dg : decode cc pc = .ok (.putfield idx, 3)) (h : AW k g nL (zs I a kf x) L (pc + 3) ls st) : AW k g nL I L pc ls (vI x :: vR a :: st) := by
  intro H locs la hP hD hS hl
  obtain ⟨⟨hc, hw, ht, hnm⟩, hC, hlk, hk⟩ := F
  have ho := zok (i := a) (by rw [ha]; show 10 + ci ≠ 9; omega)
  have he := zw_at (g := g) (I := I) (L := L) ho.1 ho.2
  have ez := zw_set (g := g) (I := I) (L := L) (I' := zs I a kf x) (L' := L) ho.1 ho.2 (fun j hj => zcell_neI hj) (c := .inr (ci, ((List.range N).map (fun k => if zfr ci k then zr (gad g) (zrf a k) else .int (I a k))).set kf (.int x))) (by rw [zcell_obj ha, zset_obj hr])
  rw [zcell_obj ha] at he
  have hz : zc (gad g) (vR a) = .ref (gad g a) := zr_n _ (by omega)
  rw [List.map_cons, List.map_cons, hz]
  refine va_put X.1 X.2.1 X.2.2.2.2.1 hw t0 ht hnm X.2.2.2.1 X.2.2.2.2.2.1 hP hD hS (a - 1) he hc kf hk (X.2.2.2.2.1 _ hlk) (fun _ h => by rw [hC] at h; exact h) hfin (ty := ty) (by rw [ht kf hk, hty]) hn hfit (by rw [List.length_map, List.length_range]; exact hk) dg (fun H1 locs1 hP1 hD1 hS1 => ?_)
  exact h H1 locs1 la (by rw [← ez]; exact hP1) (by rw [← ez]; exact hD1) hS1 hl
theorem aw_putI (X : zX k g cc own nL rt d) (F : zF own idx ci kf N C T t0) (hr : zfr ci kf = false) (hfin : (T kf).2.2.2 = false) (hty : t0 kf = .int) {x : Int32} (ha : zsh a = (10 + ci, N)) (dg : decode cc pc = .ok (.putfield idx, 3)) (h : AW k g nL (zs I a kf x) L (pc + 3) ls st) : AW k g nL I L pc ls (vI x :: vR a :: st) := aw_putG .int X F hr hfin hty (vp_nar_int x) rfl ha dg h
theorem aw_putZ (X : zX k g cc own nL rt d) (F : zF own idx ci kf N C T t0) (hr : zfr ci kf = false) (hfin : (T kf).2.2.2 = false) (hty : t0 kf = .boolean) {x : Int32} (hx : x = 0 ∨ x = 1) (ha : zsh a = (10 + ci, N)) (dg : decode cc pc = .ok (.putfield idx, 3)) (h : AW k g nL (zs I a kf x) L (pc + 3) ls st) : AW k g nL I L pc ls (vI x :: vR a :: st) := aw_putG .boolean X F hr hfin hty (by rcases hx with rfl | rfl <;> rfl) (by rcases hx with rfl | rfl <;> rfl) ha dg h
theorem aw_alen (X : zX k g cc own nL rt d) {kd n : Nat} {v : Int32} (ha : zsh a = (kd, n)) (hk : kd < 4) (hv : Int32.ofNat n = v) (dg : decode cc pc = .ok (.arraylength, 1)) (h : AW k g nL I L (pc + 1) ls (vI v :: st)) : AW k g nL I L pc ls (vR a :: st) := by
  intro H locs la hP hD hS hl
  have h9 := h H locs la hP hD hS hl
  have ho := zok (i := a) (by rw [ha]; show kd ≠ 9; omega)
  have he := zw_at (g := g) (I := I) (L := L) ho.1 ho.2
  have hz : zc (gad g) (vR a) = .ref (gad g a) := zr_n _ (by omega)
  rw [List.map_cons, hz]
  have hcase : kd = 0 ∨ kd = 1 ∨ kd = 2 ∨ kd = 3 := by omega
  rcases hcase with rfl | rfl | rfl | rfl
  · obtain ⟨t1, ht⟩ := zt_at (g := g) ho.1 ho.2 (ty := .int) (by rw [ha]; rfl)
    rw [zcell_i ha] at he
    exact va_alen X.1 X.2.1 X.2.2.2.2.2.1 hP (a - 1) t1 he ht hv dg h9
  · obtain ⟨t1, ht⟩ := zt_at (g := g) ho.1 ho.2 (ty := .long) (by rw [ha]; rfl)
    rw [zcell_l ha] at he
    exact va_alen X.1 X.2.1 X.2.2.2.2.2.1 hP (a - 1) t1 he ht hv dg h9
  · obtain ⟨t1, ht⟩ := zt_at (g := g) ho.1 ho.2 (ty := .object RX1) (by rw [ha]; rfl)
    rw [zcell_r ha (Or.inl rfl)] at he
    exact va_alen X.1 X.2.1 X.2.2.2.2.2.1 hP (a - 1) t1 he ht hv dg h9
  · obtain ⟨t1, ht⟩ := zt_at (g := g) ho.1 ho.2 (ty := .object RX3) (by rw [ha]; rfl)
    rw [zcell_r ha (Or.inr rfl)] at he
    exact va_alen X.1 X.2.1 X.2.2.2.2.2.1 hP (a - 1) t1 he ht hv dg h9
theorem aw_iald (X : zX k g cc own nL rt d) {n : Nat} {i : Int32} (ha : zsh a = (0, n)) (hi : vp_in i n) (dg : decode cc pc = .ok (.iaload, 1)) (h : AW k g nL I L (pc + 1) ls (vI (I a i.toNatClampNeg) :: st)) : AW k g nL I L pc ls (vI i :: vR a :: st) := by
  intro H locs la hP hD hS hl
  have h9 := h H locs la hP hD hS hl
  have ho := zok (i := a) (by rw [ha]; exact fun h => nomatch h)
  have he := zw_at (g := g) (I := I) (L := L) ho.1 ho.2
  have hz : zc (gad g) (vR a) = .ref (gad g a) := zr_n _ (by omega)
  rw [List.map_cons, List.map_cons, hz]
  obtain ⟨t1, ht⟩ := zt_at (g := g) ho.1 ho.2 (ty := .int) (by rw [ha]; rfl)
  rw [zcell_i ha] at he
  exact va_iald X.1 X.2.1 X.2.2.2.2.2.1 hP (a - 1) t1 he ht hi dg h9
theorem aw_iast (X : zX k g cc own nL rt d) {n : Nat} {i x : Int32} (ha : zsh a = (0, n)) (hi : vp_in i n) (dg : decode cc pc = .ok (.iastore, 1)) (h : AW k g nL (zs I a i.toNatClampNeg x) L (pc + 1) ls st) : AW k g nL I L pc ls (vI x :: vI i :: vR a :: st) := by
  intro H locs la hP hD hS hl
  have ho := zok (i := a) (by rw [ha]; exact fun h => nomatch h)
  have he := zw_at (g := g) (I := I) (L := L) ho.1 ho.2
  have ez := zw_set (g := g) (I := I) (L := L) (I' := zs I a i.toNatClampNeg x) (L' := L) ho.1 ho.2 (fun j hj => zcell_neI hj) (c := .inl (gac g a, n, .inl (upd (I a) i.toNatClampNeg x))) (by rw [zcell_i ha, zs_upd])
  have hz : zc (gad g) (vR a) = .ref (gad g a) := zr_n _ (by omega)
  rw [List.map_cons, List.map_cons, List.map_cons, hz]
  obtain ⟨t1, ht⟩ := zt_at (g := g) ho.1 ho.2 (ty := .int) (by rw [ha]; rfl)
  rw [zcell_i ha] at he
  refine va_iast X.1 X.2.1 X.2.2.2.2.2.1 hP hD hS (a - 1) t1 he ht hi dg (fun H1 locs1 hP1 hD1 hS1 => ?_)
  rw [ez] at hP1 hD1
  exact h H1 locs1 la hP1 hD1 hS1 hl
/-- the law's own row -/
theorem zcell_b {g : zG} {I : zI} {L : zL} : zcell g I L 87 = .inl (gac g 3, 37, .inl (I 87)) := if_pos rfl
theorem ztB (g : zG) : ∃ t0 : Nat, (zt g)[t0]? = some (gac g 3, .int) := zt_at (g := g) (i := 3) (by decide) (by decide) (ty := .int) rfl
theorem aw_bald (X : zX k g cc own nL rt d) (hb : gb g = true) {i : Int32} (hi : vp_in i 37) (dg : decode cc pc = .ok (.iaload, 1)) (h : AW k g nL I L (pc + 1) ls (vI (I 87 i.toNatClampNeg) :: st)) : AW k g nL I L pc ls (vI i :: vR 87 :: st) := by
  intro H locs la hP hD hS hl
  have h9 := h H locs la hP hD hS hl
  have he := zw_atB (g := g) (I := I) (L := L) hb
  have hz : zc (gad g) (vR 87) = .ref (gad g 87) := zr_n _ (by decide)
  rw [List.map_cons, List.map_cons, hz]
  obtain ⟨t1, ht⟩ := ztB g
  rw [zcell_b] at he
  exact va_iald X.1 X.2.1 X.2.2.2.2.2.1 hP zN t1 he ht hi dg h9
theorem aw_bast (X : zX k g cc own nL rt d) (hb : gb g = true) {i x : Int32} (hi : vp_in i 37) (dg : decode cc pc = .ok (.iastore, 1)) (h : AW k g nL (zs I 87 i.toNatClampNeg x) L (pc + 1) ls st) : AW k g nL I L pc ls (vI x :: vI i :: vR 87 :: st) := by
  intro H locs la hP hD hS hl
  have he := zw_atB (g := g) (I := I) (L := L) hb
  have ez := zw_setB (g := g) (I := I) (L := L) (I' := zs I 87 i.toNatClampNeg x) (L' := L) hb (fun j hj => zcell_neI hj) (c := .inl (gac g 3, 37, .inl (upd (I 87) i.toNatClampNeg x))) (by rw [zcell_b, zs_upd])
  have hz : zc (gad g) (vR 87) = .ref (gad g 87) := zr_n _ (by decide)
  rw [List.map_cons, List.map_cons, List.map_cons, hz]
  obtain ⟨t1, ht⟩ := ztB g
  rw [zcell_b] at he
  refine va_iast X.1 X.2.1 X.2.2.2.2.2.1 hP hD hS zN t1 he ht hi dg (fun H1 locs1 hP1 hD1 hS1 => ?_)
  rw [ez] at hP1 hD1
  exact h H1 locs1 la hP1 hD1 hS1 hl
/-- the script -/
theorem aw_xlen (X : zX k g cc own nL rt d) (dg : decode cc pc = .ok (.arraylength, 1)) (h : AW k g nL I L (pc + 1) ls (vI (Int32.ofNat (gn g)) :: st)) : AW k g nL I L pc ls (vR 3000 :: st) := by
  intro H locs la hP hD hS hl9
  have h9 := h H locs la hP hD hS hl9
  have hz : zc (gad g) (vR 3000) = .ref (gad g 3000) := zr_n _ (by decide)
  rw [List.map_cons, hz]
  exact va_tlen X.1 X.2.1 X.2.2.2.2.2.2.1.2.1 hS rfl dg h9
theorem aw_xald (X : zX k g cc own nL rt d) {i : Int32} (hi : vp_in i (gn g)) (dg : decode cc pc = .ok (.iaload, 1)) (h : AW k g nL I L (pc + 1) ls (vI (gxs g i.toNatClampNeg) :: st)) : AW k g nL I L pc ls (vI i :: vR 3000 :: st) := by
  intro H locs la hP hD hS hl9
  have h9 := h H locs la hP hD hS hl9
  have hz : zc (gad g) (vR 3000) = .ref (gad g 3000) := zr_n _ (by decide)
  rw [List.map_cons, List.map_cons, hz]
  exact va_ti X.1 X.2.1 X.2.2.2.2.2.2.1.2.1 hS hi rfl dg h9
theorem aw_lald (X : zX k g cc own nL rt d) {n : Nat} {i : Int32} (ha : zsh a = (1, n)) (hi : vp_in i n) (dg : decode cc pc = .ok (.laload, 1)) (h : AW k g nL I L (pc + 1) ls (vL (L a i.toNatClampNeg) :: st)) : AW k g nL I L pc ls (vI i :: vR a :: st) := by
  intro H locs la hP hD hS hl
  have h9 := h H locs la hP hD hS hl
  have ho := zok (i := a) (by rw [ha]; exact fun h => nomatch h)
  have he := zw_at (g := g) (I := I) (L := L) ho.1 ho.2
  have hz : zc (gad g) (vR a) = .ref (gad g a) := zr_n _ (by omega)
  rw [List.map_cons, List.map_cons, hz]
  obtain ⟨t1, ht⟩ := zt_at (g := g) ho.1 ho.2 (ty := .long) (by rw [ha]; rfl)
  rw [zcell_l ha] at he
  exact va_lald X.1 X.2.1 X.2.2.2.2.2.1 hP (a - 1) t1 he ht hi dg h9
theorem aw_last (X : zX k g cc own nL rt d) {n : Nat} {i : Int32} {x : Int64} (ha : zsh a = (1, n)) (hi : vp_in i n) (dg : decode cc pc = .ok (.lastore, 1)) (h : AW k g nL I (zs L a i.toNatClampNeg x) (pc + 1) ls st) : AW k g nL I L pc ls (vL x :: vI i :: vR a :: st) := by
  intro H locs la hP hD hS hl
  have ho := zok (i := a) (by rw [ha]; exact fun h => nomatch h)
  have he := zw_at (g := g) (I := I) (L := L) ho.1 ho.2
  have ez := zw_set (g := g) (I := I) (L := L) (I' := I) (L' := zs L a i.toNatClampNeg x) ho.1 ho.2 (fun j hj => zcell_neL hj) (c := .inl (gac g a, n, .inr (.inl (vp_updL (L a) i.toNatClampNeg x)))) (by rw [zcell_l ha, zs_updL])
  have hz : zc (gad g) (vR a) = .ref (gad g a) := zr_n _ (by omega)
  rw [List.map_cons, List.map_cons, List.map_cons, hz]
  obtain ⟨t1, ht⟩ := zt_at (g := g) ho.1 ho.2 (ty := .long) (by rw [ha]; rfl)
  rw [zcell_l ha] at he
  refine va_last X.1 X.2.1 X.2.2.2.2.2.1 hP hD hS (a - 1) t1 he ht hi dg (fun H1 locs1 hP1 hD1 hS1 => ?_)
  rw [ez] at hP1 hD1
  exact h H1 locs1 la hP1 hD1 hS1 hl
theorem aw_aald (X : zX k g cc own nL rt d) {n kd r : Nat} {i : Int32} (ha : zsh a = (kd, n)) (hk : kd = 2 ∨ kd = 3) (hi : vp_in i n) (hv : zrf a i.toNatClampNeg = r) (dg : decode cc pc = .ok (.aaload, 1)) (h : AW k g nL I L (pc + 1) ls (vR r :: st)) : AW k g nL I L pc ls (vI i :: vR a :: st) := by
  intro H locs la hP hD hS hl
  have h9 := h H locs la hP hD hS hl
  have ho := zok (i := a) (by rw [ha]; show kd ≠ 9; omega)
  have he := zw_at (g := g) (I := I) (L := L) ho.1 ho.2
  have hz : zc (gad g) (vR a) = .ref (gad g a) := zr_n _ (by omega)
  rw [List.map_cons, List.map_cons, hz]
  rw [zcell_r ha hk] at he
  have hf : zc (gad g) (vR r) = va_rf ((fun k => if zrf a k = 0 then none else some (gad g (zrf a k))) i.toNatClampNeg) := by
    show zr (gad g) r = _
    unfold zr
    dsimp only
    rw [hv]
    split <;> rfl
  rw [List.map_cons, hf] at h9
  rcases hk with rfl | rfl
  · obtain ⟨t1, ht⟩ := zt_at (g := g) ho.1 ho.2 (ty := .object RX1) (by rw [ha]; rfl)
    exact va_aldq X.1 X.2.1 X.2.2.2.2.2.1 hP (a - 1) t1 he ht hi dg h9
  · obtain ⟨t1, ht⟩ := zt_at (g := g) ho.1 ho.2 (ty := .object RX3) (by rw [ha]; rfl)
    exact va_aldq X.1 X.2.1 X.2.2.2.2.2.1 hP (a - 1) t1 he ht hi dg h9
/-- static arrays -/
theorem aw_gets (X : zX k g cc own nL rt d) {r : Nat} {C n : String} {xs : List Int32} (hq : (r, C, n, xs) ∈ zsta) (hl : Cond.fieldLink own idx C n "[I" ∈ zT) (h0 : r ≠ 0) (dg : decode cc pc = .ok (.getstatic idx, 3)) (h : AW k g nL I L (pc + 3) ls (vR r :: st)) : AW k g nL I L pc ls st := by
  intro H locs la hP hD hS hl9
  have h9 := h H locs la hP hD hS hl9
  have hz : zc (gad g) (vR r) = .ref (gad g r) := zr_n _ h0
  rw [List.map_cons, hz] at h9
  exact va_gets X.1 X.2.1 (X.2.2.2.2.2.2.1.1 _ hq).1 hS X.2.2.2.1 (X.2.2.2.2.1 _ hl) (fun _ h => h) dg h9
theorem aw_slen (X : zX k g cc own nL rt d) {r : Nat} {C n : String} {xs : List Int32} (hq : (r, C, n, xs) ∈ zsta) (h0 : r ≠ 0) (dg : decode cc pc = .ok (.arraylength, 1)) (h : AW k g nL I L (pc + 1) ls (vI 7 :: st)) : AW k g nL I L pc ls (vR r :: st) := by
  intro H locs la hP hD hS hl9
  have h9 := h H locs la hP hD hS hl9
  have hz : zc (gad g) (vR r) = .ref (gad g r) := zr_n _ h0
  rw [List.map_cons, hz]
  exact va_tlen X.1 X.2.1 (X.2.2.2.2.2.2.1.1 _ hq).2 hS rfl dg h9
theorem aw_sald (X : zX k g cc own nL rt d) {r : Nat} {C n : String} {xs : List Int32} {i : Int32} (hq : (r, C, n, xs) ∈ zsta) (h0 : r ≠ 0) (hi : vp_in i 7) (dg : decode cc pc = .ok (.iaload, 1)) (h : AW k g nL I L (pc + 1) ls (vI (xs.getD i.toNatClampNeg 0) :: st)) : AW k g nL I L pc ls (vI i :: vR r :: st) := by
  intro H locs la hP hD hS hl9
  have h9 := h H locs la hP hD hS hl9
  have hz : zc (gad g) (vR r) = .ref (gad g r) := zr_n _ h0
  rw [List.map_cons, List.map_cons, hz]
  exact va_ti X.1 X.2.1 (X.2.2.2.2.2.2.1.1 _ hq).2 hS hi rfl dg h9
/-- Math -/
def jmax (x y : Int32) : Int32 := if x < y then y else x
def jmin (x y : Int32) : Int32 := if y < x then y else x
def jabs (x : Int32) : Int32 := if 0 ≤ x then x else 0 - x
theorem zroom (X : zX k g cc own nL rt d) (hd : 1 ≤ d) {n : Nat} (h : n ≤ 20) : 1 ≤ k.2.2.2.1.frames ∧ n + 13 ≤ k.2.2.2.1.locals := by
  obtain ⟨-, -, -, -, -, -, -, -, -, h1, h2, -⟩ := X
  exact ⟨by omega, by omega⟩
theorem zcsum (ad : Nat → Nat) : ∀ st : List zv, ((st.map (zc ad)).map fun v => v.category).sum ≤ 2 * st.length
  | [] => Nat.le_refl _
  | a :: st => by
    have h := zcsum ad st
    simp only [List.map_cons, List.sum_cons, List.length_cons]
    have h2 : (zc ad a).category ≤ 2 := by
      rcases a with x | x | r
      · exact Nat.le_succ 1
      · exact Nat.le_refl 2
      · rw [show zc ad (.inr (.inr r)) = zr ad r from rfl, zr_cat]; exact Nat.le_succ 1
    omega
def zMath (own : String) (idx : Nat) (y : MethodName) (cc : ByteArray) (n : Nat) : Prop := Cond.methodLink own idx y ∈ zT ∧ Cond.static y ∈ zT ∧ Cond.initialized "java/lang/Math" ∈ zT ∧ Cond.code y cc n (some .int) ∈ zT
theorem aw_max (X : zX k g cc own nL rt d) (hd : 1 ≤ d) (hs : st.length ≤ 4) (hw : zMath own idx Lib.Math.max.name Lib.Math.max.code 2) {x y : Int32} (dg : decode cc pc = .ok (.invokestatic idx, 3)) (h : AW k g nL I L (pc + 3) ls (vI (jmax x y) :: st)) : AW k g nL I L pc ls (vI y :: vI x :: st) := fun H locs la hP hD hS hl =>
  va_mmax X.1 X.2.1 (X.2.2.1.trans hl.1.symm) X.2.2.2.1 (X.2.2.2.2.1 _ hw.1) (X.2.2.2.2.1 _ hw.2.1) (X.2.2.2.2.1 _ hw.2.2.1) (X.2.2.2.2.1 _ hw.2.2.2) (zroom X hd (n := 0) (by omega)).1 (zroom X hd (by have := zcsum (gad g) st; omega)).2 X.2.2.2.2.2.2.2.2.2.2.2.1 X.2.2.2.2.2.2.2.2.2.2.2.2 dg (h H locs la hP hD hS hl)
theorem aw_min (X : zX k g cc own nL rt d) (hd : 1 ≤ d) (hs : st.length ≤ 4) (hw : zMath own idx Lib.Math.min.name Lib.Math.min.code 2) {x y : Int32} (dg : decode cc pc = .ok (.invokestatic idx, 3)) (h : AW k g nL I L (pc + 3) ls (vI (jmin x y) :: st)) : AW k g nL I L pc ls (vI y :: vI x :: st) := fun H locs la hP hD hS hl =>
  va_mmin X.1 X.2.1 (X.2.2.1.trans hl.1.symm) X.2.2.2.1 (X.2.2.2.2.1 _ hw.1) (X.2.2.2.2.1 _ hw.2.1) (X.2.2.2.2.1 _ hw.2.2.1) (X.2.2.2.2.1 _ hw.2.2.2) (zroom X hd (n := 0) (by omega)).1 (zroom X hd (by have := zcsum (gad g) st; omega)).2 X.2.2.2.2.2.2.2.2.2.2.2.1 X.2.2.2.2.2.2.2.2.2.2.2.2 dg (h H locs la hP hD hS hl)
theorem aw_abs (X : zX k g cc own nL rt d) (hd : 1 ≤ d) (hs : st.length ≤ 4) (hw : zMath own idx Lib.Math.abs.name Lib.Math.abs.code 1) {x : Int32} (dg : decode cc pc = .ok (.invokestatic idx, 3)) (h : AW k g nL I L (pc + 3) ls (vI (jabs x) :: st)) : AW k g nL I L pc ls (vI x :: st) := fun H locs la hP hD hS hl =>
  va_mabs X.1 X.2.1 (X.2.2.1.trans hl.1.symm) X.2.2.2.1 (X.2.2.2.2.1 _ hw.1) (X.2.2.2.2.1 _ hw.2.1) (X.2.2.2.2.1 _ hw.2.2.1) (X.2.2.2.2.1 _ hw.2.2.2) (zroom X hd (n := 0) (by omega)).1 (zroom X hd (by have := zcsum (gad g) st; omega)).2 X.2.2.2.2.2.2.2.2.2.2.2.1 X.2.2.2.2.2.2.2.2.2.2.2.2 dg (h H locs la hP hD hS hl)
end ZM
