/-! THE LAW'S START: what the words of the Statement give -/
theorem eqR9 {args : Array Value} {s : State} {t u : Term} {a : Nat} (h : (Cond.eq t u).before args s = true) (ht : t.eval args s none [] s = some (.ref a)) : u.eval args s none [] s = some (.ref a) := by
  cases hu : u.eval args s none [] s with
  | none => simp [Cond.before, Cond.holds, Cond.value, ht, hu] at h
  | some w =>
    simp only [Cond.before, Cond.holds, Cond.value, ht, hu] at h
    cases w <;> simp_all
theorem st_arr {args : Array Value} {s : State} {A : Nat → Prop} (hA : ∀ a : Nat, a < s.heap.size → ¬ A a) {C n : String} {xs : List Int32} (hl : (Cond.laysStatic C n "[I").before args s = true) (hi : (Cond.initialized C).before args s = true) (ha : (Cond.arrayOf (.static C n "[I") .int).before args s = true) (hn : (Cond.eq (.length (.static C n "[I")) (.int (Int32.ofNat 7))).before args s = true)
    (he : ∀ j : Nat, j < 7 → (Cond.eq (.elem (.static C n "[I") (.int (Int32.ofNat j))) (.int (xs.getD j 0))).before args s = true) : ∃ t : Nat, va_Z C n "[I" (.ref t) A s s.heap ∧ va_T .int t 7 (fun j => .int (xs.getD j 0)) A s s.heap := by
  obtain ⟨t, ht, hT⟩ := va_Tof (f := fun j => .int (xs.getD j 0)) (A := A) (by decide) ha (va_eqt hn) (fun j hj => va_eqt (he j hj)) hA
  exact ⟨t, va_Zref hl hi ht hA, hT⟩
def zskR : List Nat := [87, 89, 91, 93, 95, 97]
def zskM : List Nat := [161, 168, 173, 175, 176, 177]
def zskT : List String := ["form", "pane", "hang", "cold", "wet", "out"]
abbrev zFl : List Cond := flatC (Cond.and given_1 narrow_1)
set_option maxRecDepth 100000 in
theorem sf_KA : ∀ j, j < 7 → Cond.eq (.elem (.static RX1 "KIND_ABOVE" "[I") (.int (Int32.ofNat j))) (.int (zK_KIND_ABOVE.getD j 0)) ∈ zFl := by decide +kernel
theorem sf_FR : ∀ j, j < 7 → Cond.eq (.elem (.static RX0 "FREEZING" "[I") (.int (Int32.ofNat j))) (.int (zK_FREEZING.getD j 0)) ∈ zFl := by decide +kernel
theorem sf_ME : ∀ j, j < 7 → Cond.eq (.elem (.static RX0 "MELTING" "[I") (.int (Int32.ofNat j))) (.int (zK_MELTING.getD j 0)) ∈ zFl := by decide +kernel
theorem sf_SH : ∀ j, j < 7 → Cond.eq (.elem (.static RX0 "SHOWING" "[I") (.int (Int32.ofNat j))) (.int (zK_SHOWING.getD j 0)) ∈ zFl := by decide +kernel
theorem sf_ex : ∀ i, i < 6 → Cond.exactly (.string RX2 (zskR.getD i 0)) "java/lang/String" ∈ zFl := by decide +kernel
theorem sf_co : ∀ i, i < 6 → Cond.eq (.field (.string RX2 (zskR.getD i 0)) "java/lang/String" "coder" "B") (.int 0) ∈ zFl := by decide +kernel
theorem sf_ar : ∀ i, i < 6 → Cond.arrayOf (.field (.string RX2 (zskR.getD i 0)) "java/lang/String" "value" "[B") .byte ∈ zFl := by decide +kernel
theorem sf_le : ∀ i, i < 6 → Cond.eq (.length (.field (.string RX2 (zskR.getD i 0)) "java/lang/String" "value" "[B")) (.int (Int32.ofNat (zslen.getD i 0))) ∈ zFl := by decide +kernel
theorem sf_el : ∀ i, i < 6 → ∀ j, j < zslen.getD i 0 → Cond.eq (.elem (.field (.string RX2 (zskR.getD i 0)) "java/lang/String" "value" "[B") (.int (Int32.ofNat j))) (.int ((zsbyt.getD i []).getD j 0)) ∈ zFl := by decide +kernel
theorem sf_ne : ∀ i, i < 6 → ∀ j, j < 6 → i ≠ j → (Cond.not (Cond.eq (.string RX2 (zskR.getD i 0)) (.string RX2 (zskR.getD j 0))) ∈ zFl ∨ Cond.not (Cond.eq (.string RX2 (zskR.getD j 0)) (.string RX2 (zskR.getD i 0))) ∈ zFl) := by decide +kernel
theorem sf_eq : ∀ i, i < 6 → Cond.eq (.string RX2 (zskR.getD i 0)) (.string RX7 (zskM.getD i 0)) ∈ zFl := by decide +kernel
theorem sf_wR : ∀ i, i < 6 → Cond.stringRef RX2 (zskR.getD i 0) (zskT.getD i "") ∈ lw_tbl := by decide +kernel
theorem sf_wM : ∀ i, i < 6 → Cond.stringRef RX7 (zskM.getD i 0) (zskT.getD i "") ∈ lw_tbl := by decide +kernel
theorem sf_l : ∀ i, i < 6 → zslen.getD i 0 < 2 ^ 31 := by decide +kernel
theorem st_str {args : Array Value} {s : State} {A : Nat → Prop} (hA : ∀ a : Nat, a < s.heap.size → ¬ A a) (hs : ∀ c ∈ zFl, c.before args s = true) (hts : ∀ w ∈ lw_tbl, w.before args s = true) : ∃ adK adV : Nat → Nat, vk_S 6 zslen zsbyt adK adV A s s.heap ∧ ∀ q ∈ zstr, vk_R q.1 q.2.1 q.2.2.1 (adK q.2.2.2) s := by
  obtain ⟨adK, adV, h1, h2⟩ := vk_Sof (args := args) (s := s) (A := A) (N := 6) (tm := fun i => .string RX2 (zskR.getD i 0)) (len := zslen) (byt := zsbyt) (fun i hi => sf_l i hi) (fun i hi => hs _ (sf_ex i hi)) (fun i hi => hs _ (sf_co i hi)) (fun i hi => hs _ (sf_ar i hi)) (fun i hi => hs _ (sf_le i hi)) (fun i hi j hj => hs _ (sf_el i hi j hj)) (fun i j hi hj hij => (sf_ne i hi j hj hij).imp (fun h => hs _ h) (fun h => hs _ h)) hA
  have hR : ∀ i, i < 6 → vk_R RX2 (zskR.getD i 0) (zskT.getD i "") (adK i) s := fun i hi => vk_R.of (hts _ (sf_wR i hi)) (h2 i hi)
  have hM : ∀ i, i < 6 → vk_R RX7 (zskM.getD i 0) (zskT.getD i "") (adK i) s := fun i hi => vk_R.of (hts _ (sf_wM i hi)) (eqR9 (hs _ (sf_eq i hi)) (h2 i hi))
  refine ⟨adK, adV, h1, ?_⟩
  intro q hq
  simp only [zstr, List.mem_cons, List.not_mem_nil, or_false] at hq
  rcases hq with rfl | rfl | rfl | rfl | rfl | rfl | rfl | rfl | rfl | rfl | rfl | rfl
  · exact hR 0 (by decide)
  · exact hR 1 (by decide)
  · exact hR 2 (by decide)
  · exact hR 3 (by decide)
  · exact hR 4 (by decide)
  · exact hR 5 (by decide)
  · exact hM 0 (by decide)
  · exact hM 1 (by decide)
  · exact hM 2 (by decide)
  · exact hM 3 (by decide)
  · exact hM 4 (by decide)
  · exact hM 5 (by decide)
theorem st_cls {args : Array Value} {s : State} (hts : ∀ w ∈ lw_tbl, w.before args s = true) : ∃ (dC : Nat → ClassId) (dI : Nat → Nat → Nat), ∀ (k : Nat) (q : vw_C), vwCl[k]? = some q → u_Kn s q.1 q.2.1 q.2.2 (dC k) (dI k) := by
  have htz : ∀ w ∈ zT, w.before args s = true := fun w hw => hts w (List.mem_filter.mp hw).1
  obtain ⟨c0, i0, h0⟩ := u_known (n := 5) htz zcl_0.2.1 (hts (.instantiable RX0 5) (by decide +kernel))
  obtain ⟨c1, i1, h1⟩ := u_known (n := 6) htz zcl_1.2.1 (hts (.instantiable RX1 6) (by decide +kernel))
  obtain ⟨c2, i2, h2⟩ := u_known (n := 3) htz zcl_2.2.1 (hts (.instantiable RX2 3) (by decide +kernel))
  obtain ⟨c3, i3, h3⟩ := u_known (n := 5) htz zcl_3.2.1 (hts (.instantiable RX3 5) (by decide +kernel))
  obtain ⟨c4, i4, h4⟩ := u_known (n := 10) htz zcl_4.2.1 (hts (.instantiable RX4 10) (by decide +kernel))
  obtain ⟨c5, i5, h5⟩ := u_known (n := 7) htz zcl_5.2.1 (hts (.instantiable RX5 7) (by decide +kernel))
  obtain ⟨c6, i6, h6⟩ := u_known (n := 9) htz zcl_6.2.1 (hts (.instantiable RX6 9) (by decide +kernel))
  obtain ⟨c7, i7, h7⟩ := u_known (n := 31) htz zcl_7.2.1 (hts (.instantiable RX7 31) (by decide +kernel))
  refine ⟨fun k => match k with | 0 => c0 | 1 => c1 | 2 => c2 | 3 => c3 | 4 => c4 | 5 => c5 | 6 => c6 | _ => c7, fun k => match k with | 0 => i0 | 1 => i1 | 2 => i2 | 3 => i3 | 4 => i4 | 5 => i5 | 6 => i6 | _ => i7, ?_⟩
  intro k q hq
  match k, hq with
  | 0, hq => cases hq; exact h0
  | 1, hq => cases hq; exact h1
  | 2, hq => cases hq; exact h2
  | 3, hq => cases hq; exact h3
  | 4, hq => cases hq; exact h4
  | 5, hq => cases hq; exact h5
  | 6, hq => cases hq; exact h6
  | 7, hq => cases hq; exact h7
  | k + 8, hq => simp [vwCl] at hq
theorem st_arrs {args : Array Value} {s : State} (hts : ∀ w ∈ lw_tbl, w.before args s = true) : ∃ ac : Nat → ClassId, ∀ i ty, zty (zsh i).1 = some ty → ArrOfT s (ac i) ty ∧ va_RA s (ac i) ty := by
  obtain ⟨c0, k0, d0, f0, g0, e0⟩ := Cond.arrayClass_spec (hts (.arrayClass .int) (by decide +kernel))
  obtain ⟨c1, k1, d1, f1, g1, e1⟩ := Cond.arrayClass_spec (hts (.arrayClass .long) (by decide +kernel))
  obtain ⟨d2, c2, k2, f2, -, g2, e2, n2⟩ := Cond.arrayOver_spec (hts (.arrayOver (.object RX1)) (by decide +kernel))
  obtain ⟨d3, c3, k3, f3, -, g3, e3, n3⟩ := Cond.arrayOver_spec (hts (.arrayOver (.object RX3)) (by decide +kernel))
  have a0 : ArrOfT s c0 .int ∧ va_RA s c0 .int := ⟨fun n z => ⟨fun k h => (by cases h), k0, g0, d0, e0⟩, f0⟩
  have a1 : ArrOfT s c1 .long ∧ va_RA s c1 .long := ⟨fun n z => ⟨fun k h => (by cases h), k1, g1, d1, e1⟩, f1⟩
  have a2 : ArrOfT s c2 (.object RX1) ∧ va_RA s c2 (.object RX1) := ⟨fun n z => ⟨fun k h => (by cases h), k2, g2, d2, e2⟩, k2, d2, g2, e2, f2, n2⟩
  have a3 : ArrOfT s c3 (.object RX3) ∧ va_RA s c3 (.object RX3) := ⟨fun n z => ⟨fun k h => (by cases h), k3, g3, d3, e3⟩, k3, d3, g3, e3, f3, n3⟩
  refine ⟨fun i => if (zsh i).1 = 0 then c0 else if (zsh i).1 = 1 then c1 else if (zsh i).1 = 2 then c2 else c3, fun i ty h => ?_⟩
  dsimp only
  generalize (zsh i).1 = kd at h ⊢
  unfold zty at h
  by_cases q0 : kd = 0
  · rw [if_pos q0] at h ⊢
    cases h
    exact a0
  · rw [if_neg q0] at h ⊢
    by_cases q1 : kd = 1
    · rw [if_pos q1] at h ⊢
      cases h
      exact a1
    · rw [if_neg q1] at h ⊢
      by_cases q2 : kd = 2
      · rw [if_pos q2] at h ⊢
        cases h
        exact a2
      · rw [if_neg q2] at h ⊢
        by_cases q3 : kd = 3
        · rw [if_pos q3] at h
          cases h
          exact a3
        · rw [if_neg q3] at h
          cases h
/-- where the cells are -/
def adF (base t1 t2 t3 t4 fm b : Nat) (adK adV : Nat → Nat) (i : Nat) : Nat :=
  if i ≤ 105 then base + (i - 1) else if i = 1001 then t1 else if i = 1002 then t2 else if i = 1003 then t3 else if i = 1004 then t4 else if i = 2999 then fm else if i = 3000 then b else if i < 2100 then adK (i - 2000) else adV (i - 2100)
theorem adF_K {base t1 t2 t3 t4 fm b : Nat} {adK adV : Nat → Nat} {j : Nat} (h : j < 6) : adF base t1 t2 t3 t4 fm b adK adV (2000 + j) = adK j := by
  unfold adF
  rw [if_neg (by omega), if_neg (by omega), if_neg (by omega), if_neg (by omega), if_neg (by omega), if_neg (by omega), if_neg (by omega), if_pos (by omega), Nat.add_sub_cancel_left]
theorem adF_V {base t1 t2 t3 t4 fm b : Nat} {adK adV : Nat → Nat} {j : Nat} (h : j < 6) : adF base t1 t2 t3 t4 fm b adK adV (2100 + j) = adV j := by
  unfold adF
  rw [if_neg (by omega), if_neg (by omega), if_neg (by omega), if_neg (by omega), if_neg (by omega), if_neg (by omega), if_neg (by omega), if_neg (by omega), Nat.add_sub_cancel_left]
theorem st_g {args : Array Value} {s : State} {b : Nat} (hs : ∀ c ∈ zFl, c.before args s = true) (hts : ∀ w ∈ lw_tbl, w.before args s = true) : ∃ g : zG, gz g = s.heap.size ∧ zB g ∧ gad g 3000 = b ∧ va_K (gD g) vwCl (zt g) s ∧ zSt g s s.heap ∧ zAO s := by
  have hA : ∀ a : Nat, a < s.heap.size → ¬ (fun q : Nat => s.heap.size ≤ q) a := fun a h => Nat.not_le.mpr h
  obtain ⟨t1, z1, y1⟩ := st_arr (xs := zK_KIND_ABOVE) hA (hts (.laysStatic RX1 "KIND_ABOVE" "[I") (by decide +kernel)) (hts (.initialized RX1) (by decide +kernel)) (hs _ (by decide +kernel)) (hs _ (by decide +kernel)) (fun j hj => hs _ (sf_KA j hj))
  obtain ⟨t2, z2, y2⟩ := st_arr (xs := zK_FREEZING) hA (hts (.laysStatic RX0 "FREEZING" "[I") (by decide +kernel)) (hts (.initialized RX0) (by decide +kernel)) (hs _ (by decide +kernel)) (hs _ (by decide +kernel)) (fun j hj => hs _ (sf_FR j hj))
  obtain ⟨t3, z3, y3⟩ := st_arr (xs := zK_MELTING) hA (hts (.laysStatic RX0 "MELTING" "[I") (by decide +kernel)) (hts (.initialized RX0) (by decide +kernel)) (hs _ (by decide +kernel)) (hs _ (by decide +kernel)) (fun j hj => hs _ (sf_ME j hj))
  obtain ⟨t4, z4, y4⟩ := st_arr (xs := zK_SHOWING) hA (hts (.laysStatic RX0 "SHOWING" "[I") (by decide +kernel)) (hts (.initialized RX0) (by decide +kernel)) (hs _ (by decide +kernel)) (hs _ (by decide +kernel)) (fun j hj => hs _ (sf_SH j hj))
  obtain ⟨adK, adV, k1, k2⟩ := st_str (A := fun q : Nat => s.heap.size ≤ q) hA hs hts
  obtain ⟨dC, dI, hK⟩ := st_cls hts
  obtain ⟨ac, hac⟩ := st_arrs hts
  have hcs : va_Z "java/lang/String" "COMPACT_STRINGS" "Z" (.int 1) (fun q : Nat => s.heap.size ≤ q) s s.heap := va_Zof (hts _ (by decide +kernel)) (hts _ (by decide +kernel)) (va_eqi (hs _ (by decide +kernel))) hA
  have hfm : ∃ fm : Nat, va_Z "jdk/internal/util/Preconditions" "SIOOBE_FORMATTER" "Ljava/util/function/BiFunction;" .null (fun q : Nat => s.heap.size ≤ q) s s.heap ∨ va_Z "jdk/internal/util/Preconditions" "SIOOBE_FORMATTER" "Ljava/util/function/BiFunction;" (.ref fm) (fun q : Nat => s.heap.size ≤ q) s s.heap := by
    rcases va_Zqof (C := "jdk/internal/util/Preconditions") (n := "SIOOBE_FORMATTER") (d := "Ljava/util/function/BiFunction;") (hts _ (by decide +kernel)) (hts _ (by decide +kernel)) (hs _ (by decide +kernel)) hA with h | ⟨t, h⟩
    · exact ⟨0, Or.inl h⟩
    · exact ⟨t, Or.inr h⟩
  obtain ⟨fm, hfm⟩ := hfm
  refine ⟨((dC, dI), s.heap.size, adF s.heap.size t1 t2 t3 t4 fm b adK adV, ac), rfl, fun i h1 h2 => ?_, rfl, ⟨hK, fun k q hq => ?_⟩, ⟨?_, hcs, hfm, ⟨fun i hi => ?_, fun i j hi hj e => ?_⟩, fun q hq => ?_⟩, va_AO.of (hts (.arrayOver (.object RX1)) (by decide +kernel)), va_AO.of (hts (.arrayOver (.object RX3)) (by decide +kernel))⟩
  · show adF s.heap.size t1 t2 t3 t4 fm b adK adV i = s.heap.size + (i - 1)
    unfold adF
    exact if_pos h2
  · obtain ⟨j, -, e⟩ := List.mem_filterMap.mp (List.mem_of_getElem? hq)
    cases hz : zty (zsh (j + 1)).1 with
    | none => rw [hz] at e; cases e
    | some ty =>
      rw [hz] at e
      cases e
      exact hac (j + 1) ty hz
  · intro q hq
    simp only [zsta, List.mem_cons, List.not_mem_nil, or_false] at hq
    rcases hq with rfl | rfl | rfl | rfl
    · exact ⟨z1, y1⟩
    · exact ⟨z2, y2⟩
    · exact ⟨z3, y3⟩
    · exact ⟨z4, y4⟩
  · have h9 := k1.1 i hi
    show va_O _ (adF s.heap.size t1 t2 t3 t4 fm b adK adV (2000 + i)) _ _ _ ∧ va_OF _ _ _ _ (adF s.heap.size t1 t2 t3 t4 fm b adK adV (2000 + i)) _ _ _ ∧ va_OF _ _ _ (.ref (adF s.heap.size t1 t2 t3 t4 fm b adK adV (2100 + i))) (adF s.heap.size t1 t2 t3 t4 fm b adK adV (2000 + i)) _ _ _ ∧ va_T _ (adF s.heap.size t1 t2 t3 t4 fm b adK adV (2100 + i)) _ _ _ _ _
    rw [adF_K hi, adF_V hi]
    exact h9
  · have e9 : adF s.heap.size t1 t2 t3 t4 fm b adK adV (2000 + i) = adF s.heap.size t1 t2 t3 t4 fm b adK adV (2000 + j) := e
    rw [adF_K hi, adF_K hj] at e9
    exact k1.2 i j hi hj e9
  · have h9 := k2 q hq
    have h6 : q.2.2.2 < 6 := (by decide : ∀ q ∈ zstr, q.2.2.2 < 6) q hq
    show vk_R q.1 q.2.1 q.2.2.1 (adF s.heap.size t1 t2 t3 t4 fm b adK adV (2000 + q.2.2.2)) s
    rw [adF_K h6]
    exact h9
