/-! THE LAW'S START: what the words of the Statement give -/
theorem st_arr {args : Array Value} {s : State} {A : Nat → Prop} (hA : ∀ a : Nat, a < s.heap.size → ¬ A a) {C n : String} {xs : List Int32} (hl : (Cond.laysStatic C n "[I").before args s = true) (hi : (Cond.initialized C).before args s = true) (ha : (Cond.arrayOf (.static C n "[I") .int).before args s = true) (hn : (Cond.eq (.length (.static C n "[I")) (.int (Int32.ofNat 7))).before args s = true)
    (he : ∀ j : Nat, j < 7 → (Cond.eq (.elem (.static C n "[I") (.int (Int32.ofNat j))) (.int (xs.getD j 0))).before args s = true) : ∃ t : Nat, va_Z C n "[I" (.ref t) A s s.heap ∧ va_T .int t 7 (fun j => .int (xs.getD j 0)) A s s.heap := by
  obtain ⟨t, ht, hT⟩ := va_Tof (f := fun j => .int (xs.getD j 0)) (A := A) (by decide) ha (va_eqt hn) (fun j hj => va_eqt (he j hj)) hA
  exact ⟨t, va_Zref hl hi ht hA, hT⟩
abbrev zFl : List Cond := flatC (Cond.and given_1 narrow_1)
set_option maxRecDepth 100000 in
theorem sf_KA : ∀ j, j < 7 → Cond.eq (.elem (.static RX1 "KIND_ABOVE" "[I") (.int (Int32.ofNat j))) (.int (zK_KIND_ABOVE.getD j 0)) ∈ zFl := by decide +kernel
theorem st_cls {args : Array Value} {s : State} (hts : ∀ w ∈ lw_tbl, w.before args s = true) : ∃ (dC : Nat → ClassId) (dI : Nat → Nat → Nat), ∀ (k : Nat) (q : vw_C), vwCl[k]? = some q → u_Kn s q.1 q.2.1 q.2.2 (dC k) (dI k) := by
  have htz : ∀ w ∈ zT, w.before args s = true := fun w hw => hts w (List.mem_filter.mp hw).1
  obtain ⟨c0, i0, h0⟩ := u_known (n := 5) htz zcl_0.2.1 (hts (.instantiable RX0 5) (by decide +kernel))
  obtain ⟨c1, i1, h1⟩ := u_known (n := 6) htz zcl_1.2.1 (hts (.instantiable RX1 6) (by decide +kernel))
  obtain ⟨c2, i2, h2⟩ := u_known (n := 3) htz zcl_2.2.1 (hts (.instantiable RX2 3) (by decide +kernel))
  obtain ⟨c3, i3, h3⟩ := u_known (n := 5) htz zcl_3.2.1 (hts (.instantiable RX3 5) (by decide +kernel))
  obtain ⟨c4, i4, h4⟩ := u_known (n := 10) htz zcl_4.2.1 (hts (.instantiable RX4 10) (by decide +kernel))
  obtain ⟨c5, i5, h5⟩ := u_known (n := 7) htz zcl_5.2.1 (hts (.instantiable RX5 7) (by decide +kernel))
  obtain ⟨c6, i6, h6⟩ := u_known (n := 9) htz zcl_6.2.1 (hts (.instantiable RX6 9) (by decide +kernel))
  refine ⟨fun k => match k with | 0 => c0 | 1 => c1 | 2 => c2 | 3 => c3 | 4 => c4 | 5 => c5 | _ => c6, fun k => match k with | 0 => i0 | 1 => i1 | 2 => i2 | 3 => i3 | 4 => i4 | 5 => i5 | _ => i6, ?_⟩
  intro k q hq
  match k, hq with
  | 0, hq => cases hq; exact h0
  | 1, hq => cases hq; exact h1
  | 2, hq => cases hq; exact h2
  | 3, hq => cases hq; exact h3
  | 4, hq => cases hq; exact h4
  | 5, hq => cases hq; exact h5
  | 6, hq => cases hq; exact h6
  | k + 7, hq => simp [vwCl] at hq
theorem st_arrs {args : Array Value} {s : State} (hts : ∀ w ∈ lw_tbl, w.before args s = true) : ∃ ac : Nat → ClassId, ∀ i ty, zty (zsh i).1 = some ty → ArrOfT s (ac i) ty ∧ va_RA s (ac i) ty := by
  obtain ⟨c0, k0, d0, f0, g0, e0⟩ := Cond.arrayClass_spec (hts (.arrayClass .int) (by decide +kernel))
  obtain ⟨c1, k1, d1, f1, g1, e1⟩ := Cond.arrayClass_spec (hts (.arrayClass .long) (by decide +kernel))
  obtain ⟨d2, c2, k2, f2, -, g2, e2, n2⟩ := Cond.arrayOver_spec (hts (.arrayOver (.object RX1)) (by decide +kernel))
  obtain ⟨d3, c3, k3, f3, -, g3, e3, n3⟩ := Cond.arrayOver_spec (hts (.arrayOver (.object RX3)) (by decide +kernel))
  have a0 : ArrOfT s c0 .int ∧ va_RA s c0 .int := ⟨fun n z => ⟨fun k h => (by cases h), k0, g0, d0, e0⟩, f0⟩
  have a1 : ArrOfT s c1 .long ∧ va_RA s c1 .long := ⟨fun n z => ⟨fun k h => (by cases h), k1, g1, d1, e1⟩, f1⟩
  have a2 : ArrOfT s c2 (.object RX1) ∧ va_RA s c2 (.object RX1) := ⟨fun n z => ⟨fun k h => (by cases h), k2, g2, d2, e2⟩, k2, d2, g2, e2, f2, n2⟩
  have a3 : ArrOfT s c3 (.object RX3) ∧ va_RA s c3 (.object RX3) := ⟨fun n z => ⟨fun k h => (by cases h), k3, g3, d3, e3⟩, k3, d3, g3, e3, f3, n3⟩
  refine ⟨fun i => if (zsh i).1 = 0 then c0 else if (zsh i).1 = 1 then c1 else if (zsh i).1 = 2 then c2 else c3, fun i ty h => ?_⟩
  dsimp only
  generalize (zsh i).1 = kd at h ⊢
  unfold zty at h
  by_cases q0 : kd = 0
  · rw [if_pos q0] at h ⊢
    cases h
    exact a0
  · rw [if_neg q0] at h ⊢
    by_cases q1 : kd = 1
    · rw [if_pos q1] at h ⊢
      cases h
      exact a1
    · rw [if_neg q1] at h ⊢
      by_cases q2 : kd = 2
      · rw [if_pos q2] at h ⊢
        cases h
        exact a2
      · rw [if_neg q2] at h ⊢
        by_cases q3 : kd = 3
        · rw [if_pos q3] at h
          cases h
          exact a3
        · rw [if_neg q3] at h
          cases h
/-- where the cells are -/
def adF (base t1 b : Nat) (i : Nat) : Nat := if i ≤ 87 then base + (i - 1) else if i = 1001 then t1 else b
theorem st_g {args : Array Value} {s : State} {b n : Nat} {xs : Nat → Int32} (hn : n ≤ 260) (hX : va_X b n xs s s.heap) (hs : ∀ c ∈ zFl, c.before args s = true) (hts : ∀ w ∈ lw_tbl, w.before args s = true) : ∃ g : zG, gz g = s.heap.size ∧ zB2 g ∧ gb g = false ∧ gad g 3000 = b ∧ va_K (gD g) vwCl (zt g) s ∧ zSt g s s.heap ∧ zAO s := by
  have hA : ∀ a : Nat, a < s.heap.size → ¬ (fun q : Nat => s.heap.size ≤ q) a := fun a h => Nat.not_le.mpr h
  obtain ⟨t1, z1, y1⟩ := st_arr (xs := zK_KIND_ABOVE) hA (hts (.laysStatic RX1 "KIND_ABOVE" "[I") (by decide +kernel)) (hts (.initialized RX1) (by decide +kernel)) (hs _ (by decide +kernel)) (hs _ (by decide +kernel)) (fun j hj => hs _ (sf_KA j hj))
  obtain ⟨dC, dI, hK⟩ := st_cls hts
  obtain ⟨ac, hac⟩ := st_arrs hts
  refine ⟨((dC, dI), s.heap.size, adF s.heap.size t1 b, ac, n, xs, false), rfl, fun i h1 h2 => ?_, rfl, rfl, ⟨hK, fun k q hq => ?_⟩, ⟨?_, ?_, hn⟩, va_AO.of (hts (.arrayOver (.object RX1)) (by decide +kernel)), va_AO.of (hts (.arrayOver (.object RX3)) (by decide +kernel))⟩
  · show adF s.heap.size t1 b i = s.heap.size + (i - 1)
    unfold adF
    exact if_pos h2
  · obtain ⟨j, -, e⟩ := List.mem_filterMap.mp (List.mem_of_getElem? hq)
    cases hz : zty (zsh (j + 1)).1 with
    | none => rw [hz] at e; cases e
    | some ty =>
      rw [hz] at e
      cases e
      exact hac (j + 1) ty hz
  · intro q hq
    simp only [zsta, List.mem_cons, List.not_mem_nil, or_false] at hq
    subst hq
    exact ⟨z1, y1⟩
  · obtain ⟨scr, h1, h2, h3, h4, h5⟩ := hX
    have hb : b < s.heap.size := (Array.getElem?_eq_some_iff.mp h1).1
    exact ⟨scr, h1, h2, h3, Nat.le_of_eq h4.symm, by rw [h4]; rfl, h5, hA b hb⟩
