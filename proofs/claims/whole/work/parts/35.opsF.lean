/-! OPERATIONS: restore -/
def nvS (x p : Int32) : Int32 := if x < 100 then if x < p then x else -1 else x
section ZRE
variable {l : Launch} {g : zG} {Q : Option zv → zI → zL → Prop} {I A : zI} {L : zL} {p q n m : Nat}
def sixR (B A : zI) (j : Nat) : Prop := B 91 j = A 100 j ∧ B 92 j = A 100 (8 + j) ∧ B 93 j = A 100 (16 + j) ∧ B 94 j = A 100 (24 + j) ∧ B 95 j = A 100 (32 + j) ∧ B 96 j = A 100 (40 + j)
theorem m_restoreAll (h0 : ¬ A 87 22 = 0) (h : ∀ A' : zI, (∀ a, a ≠ 87 → a ≠ 88 → (a < 91 ∨ 97 < a) → A' a = A a) → (∀ j, j < 8 → sixR A' A j) → (∀ x, x < 128 → A' 97 x = A 100 (48 + x)) → (A' 87 3 = A 100 176 ∧ A' 87 5 = A 100 177 ∧ A' 87 12 = A 100 178 ∧ A' 87 13 = A 100 179 ∧ A' 87 14 = A 100 180 ∧ A' 87 15 = A 100 181 ∧ A' 87 16 = A 100 182 ∧ A' 87 17 = A 100 183) → (∀ j, (j = 18 ∨ j = 20 ∨ j = 22) → A' 87 j = A 87 j) → (∀ s, s < 8 → A' 88 s = nvS (A 88 s) (A 100 177)) → Q (some (vI (A 100 177))) A' L) : Call l g 2 M_X7_restore [vR 87] A L Q := by
  refine m_X7_restore (fun k hk X E => ?_)
  rw [if_neg h0]
  refine zdown (N := 8) (P := fun c => ∀ B : zI, (∀ a, (a < 91 ∨ 96 < a) → B a = A a) → (∀ j, j < c → sixR B A j) → AW k g 2 B L 16 [(0, vR 87), (1, vI (nI c))] []) (fun B b1 b2 => ?_) (fun c hc ih B b1 b2 => ?_) (c := 0) (by omega) A (fun _ _ => rfl) (fun _ hh => absurd hh (Nat.not_lt_zero _))
  · refine s_X7_restore_16 X E ?_
    rw [if_neg (show ¬ nI 8 < 8 by decide)]
    refine zdown (N := 128) (P := fun c => ∀ C : zI, (∀ a, a ≠ 97 → C a = B a) → (∀ x, x < c → C 97 x = A 100 (48 + x)) → AW k g 2 C L 117 [(0, vR 87), (1, vI (nI c))] []) (fun C c1 c2 => ?_) (fun c hc ih C c1 c2 => ?_) (c := 0) (by omega) B (fun _ _ => rfl) (fun _ hh => absurd hh (Nat.not_lt_zero _))
    · refine s_X7_restore_117 X E ?_
      rw [if_neg (show ¬ nI 128 < 128 by decide)]
      have q0 : C 100 = A 100 := (c1 100 (by decide)).trans (b1 100 (by omega))
      have q87 : C 87 = A 87 := (c1 87 (by decide)).trans (b1 87 (by omega))
      have q88 : C 88 = A 88 := (c1 88 (by decide)).trans (b1 88 (by omega))
      rw [q0]
      intro I4 e4
      have q4 : I4 100 = A 100 := by rw [e4, zs_nec (by decide), q0]
      rw [q4]
      intro I5 e5
      have q5 : I5 100 = A 100 := by rw [e5, zs_nec (by decide), q4]
      rw [q5]
      intro I6 e6
      have q6 : I6 100 = A 100 := by rw [e6, zs_nec (by decide), q5]
      rw [q6]
      intro I7 e7
      have q7 : I7 100 = A 100 := by rw [e7, zs_nec (by decide), q6]
      rw [q7]
      intro I8 e8
      have q8 : I8 100 = A 100 := by rw [e8, zs_nec (by decide), q7]
      rw [q8]
      intro I9 e9
      have q9 : I9 100 = A 100 := by rw [e9, zs_nec (by decide), q8]
      rw [q9]
      intro I10 e10
      have q10 : I10 100 = A 100 := by rw [e10, zs_nec (by decide), q9]
      rw [q10]
      have hF : ∀ j, zs I10 87 17 (A 100 183) 87 j = if j = 17 then A 100 183 else if j = 16 then A 100 182 else if j = 15 then A 100 181 else if j = 14 then A 100 180 else if j = 13 then A 100 179 else if j = 12 then A 100 178 else if j = 5 then A 100 177 else if j = 3 then A 100 176 else A 87 j := fun j => by
        rw [zs_at, e10, zs_at, e9, zs_at, e8, zs_at, e7, zs_at, e6, zs_at, e5, zs_at, e4, zs_at, q87]
      have hO : ∀ a, a ≠ 87 → zs I10 87 17 (A 100 183) a = C a := fun a ha => by rw [zs_nec ha, e10, zs_nec ha, e9, zs_nec ha, e8, zs_nec ha, e7, zs_nec ha, e6, zs_nec ha, e5, zs_nec ha, e4, zs_nec ha]
      generalize zs I10 87 17 (A 100 183) = F at hF hO ⊢
      have f5 : F 87 5 = A 100 177 := hF 5
      refine zdown (N := 8) (P := fun c => ∀ D : zI, (∀ a, a ≠ 88 → D a = F a) → (∀ s, s < c → D 88 s = nvS (A 88 s) (A 100 177)) → (∀ s, c ≤ s → D 88 s = A 88 s) → AW k g 2 D L 243 [(0, vR 87), (1, vI (nI c))] []) (fun D d1 d2 d3 => ?_) (fun c hc ih D d1 d2 d3 => ?_) (c := 0) (by omega) F (fun _ _ => rfl) (fun _ hh => absurd hh (Nat.not_lt_zero _)) (fun s _ => by rw [hO 88 (by decide), q88])
      · refine s_X7_restore_243 X E ?_
        have d87 : D 87 = F 87 := d1 87 (by decide)
        rw [if_neg (show ¬ nI 8 < 8 by decide), d87, f5]
        refine h D (fun a h1 h2 h3 => by rw [d1 a h2, hO a h1, c1 a (by omega)]; exact b1 a (by omega)) (fun j hj => ?_) (fun x hx => by rw [d1 97 (by decide), hO 97 (by decide)]; exact c2 x hx) ?_ ?_ d2
        · unfold sixR
          rw [d1 91 (by decide), d1 92 (by decide), d1 93 (by decide), d1 94 (by decide), d1 95 (by decide), d1 96 (by decide), hO 91 (by decide), hO 92 (by decide), hO 93 (by decide), hO 94 (by decide), hO 95 (by decide), hO 96 (by decide), c1 91 (by decide), c1 92 (by decide), c1 93 (by decide), c1 94 (by decide), c1 95 (by decide), c1 96 (by decide)]
          exact b2 j hj
        · rw [d87]
          exact ⟨hF 3, hF 5, hF 12, hF 13, hF 14, hF 15, hF 16, hF 17⟩
        · rw [d87]
          rintro j (rfl | rfl | rfl)
          · exact hF 18
          · exact hF 20
          · exact hF 22
      · refine s_X7_restore_243 X E ?_
        have d87 : D 87 5 = A 100 177 := by rw [d1 87 (by decide)]; exact f5
        have c8 : (nI c).toNatClampNeg = c := zcl (by omega)
        unfold v_X7_isRow
        rw [if_pos (n8 hc), c8, d87, d3 c (Nat.le_refl _), ← nI_succ]
        refine ⟨zvin hc (by decide), ?_⟩
        by_cases x1 : A 88 c < 100
        · rw [if_pos x1, if_pos rfl]
          refine ⟨zvin hc (by decide), ?_⟩
          by_cases x2 : A 88 c < A 100 177
          · rw [if_pos x2]
            refine ih D d1 (fun s hs => ?_) (fun s hs => d3 s (by omega))
            by_cases e : s = c
            · rw [e, d3 c (Nat.le_refl _)]
              unfold nvS
              rw [if_pos x1, if_pos x2]
            · exact d2 s (by omega)
          · rw [if_neg x2]
            refine ih _ (fun a ha => by rw [zs_nec ha]; exact d1 a ha) (fun s hs => ?_) (fun s hs => by rw [zs_ne (fun z => by omega)]; exact d3 s (by omega))
            by_cases e : s = c
            · rw [e, zs_same]
              unfold nvS
              rw [if_pos x1, if_neg x2]
            · rw [zs_ne (fun z => e z.2)]
              exact d2 s (by omega)
        · rw [if_neg x1, if_neg (by decide)]
          refine ih D d1 (fun s hs => ?_) (fun s hs => d3 s (by omega))
          by_cases e : s = c
          · rw [e, d3 c (Nat.le_refl _)]
            unfold nvS
            rw [if_neg x1]
          · exact d2 s (by omega)
    · refine s_X7_restore_117 X E ?_
      rw [if_pos (show nI c < 128 from (nI_lt hc (by decide) : nI c < nI 128)), show (48 : Int32) + nI c = nI (48 + c) from nI_add 48 c, zcl (by omega), zcl (by omega), ← nI_succ]
      refine ⟨zvin (by omega) (by decide), zvin hc (by decide), ih _ (fun a ha => by rw [zs_nec ha]; exact c1 a ha) (fun x hx => ?_)⟩
      by_cases e : x = c
      · rw [e, zs_same, c1 100 (by decide), b1 100 (by omega)]
      · rw [zs_ne (fun z => by omega)]
        exact c2 x (by omega)
  · refine s_X7_restore_16 X E ?_
    rw [if_pos (n8 hc), zcl (by omega), show (8 : Int32) + nI c = nI (8 + c) from nI_add 8 c, show (16 : Int32) + nI c = nI (16 + c) from nI_add 16 c, show (24 : Int32) + nI c = nI (24 + c) from nI_add 24 c, show (32 : Int32) + nI c = nI (32 + c) from nI_add 32 c, show (40 : Int32) + nI c = nI (40 + c) from nI_add 40 c, zcl (show 8 + c < 2147483648 by omega), zcl (show 16 + c < 2147483648 by omega), zcl (show 24 + c < 2147483648 by omega), zcl (show 32 + c < 2147483648 by omega), zcl (show 40 + c < 2147483648 by omega), ← nI_succ]
    have b100 : B 100 = A 100 := b1 100 (by omega)
    refine ⟨zvin (by omega) (by decide), zvin hc (by decide), ?_⟩
    rw [b100]
    intro I4 e4
    have o4 : I4 100 = A 100 := by rw [e4, zs_nec (by decide), b100]
    refine ⟨zvin (by omega) (by decide), ?_⟩
    rw [o4]
    intro I6 e6
    have o6 : I6 100 = A 100 := by rw [e6, zs_nec (by decide), o4]
    refine ⟨zvin (by omega) (by decide), ?_⟩
    rw [o6]
    intro I8 e8
    have o8 : I8 100 = A 100 := by rw [e8, zs_nec (by decide), o6]
    refine ⟨zvin (by omega) (by decide), ?_⟩
    rw [o8]
    intro I10 e10
    have o10 : I10 100 = A 100 := by rw [e10, zs_nec (by decide), o8]
    refine ⟨zvin (by omega) (by decide), ?_⟩
    rw [o10]
    intro I12 e12
    have o12 : I12 100 = A 100 := by rw [e12, zs_nec (by decide), o10]
    refine ⟨zvin (by omega) (by decide), ?_⟩
    rw [o12]
    refine ih _ (fun a ha => by rw [zs_nec (by omega), e12, zs_nec (by omega), e10, zs_nec (by omega), e8, zs_nec (by omega), e6, zs_nec (by omega), e4, zs_nec (by omega)]; exact b1 a ha) (fun j hj => ?_)
    have u1 : zs I12 96 c (A 100 (40 + c)) 91 j = if j = c then A 100 c else B 91 j := by rw [zs_nec (by decide), e12, zs_nec (by decide), e10, zs_nec (by decide), e8, zs_nec (by decide), e6, zs_nec (by decide), e4, zs_at]
    have u2 : zs I12 96 c (A 100 (40 + c)) 92 j = if j = c then A 100 (8 + c) else B 92 j := by rw [zs_nec (by decide), e12, zs_nec (by decide), e10, zs_nec (by decide), e8, zs_nec (by decide), e6, zs_at, e4, zs_nec (by decide)]
    have u3 : zs I12 96 c (A 100 (40 + c)) 93 j = if j = c then A 100 (16 + c) else B 93 j := by rw [zs_nec (by decide), e12, zs_nec (by decide), e10, zs_nec (by decide), e8, zs_at, e6, zs_nec (by decide), e4, zs_nec (by decide)]
    have u4 : zs I12 96 c (A 100 (40 + c)) 94 j = if j = c then A 100 (24 + c) else B 94 j := by rw [zs_nec (by decide), e12, zs_nec (by decide), e10, zs_at, e8, zs_nec (by decide), e6, zs_nec (by decide), e4, zs_nec (by decide)]
    have u5 : zs I12 96 c (A 100 (40 + c)) 95 j = if j = c then A 100 (32 + c) else B 95 j := by rw [zs_nec (by decide), e12, zs_at, e10, zs_nec (by decide), e8, zs_nec (by decide), e6, zs_nec (by decide), e4, zs_nec (by decide)]
    have u6 : zs I12 96 c (A 100 (40 + c)) 96 j = if j = c then A 100 (40 + c) else B 96 j := by rw [zs_at, e12, zs_nec (by decide), e10, zs_nec (by decide), e8, zs_nec (by decide), e6, zs_nec (by decide), e4, zs_nec (by decide)]
    unfold sixR
    rw [u1, u2, u3, u4, u5, u6]
    by_cases e : j = c
    · rw [if_pos e, if_pos e, if_pos e, if_pos e, if_pos e, if_pos e, e]
      exact ⟨rfl, rfl, rfl, rfl, rfl, rfl⟩
    · rw [if_neg e, if_neg e, if_neg e, if_neg e, if_neg e, if_neg e]
      exact b2 j (by omega)
/-- the class's shelves after a restoring -/
def shR (B I : zI) (m s : Nat) : Prop := if I (66 + 2 * s) 4 = 1 then B (66 + 2 * s) = I (66 + 2 * s) else B (66 + 2 * s) 4 = 0 ∧ B (66 + 2 * s) 2 = 0 ∧ B (66 + 2 * s) 3 = nvS (I (66 + 2 * s) 3) (nI m)
theorem nvS_m1 {m : Nat} (hm : m ≤ 8) : nvS (-1) (nI m) = -1 := by
  unfold nvS
  rw [if_pos (by decide), if_pos]
  rw [i_lt, n_toInt (by omega)]
  show (-1 : Int) < m
  omega
theorem nvS_n {q m : Nat} (hq : q ≤ 8) (hm : m ≤ 8) : nvS (nI q) (nI m) = if q < m then nI q else -1 := by
  unfold nvS
  rw [if_pos (show nI q < 100 from (nI_lt (show q < 100 by omega) (by decide) : nI q < nI 100))]
  by_cases h : q < m
  · rw [if_pos (nI_lt h (by omega)), if_pos h]
  · rw [if_neg (nI_nlt (by omega) (by omega)), if_neg h]
theorem nvS_in {q m : Nat} (hq : q ≤ 8) (hm : m ≤ 8) : nvS (nI q) (nI m) = -1 ∨ ∃ i, i < m ∧ nvS (nI q) (nI m) = nI i := by
  rw [nvS_n hq hm]
  by_cases h : q < m
  · rw [if_pos h]; exact Or.inr ⟨q, h, rfl⟩
  · rw [if_neg h]; exact Or.inl rfl
end ZRE
theorem sim_restore : Sim M_X6_restore 4 M_X7_restore 2 [] := by
  rintro l g I L ⟨n, m, h⟩
  have hm : m ≤ 8 := h.1.2.1
  refine m_X6_restore (fun k hk X E => ?_)
  obtain ⟨i1, i2⟩ := h.2.1
  rcases i2 with i2 | ⟨i2, n', m', i3⟩
  · rw [if_pos i2, hk]
    exact both_no (k := 6) (by decide) rfl h (fun Q hq => m_X7_restore (fun k hk X E => by rw [if_pos (show rf1 I 6 87 22 = 0 from i1.symm.trans i2), hk]; exact hq))
  rw [if_neg (ne0 i2)]
  have hn' : n' ≤ 8 := i3.1
  have hm' : m' ≤ 8 := i3.2.1
  have r100 : I 100 177 = nI m' := i3.2.2.2.1.2
  refine c_streetAll (p := 2) (q := 21) (by decide) (by decide) (by decide) i3 (fun A g1 g2 => ⟨rfl, ?_⟩)
  have a3 : A 2 3 = nI m' := g2.2.2.2.1.1
  have eA : ∀ a, 20 < a → A a = I a := fun a ha => g1 a (by omega)
  refine zdown (N := 8) (P := fun c => ∀ B : zI, (∀ a, (∀ s, s < 8 → a ≠ 66 + 2 * s) → B a = A a) → (∀ s, s < c → shR B I m' s) → (∀ s, c ≤ s → s < 8 → B (66 + 2 * s) = I (66 + 2 * s)) → AW k g 3 B L 27 [(0, vR 1), (1, vI (nI c))] []) (fun B b1 b2 b3 => ?_) (fun c hc ih B b1 b2 b3 => ?_) (c := 0) (by omega) A (fun _ _ => rfl) (fun _ hh => absurd hh (Nat.not_lt_zero _)) (fun s _ hs => eA _ (by omega))
  · refine s_X6_restore_27 X E ?_
    have o2 : ∀ a, (a < 66 ∨ 81 < a) → B a = A a := fun a ha => b1 a (fun s hs => by omega)
    have oI : ∀ a, 20 < a → (a < 66 ∨ 81 < a) → B a = I a := fun a h1 h2 => (o2 a h2).trans (eA a h1)
    rw [if_neg (show ¬ nI 8 < 8 by decide), o2 2 (by omega), a3]
    refine ⟨_, rfl, m_restoreAll (by rw [oI 87 (by decide) (by decide)]; rw [← i1]; exact ne0 i2) (fun F k1 k2 k3 k4 k5 k6 => ⟨_, rfl, ?_, n', m', ?_⟩)⟩
    · rw [oI 100 (by decide) (by decide), r100]
    rw [oI 100 (by decide) (by decide)] at k3 k4 k6
    rw [oI 87 (by decide) (by decide)] at k5
    rw [oI 88 (by decide) (by decide)] at k6
    have oF : ∀ a, 20 < a → (a < 66 ∨ 81 < a) → a ≠ 87 → a ≠ 88 → (a < 91 ∨ 97 < a) → F a = I a := fun a h1 h2 h3 h4 h5 => (k1 a h3 h4 h5).trans (oI a h1 h2)
    obtain ⟨a1, a2, a3', a4, a5, a6⟩ := h
    refine ⟨?_, ⟨?_, ?_⟩, fun s hs => ?_, ?_, ?_, ?_⟩
    · unfold RC
      obtain ⟨t0, t1, t2, t3, t4, t5, t6, t7⟩ := k4
      rw [t0, t1, t2, t3, t4, t5, t6, t7]
      refine RS_fun (RS_cong (I := A) (fun a ha hb => by rw [k1 a (by omega) (by omega) (by omega)]; exact o2 a (by omega)) g2) (fun j hj => ?_) k3
      have := k2 j hj
      unfold sixR at this
      rw [oI 100 (by decide) (by decide)] at this
      exact this
    · rw [k1 1 (by decide) (by decide) (by decide), o2 1 (by decide), g1 1 (by decide), k5 22 (by simp)]
      exact i1
    · rw [k1 1 (by decide) (by decide) (by decide), o2 1 (by decide), g1 1 (by decide)]
      refine Or.inr ⟨i2, n', m', ?_⟩
      unfold RO at *
      rw [oF 100 (by decide) (by decide) (by decide) (by decide) (by decide)]
      exact RS_cong (fun a ha hb => oF a (by omega) (by omega) (by omega) (by omega) (by omega)) i3
    · have hb := b2 s hs
      have hB : F (66 + 2 * s) = B (66 + 2 * s) := k1 _ (by omega) (by omega) (by omega)
      unfold shR at hb
      rcases a3' s hs with ⟨r1, ⟨z, hz, r2⟩, r3, r4, r5, r6⟩ | ⟨r1, r2, r3, r4⟩
      · rw [if_pos r1] at hb
        have e88 : F 88 s = I 88 s := by
          rw [k6 s hs]
          unfold nvS
          rw [if_neg]
          rw [r3, r2, show (100 : Int32) = nI 100 from rfl, nI_add]
          exact nI_nlt (by omega) (by omega)
        refine Or.inl ?_
        unfold v_X3_lowestBits
        rw [hB, hb, e88, k1 89 (by decide) (by decide) (by decide), oI 89 (by decide) (by decide)]
        exact ⟨r1, ⟨z, hz, r2⟩, r3, r4, r5, r6⟩
      · rw [if_neg (by rw [r1]; decide)] at hb
        refine Or.inr ?_
        rw [hB, hb.1, hb.2.1, hb.2.2, k6 s hs, r3, r100]
        refine ⟨rfl, rfl, rfl, ?_⟩
        rcases r4 with e | ⟨q, hq, e⟩
        · rw [e, nvS_m1 hm']; exact Or.inl rfl
        · rw [e]; exact nvS_in (by omega) hm'
    · unfold RF at *
      rw [oF 86 (by decide) (by decide) (by decide) (by decide) (by decide), oF 98 (by decide) (by decide) (by decide) (by decide) (by decide)]
      exact a4
    · rw [oF 82 (by decide) (by decide) (by decide) (by decide) (by decide), k5 18 (by simp)]
      exact a5
    · unfold RA at *
      rw [oF 84 (by decide) (by decide) (by decide) (by decide) (by decide), k5 20 (by simp), oF 85 (by decide) (by decide) (by decide) (by decide) (by decide), oF 99 (by decide) (by decide) (by decide) (by decide) (by decide)]
      exact a6
  · refine s_X6_restore_27 X E ?_
    have o2 : B 2 = A 2 := b1 2 (fun s hs => by omega)
    have hB : B (66 + 2 * c) = I (66 + 2 * c) := b3 c (Nat.le_refl _) hc
    rw [if_pos (n8 hc), zcl (by omega), ← nI_succ]
    refine ⟨zvin hc (by decide), ?_⟩
    unfold v_X3_hasPane
    rw [hB]
    have keep : shR B I m' c → AW k g 3 B L 27 [(0, vR 1), (1, vI (nI (c + 1)))] [] := fun hs => ih B b1 (fun s hs' => by
      by_cases e : s = c
      · rw [e]; exact hs
      · exact b2 s (by omega)) (fun s h1 h2 => b3 s (by omega) h2)
    rcases h.2.2.1 c hc with ⟨r1, -⟩ | ⟨r1, r2, r3, r4⟩
    · rw [if_neg (show ¬ I (66 + 2 * c) 4 = 0 by rw [r1]; decide), if_pos rfl]
      refine keep ?_
      unfold shR
      rw [if_pos r1]
      exact hB
    · have r1' : ¬ I (66 + 2 * c) 4 = 1 := by rw [r1]; decide
      rw [if_pos r1]
      rcases r4 with e | ⟨q, hq, e⟩
      · rw [if_pos e, if_pos rfl]
        refine keep ?_
        unfold shR
        rw [if_neg r1', hB, e, nvS_m1 hm']
        exact ⟨r1, r2, rfl⟩
      · rw [if_neg (show ¬ I (66 + 2 * c) 3 = -1 from fun e1 => n_neg (a := -1) (by decide) q (by omega) (e1.symm.trans e)), if_neg (by decide), e]
        rcases paneAt_g (I := B) (s := 2) (m := m') (i := q) (by rw [o2]; exact a3) hm' (by omega) with ⟨w1, w2⟩ | ⟨w1, w2⟩
        · rw [w2, if_neg (by omega)]
          refine keep ?_
          unfold shR
          rw [if_neg r1', hB, e, nvS_n (by omega) hm', if_pos w1]
          exact ⟨r1, r2, rfl⟩
        · rw [w2, if_pos rfl]
          refine m_X3_takeNothing (zshS c hc) ?_
          rintro I1 rfl I2 rfl
          refine ⟨rfl, ih _ (fun a ha => by rw [zs_nec (ha c hc), zs_nec (ha c hc), zs_nec (ha c hc)]; exact b1 a ha) (fun s hs => ?_) (fun s h1 h2 => by rw [zs_nec (by omega), zs_nec (by omega), zs_nec (by omega)]; exact b3 s (by omega) h2)⟩
          by_cases es : s = c
          · subst es
            unfold shR
            rw [if_neg r1', e, nvS_n (by omega) hm', if_neg (by omega), zs_same]
            refine ⟨?_, ?_, rfl⟩
            · rw [zs_ne (by omega), zs_ne (by omega), zs_same]
            · rw [zs_ne (by omega), zs_same]
          · have := b2 s (by omega)
            unfold shR at *
            rw [zs_nec (show 66 + 2 * s ≠ 66 + 2 * c by omega), zs_nec (show 66 + 2 * s ≠ 66 + 2 * c by omega), zs_nec (show 66 + 2 * s ≠ 66 + 2 * c by omega)]
            exact this
