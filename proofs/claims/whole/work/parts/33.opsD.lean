/-! OPERATIONS: breath, copy -/
def nearB (y c : Nat) : Bool := decide (¬ 1 < jabs (nI c / 4 - nI y / 4) + jabs (jrem (nI c) 4 - jrem (nI y) 4))
/-- the cells beside and the cell, below n, from above -/
def nearL (y : Nat) : Nat → List Nat
  | 0 => []
  | n + 1 => if nearB y n = true then n :: nearL y n else nearL y n
def brL (x : Int32) : List Nat → Int32
  | [] => 0
  | j :: r => if bt x j then brL x r + 1 else brL x r
/-- the reference's count -/
def brc (f : Nat → Int32) (y : Nat) : Nat → Int32
  | 0 => 0
  | n + 1 => if nearB y n = true then if f n = 0 then brc f y n else brc f y n + 1 else brc f y n
theorem brc_L {f : Nat → Int32} {y : Nat} (hf : ∀ c, c < 16 → zle 20 (f c)) : ∀ n, n ≤ 16 → brc f y n = brL (frost f 16) (nearL y n)
  | 0, _ => rfl
  | n + 1, h => by
    have ih := brc_L (y := y) hf n (by omega)
    unfold brc nearL
    have hb := frost_bt f 16 (by decide) n (by omega)
    obtain ⟨v, hv, e⟩ := hf n (by omega)
    cases hn : nearB y n
    · rw [if_neg (by decide), if_neg (by decide)]
      exact ih
    · rw [if_pos rfl, if_pos rfl]
      show _ = if bt (frost f 16) n then brL (frost f 16) (nearL y n) + 1 else brL (frost f 16) (nearL y n)
      rw [hb, decide_eq_true (show n < 16 by omega), Bool.true_and, ← ih]
      by_cases e0 : v = 0
      · subst e0
        rw [if_pos (show f n = 0 from e), e, if_neg (by decide)]
      · rw [if_neg (by rw [e, show (0 : Int32) = nI 0 from rfl, n_eq (by omega) (by omega)]; exact e0), if_pos]
        rw [e]
        exact decide_eq_true (by rw [show (0 : Int32) = nI 0 from rfl, n_lt (by omega) (by omega)]; omega)
abbrev brM (y : Nat) : Int32 := v_X1_cellsBeside (nI y) ||| jshl 1 (nI y)
theorem brM_bt : ∀ y, y < 16 → ∀ i, i < 32 → bt (brM y) i = decide (i ∈ nearL y 16) := by decide +kernel
theorem nearL_lt : ∀ y, y < 16 → ∀ j ∈ nearL y 16, j < 16 := by decide +kernel
theorem brM_cell : ∀ y, y < 16 → ∀ c, c < 16 → decide (v_X1_hasCell (brM y) (nI c) = 0) = !nearB y c := by decide +kernel
theorem brM_and (x : Int32) {y : Nat} (hy : y < 16) : x &&& brM y = orl x (nearL y 16) := by
  refine b_ext (fun i hi => ?_)
  rw [b_and, brM_bt y hy i hi, orl_bt (fun j hj => by have := nearL_lt y hy j hj; omega) i hi, Bool.and_comm]
theorem brv_0 (x : Int32) : bc (orl x (nearL 0 16)) = brL x (nearL 0 16) := by
  rw [show nearL 0 16 = [4, 1, 0] by decide +kernel]
  simp only [orl, brL]
  cases bt x 4 <;> cases bt x 1 <;> cases bt x 0 <;> decide +kernel
theorem brv_1 (x : Int32) : bc (orl x (nearL 1 16)) = brL x (nearL 1 16) := by
  rw [show nearL 1 16 = [5, 2, 1, 0] by decide +kernel]
  simp only [orl, brL]
  cases bt x 5 <;> cases bt x 2 <;> cases bt x 1 <;> cases bt x 0 <;> decide +kernel
theorem brv_2 (x : Int32) : bc (orl x (nearL 2 16)) = brL x (nearL 2 16) := by
  rw [show nearL 2 16 = [6, 3, 2, 1] by decide +kernel]
  simp only [orl, brL]
  cases bt x 6 <;> cases bt x 3 <;> cases bt x 2 <;> cases bt x 1 <;> decide +kernel
theorem brv_3 (x : Int32) : bc (orl x (nearL 3 16)) = brL x (nearL 3 16) := by
  rw [show nearL 3 16 = [7, 3, 2] by decide +kernel]
  simp only [orl, brL]
  cases bt x 7 <;> cases bt x 3 <;> cases bt x 2 <;> decide +kernel
theorem brv_4 (x : Int32) : bc (orl x (nearL 4 16)) = brL x (nearL 4 16) := by
  rw [show nearL 4 16 = [8, 5, 4, 0] by decide +kernel]
  simp only [orl, brL]
  cases bt x 8 <;> cases bt x 5 <;> cases bt x 4 <;> cases bt x 0 <;> decide +kernel
theorem brv_5 (x : Int32) : bc (orl x (nearL 5 16)) = brL x (nearL 5 16) := by
  rw [show nearL 5 16 = [9, 6, 5, 4, 1] by decide +kernel]
  simp only [orl, brL]
  cases bt x 9 <;> cases bt x 6 <;> cases bt x 5 <;> cases bt x 4 <;> cases bt x 1 <;> decide +kernel
theorem brv_6 (x : Int32) : bc (orl x (nearL 6 16)) = brL x (nearL 6 16) := by
  rw [show nearL 6 16 = [10, 7, 6, 5, 2] by decide +kernel]
  simp only [orl, brL]
  cases bt x 10 <;> cases bt x 7 <;> cases bt x 6 <;> cases bt x 5 <;> cases bt x 2 <;> decide +kernel
theorem brv_7 (x : Int32) : bc (orl x (nearL 7 16)) = brL x (nearL 7 16) := by
  rw [show nearL 7 16 = [11, 7, 6, 3] by decide +kernel]
  simp only [orl, brL]
  cases bt x 11 <;> cases bt x 7 <;> cases bt x 6 <;> cases bt x 3 <;> decide +kernel
theorem brv_8 (x : Int32) : bc (orl x (nearL 8 16)) = brL x (nearL 8 16) := by
  rw [show nearL 8 16 = [12, 9, 8, 4] by decide +kernel]
  simp only [orl, brL]
  cases bt x 12 <;> cases bt x 9 <;> cases bt x 8 <;> cases bt x 4 <;> decide +kernel
theorem brv_9 (x : Int32) : bc (orl x (nearL 9 16)) = brL x (nearL 9 16) := by
  rw [show nearL 9 16 = [13, 10, 9, 8, 5] by decide +kernel]
  simp only [orl, brL]
  cases bt x 13 <;> cases bt x 10 <;> cases bt x 9 <;> cases bt x 8 <;> cases bt x 5 <;> decide +kernel
theorem brv_10 (x : Int32) : bc (orl x (nearL 10 16)) = brL x (nearL 10 16) := by
  rw [show nearL 10 16 = [14, 11, 10, 9, 6] by decide +kernel]
  simp only [orl, brL]
  cases bt x 14 <;> cases bt x 11 <;> cases bt x 10 <;> cases bt x 9 <;> cases bt x 6 <;> decide +kernel
theorem brv_11 (x : Int32) : bc (orl x (nearL 11 16)) = brL x (nearL 11 16) := by
  rw [show nearL 11 16 = [15, 11, 10, 7] by decide +kernel]
  simp only [orl, brL]
  cases bt x 15 <;> cases bt x 11 <;> cases bt x 10 <;> cases bt x 7 <;> decide +kernel
theorem brv_12 (x : Int32) : bc (orl x (nearL 12 16)) = brL x (nearL 12 16) := by
  rw [show nearL 12 16 = [13, 12, 8] by decide +kernel]
  simp only [orl, brL]
  cases bt x 13 <;> cases bt x 12 <;> cases bt x 8 <;> decide +kernel
theorem brv_13 (x : Int32) : bc (orl x (nearL 13 16)) = brL x (nearL 13 16) := by
  rw [show nearL 13 16 = [14, 13, 12, 9] by decide +kernel]
  simp only [orl, brL]
  cases bt x 14 <;> cases bt x 13 <;> cases bt x 12 <;> cases bt x 9 <;> decide +kernel
theorem brv_14 (x : Int32) : bc (orl x (nearL 14 16)) = brL x (nearL 14 16) := by
  rw [show nearL 14 16 = [15, 14, 13, 10] by decide +kernel]
  simp only [orl, brL]
  cases bt x 15 <;> cases bt x 14 <;> cases bt x 13 <;> cases bt x 10 <;> decide +kernel
theorem brv_15 (x : Int32) : bc (orl x (nearL 15 16)) = brL x (nearL 15 16) := by
  rw [show nearL 15 16 = [15, 14, 11] by decide +kernel]
  simp only [orl, brL]
  cases bt x 15 <;> cases bt x 14 <;> cases bt x 11 <;> decide +kernel
theorem brv (x : Int32) {y : Nat} (hy : y < 16) : bc (orl x (nearL y 16)) = brL x (nearL y 16) := by
  have h : y = 0 ∨ y = 1 ∨ y = 2 ∨ y = 3 ∨ y = 4 ∨ y = 5 ∨ y = 6 ∨ y = 7 ∨ y = 8 ∨ y = 9 ∨ y = 10 ∨ y = 11 ∨ y = 12 ∨ y = 13 ∨ y = 14 ∨ y = 15 := by omega
  rcases h with rfl | rfl | rfl | rfl | rfl | rfl | rfl | rfl | rfl | rfl | rfl | rfl | rfl | rfl | rfl | rfl
  · exact brv_0 x
  · exact brv_1 x
  · exact brv_2 x
  · exact brv_3 x
  · exact brv_4 x
  · exact brv_5 x
  · exact brv_6 x
  · exact brv_7 x
  · exact brv_8 x
  · exact brv_9 x
  · exact brv_10 x
  · exact brv_11 x
  · exact brv_12 x
  · exact brv_13 x
  · exact brv_14 x
  · exact brv_15 x
theorem brc_eq {f : Nat → Int32} {y : Nat} (hy : y < 16) (hf : ∀ c, c < 16 → zle 20 (f c)) : bc (frost f 16 &&& brM y) = brc f y 16 := by
  rw [brM_and _ hy, brv _ hy, brc_L hf 16 (Nat.le_refl _)]
theorem brc_cong {f f2 : Nat → Int32} {y : Nat} : ∀ n, (∀ c, c < n → f c = f2 c) → brc f y n = brc f2 y n
  | 0, _ => rfl
  | n + 1, h => by
    unfold brc
    rw [brc_cong n (fun c hc => h c (by omega)), h n (by omega)]
theorem sim_breath (a1 a2 : Int32) : Sim M_X6_breath 3 M_X7_breath 3 [vI a1, vI a2] := by
  rintro l g I L ⟨n, m, h⟩
  obtain ⟨hW, hN, hn, hm, e2, e2', e3, e3', e4, e5, e6, hf⟩ := Rn_wx h
  refine m_X6_breath ?_
  rcases pane_cases hm e3 e3' a1 with ⟨c1, c2⟩ | ⟨i, hi, rfl, c1, c2⟩
  · rw [if_pos c1]
    exact both_no (k := 1) (by decide) rfl h (fun Q hq => m_X7_breath (fun k hk X E => by rw [if_pos (show v_X7_isPane (rf1 I 1) a1 = 0 from c2), hk]; exact hq))
  rw [if_neg (by rw [c1]; omega), c1]
  rcases cell_cases a2 with ⟨b1, b2⟩ | ⟨y, hy, rfl, b1, b2⟩
  · rw [if_pos b1]
    exact both_no (k := 5) (by decide) rfl h (fun Q hq => m_X7_breath (fun k hk X E => by rw [if_neg (show ¬ v_X7_isPane (rf1 I 5) (nI i) = 0 from ne0 c2), if_pos b2, hk]; exact hq))
  rw [if_neg (ne0 b1)]
  obtain ⟨⟨i8, z0, z1, z2⟩, p0, p1, p2, p3, p4, p5, p6⟩ := Rn_pane h hi
  refine m_X1_breatheOn (zshP i i8) (fun k hk X E => ?_)
  have ef : v_X1_frosted I (5 + 2 * i) = frost (fun c => I 97 (16 * i + c)) 16 := frost_cong (fun c hc => by rw [show 5 + 2 * i + 1 = 6 + 2 * i by omega]; exact (p6 c hc).1)
  rw [ef]
  rw [show v_J6_bitCount_0f7a4 (frost (fun c => I 97 (16 * i + c)) 16 &&& (v_X1_cellsBeside (nI y) ||| jshl 1 (nI y))) = brc (fun c => I 97 (16 * i + c)) y 16 from brc_eq hy (fun c hc => (p6 c hc).2)]
  refine zdown (N := 16) (P := fun c => ∀ A : zI, (∀ a, a ≠ 6 + 2 * i → A a = I a) → (∀ j, j < c → A (6 + 2 * i) j = if nearB y j = true then 0 else I (6 + 2 * i) j) → (∀ j, c ≤ j → A (6 + 2 * i) j = I (6 + 2 * i) j) → AW k g 5 A L 22 [(0, vR (5 + 2 * i)), (2, vI (v_X1_cellsBeside (nI y) ||| jshl 1 (nI y))), (3, vI (brc (fun c => I 97 (16 * i + c)) y 16)), (4, vI (nI c))] []) (fun A h1 h2 h3 => ?_) (fun c hc ih A h1 h2 h3 => ?_) (c := 0) (by omega) I (fun _ _ => rfl) (fun _ hh => absurd hh (Nat.not_lt_zero _)) (fun _ _ => rfl)
  · refine s_X1_breatheOn_22 (zshP i i8) X E ?_
    rw [if_neg (show ¬ nI 16 < 16 by decide)]
    refine ⟨_, rfl, _, rfl, ?_⟩
    refine m_X7_breath (fun k2 hk2 X2 E2 => ?_)
    rw [if_neg (by rw [tP (h1 87 (by omega))]; exact ne0 c2), if_neg (ne0 b2)]
    refine zdown (N := 16) (P := fun c => ∀ B : zI, (∀ a, a ≠ 97 → B a = A a) → (∀ j, j < c → B 97 (16 * i + j) = if nearB y j = true then 0 else I 97 (16 * i + j)) → (∀ x, (x < 16 * i ∨ 16 * i + c ≤ x) → B 97 x = I 97 x) → AW k2 g 6 B L 36 [(0, vR 87), (1, vI (nI i)), (2, vI (nI y)), (3, vI (brc (fun c => I 97 (16 * i + c)) y c)), (4, vI (nI c))] []) (fun B k1 k2' k3 => ?_) (fun c hc ih B k1 k2' k3 => ?_) (c := 0) (by omega) A (fun _ _ => rfl) (fun _ hh => absurd hh (Nat.not_lt_zero _)) (fun x _ => by rw [h1 97 (by omega)])
    · refine s_X7_breath_36 X2 E2 ?_
      rw [if_neg (show ¬ nI 16 < 16 by decide)]
      have q : ∀ a, a ≠ 97 → a ≠ 6 + 2 * i → B a = I a := fun a ha hb => (k1 a ha).trans (h1 a hb)
      refine ⟨_, rfl, rfl, n, m, Rn_one h hi (fun a _ s2 s3 s4 => q a (by omega) s3) (fun j hj hji => by rw [q 92 (by omega) (by omega), q 93 (by omega) (by omega), q 94 (by omega) (by omega), q 95 (by omega) (by omega), q 96 (by omega) (by omega)]; exact ⟨rfl, rfl, rfl, rfl, rfl⟩) (fun x hx => k3 x hx) ?_⟩
      obtain ⟨q0, q1, q2, q3, q4, q5⟩ := Rn_RPn h hi
      unfold RPn
      rw [q (5 + 2 * i) (by omega) (by omega), q 92 (by omega) (by omega), q 93 (by omega) (by omega), q 94 (by omega) (by omega), q 95 (by omega) (by omega), q 96 (by omega) (by omega)]
      refine ⟨q0, q1, q2, q3, q4, fun c hc => ?_⟩
      dsimp only
      rw [show 5 + 2 * i + 1 = 6 + 2 * i by omega, k1 (6 + 2 * i) (by omega), h2 c hc, k2' c hc, (p6 c hc).1]
      refine ⟨rfl, ?_⟩
      split
      · exact ⟨0, by decide, rfl⟩
      · exact (p6 c hc).2
    · refine s_X7_breath_36 X2 E2 ?_
      have e1 : 16 * nI i + nI c = nI (16 * i + c) := by rw [show (16 : Int32) = nI 16 from rfl, pk_mul, nI_add]
      rw [if_pos (n16 hc), e1, zcl (by omega), ← nI_succ, k3 (16 * i + c) (by omega)]
      have ihS : ∀ B : zI, (∀ a, a ≠ 97 → B a = A a) → (∀ j, j < c + 1 → B 97 (16 * i + j) = if nearB y j = true then 0 else I 97 (16 * i + j)) → (∀ x, (x < 16 * i ∨ 16 * i + (c + 1) ≤ x) → B 97 x = I 97 x) → AW k2 g 6 B L 36 [(0, vR 87), (1, vI (nI i)), (2, vI (nI y)), (3, vI (if nearB y c = true then if I 97 (16 * i + c) = 0 then brc (fun c => I 97 (16 * i + c)) y c else brc (fun c => I 97 (16 * i + c)) y c + 1 else brc (fun c => I 97 (16 * i + c)) y c)), (4, vI (nI (c + 1)))] [] := ih
      cases hnr : nearB y c
      · rw [if_pos (Decidable.not_not.mp (of_decide_eq_false hnr))]
        rw [hnr, if_neg (by decide)] at ihS
        refine ihS B k1 (fun j hj => ?_) (fun x hx => k3 x (by omega))
        by_cases e : j = c
        · rw [e, hnr, if_neg (by decide), k3 _ (by omega)]
        · exact k2' j (by omega)
      · rw [if_neg (of_decide_eq_true hnr)]
        rw [hnr, if_pos rfl] at ihS
        refine ⟨zvin (by omega) (by decide), ?_⟩
        by_cases h0 : I 97 (16 * i + c) = 0
        · rw [if_pos h0] at ihS ⊢
          refine ihS B k1 (fun j hj => ?_) (fun x hx => k3 x (by omega))
          by_cases e : j = c
          · rw [e, hnr, if_pos rfl, k3 _ (by omega), h0]
          · exact k2' j (by omega)
        · rw [if_neg h0] at ihS ⊢
          refine ihS _ (fun a ha => by rw [zs_nec ha]; exact k1 a ha) (fun j hj => ?_) (fun x hx => by rw [zs_ne (fun z => by omega)]; exact k3 x (by omega))
          by_cases e : j = c
          · rw [e, zs_same, hnr, if_pos rfl]
          · rw [zs_ne (fun z => by omega)]
            exact k2' j (by omega)
  · refine s_X1_breatheOn_22 (zshP i i8) X E ?_
    have hcell := brM_cell y hy c hc
    rw [if_pos (n16 hc), zcl (by omega), ← nI_succ, show 5 + 2 * i + 1 = 6 + 2 * i by omega]
    cases hnr : nearB y c
    · rw [hnr] at hcell
      rw [if_pos (show v_X1_hasCell (v_X1_cellsBeside (nI y) ||| jshl 1 (nI y)) (nI c) = 0 from of_decide_eq_true hcell)]
      refine ih A h1 (fun j hj => ?_) (fun j hj => h3 j (by omega))
      by_cases e : j = c
      · rw [e, hnr, if_neg (by decide)]
        exact h3 c (Nat.le_refl _)
      · exact h2 j (by omega)
    · rw [hnr] at hcell
      rw [if_neg (show ¬ v_X1_hasCell (v_X1_cellsBeside (nI y) ||| jshl 1 (nI y)) (nI c) = 0 from of_decide_eq_false hcell)]
      refine ⟨zvin hc (by decide), ih _ (fun a ha => by rw [zs_nec ha]; exact h1 a ha) (fun j hj => ?_) (fun j hj => by rw [zs_ne (fun z => by omega)]; exact h3 j (by omega))⟩
      by_cases e : j = c
      · rw [e, zs_same, hnr, if_pos rfl]
      · rw [zs_ne (fun z => e z.2)]
        exact h2 j (by omega)
/-! copies of elements -/
def cpx (L : zL) (A B i j lo hi : Nat) : zL := fun a x => if a = B ∧ j + lo ≤ x ∧ x < j + hi then L A (i + (x - j)) else L a x
theorem cpx_0 {L : zL} {A B i j lo : Nat} : cpx L A B i j lo lo = L := by
  funext a x
  unfold cpx
  rw [if_neg (by omega)]
theorem cpx_up {L : zL} {A B i j t : Nat} : zs (cpx L A B i j 0 t) B (j + t) (L A (i + t)) = cpx L A B i j 0 (t + 1) := by
  funext a x
  unfold zs cpx
  by_cases h : a = B ∧ x = j + t
  · rw [if_pos h, if_pos (by omega), show x - j = t by omega]
  · rw [if_neg h]
    by_cases h2 : a = B ∧ j + 0 ≤ x ∧ x < j + t
    · rw [if_pos h2, if_pos (by omega)]
    · rw [if_neg h2, if_neg (by omega)]
theorem cpx_dn {L : zL} {A B i j t n : Nat} (ht : t < n) : zs (cpx L A B i j (t + 1) n) B (j + t) (L A (i + t)) = cpx L A B i j t n := by
  funext a x
  unfold zs cpx
  by_cases h : a = B ∧ x = j + t
  · rw [if_pos h, if_pos (by omega), show x - j = t by omega]
  · rw [if_neg h]
    by_cases h2 : a = B ∧ j + (t + 1) ≤ x ∧ x < j + n
    · rw [if_pos h2, if_pos (by omega)]
    · rw [if_neg h2, if_neg (by omega)]
theorem cpx_su {L : zL} {A B i j t : Nat} (h : A ≠ B ∨ j ≤ i ∨ i + t < j) : cpx L A B i j 0 t A (i + t) = L A (i + t) := by
  unfold cpx
  rw [if_neg (by omega)]
theorem cpx_sd {L : zL} {A B i j t n : Nat} (h : A ≠ B ∨ i < j) : cpx L A B i j (t + 1) n A (i + t) = L A (i + t) := by
  unfold cpx
  rw [if_neg (by omega)]
theorem cpx_ne {L : zL} {A B i j lo hi a : Nat} (h : a ≠ B) : cpx L A B i j lo hi a = L a := by
  funext x
  unfold cpx
  rw [if_neg (fun z => h z.1)]
section ZCP
variable {l : Launch} {g : zG} {Q : Option zv → zI → zL → Prop} {I : zI} {L : zL} {n m p q i j N : Nat}
theorem n160 {c : Nat} (h : c < 160) : nI c < 160 := (nI_lt h (by decide) : nI c < nI 160)
theorem c_putAll (hp : p < 8) (hq : q < 8) (hi : ∃ Np, Np ≤ 160 ∧ I (66 + 2 * p) 2 = nI Np ∧ i + N ≤ Np) (hj : ∃ Nq, Nq ≤ 160 ∧ I (66 + 2 * q) 2 = nI Nq ∧ j + N ≤ Nq) (hlow : ∀ t, t < N → v_X3_lowestBits I (66 + 2 * q) (L (67 + 2 * p) (i + t)) = L (67 + 2 * p) (i + t)) (h : Q none I (cpx L (67 + 2 * p) (67 + 2 * q) i j 0 N)) : Call l g 3 M_X3_putAll [vR (66 + 2 * q), vR (66 + 2 * p), vI (nI i), vI (nI j), vI (nI N)] I L Q := by
  obtain ⟨Np, hNp, ep, hip⟩ := hi
  obtain ⟨Nq, hNq, eq, hjq⟩ := hj
  have step : ∀ (k : zK) (L1 : zL) (at' : Nat) (Q' : Option zv → zI → zL → Prop), at' < N → L1 (67 + 2 * p) (i + at') = L (67 + 2 * p) (i + at') → Q' none I (zs L1 (67 + 2 * q) (j + at') (L (67 + 2 * p) (i + at'))) → Call (kl k) g 2 M_X3_put [vR (66 + 2 * q), vI (nI j + nI at'), vL (v_X3_elementAt I L1 (66 + 2 * p) (nI i + nI at'))] I L1 Q' := by
    intro k L1 at' Q' hat hsrc hQ
    refine m_X3_put (zshS q hq) ?_
    have el : v_X3_elementAt I L1 (66 + 2 * p) (nI i + nI at') = L (67 + 2 * p) (i + at') := by
      unfold v_X3_elementAt
      rw [nI_add, if_neg (nI_pos (by omega)), ep, if_pos (nI_lt (by omega) (by omega)), if_pos (n160 (by omega)), zcl (by omega), show 66 + 2 * p + 1 = 67 + 2 * p by omega, hsrc]
    rw [el, hlow at' hat, nI_add, if_neg (nI_pos (by omega)), eq, if_pos (nI_lt (by omega) (by omega)), if_pos (n160 (by omega)), zcl (by omega), show 66 + 2 * q + 1 = 67 + 2 * q by omega]
    exact hQ
  refine m_X3_putAll (zshS q hq) (fun k hk X E => ?_)
  by_cases hij : i < j
  · refine zdown (N := N) (P := fun t => AW k g 7 I (cpx L (67 + 2 * p) (67 + 2 * q) i j (N - t) N) 3 [(0, vR (66 + 2 * q)), (1, vR (66 + 2 * p)), (2, vI (nI i)), (3, vI (nI j)), (4, vI (nI N)), (5, vI (nI t))] []) ?_ (fun t ht ih => ?_) (c := 0) (by omega) |> fun z => by
      rw [Nat.sub_zero, cpx_0] at z
      exact z
    · refine s_X3_putAll_3 (zshS q hq) X E ?_
      rw [if_neg (nI_nlt (Nat.le_refl _) (by omega)), Nat.sub_self]
      exact h
    · refine s_X3_putAll_3 (zshS q hq) X E ?_
      have ea : nI N - 1 - nI t = nI (N - (t + 1)) := by
        rw [show nI N - 1 = nI (N - 1) from pk_sub (b := 1) (by omega), pk_sub (by omega), show N - 1 - t = N - (t + 1) by omega]
      rw [if_pos (nI_lt ht (by omega)), if_pos (nI_lt hij (by omega)), ea, ← nI_succ]
      refine ⟨zshS p hp, step k _ _ _ (by omega) ?_ ⟨rfl, ?_⟩⟩
      · rw [show N - t = N - (t + 1) + 1 by omega]
        exact cpx_sd (Or.inr hij)
      · rw [show N - t = N - (t + 1) + 1 by omega, cpx_dn (by omega)]
        exact ih
  · refine zdown (N := N) (P := fun t => AW k g 7 I (cpx L (67 + 2 * p) (67 + 2 * q) i j 0 t) 3 [(0, vR (66 + 2 * q)), (1, vR (66 + 2 * p)), (2, vI (nI i)), (3, vI (nI j)), (4, vI (nI N)), (5, vI (nI t))] []) ?_ (fun t ht ih => ?_) (c := 0) (by omega) |> fun z => by
      rw [cpx_0] at z
      exact z
    · refine s_X3_putAll_3 (zshS q hq) X E ?_
      rw [if_neg (nI_nlt (Nat.le_refl _) (by omega))]
      exact h
    · refine s_X3_putAll_3 (zshS q hq) X E ?_
      rw [if_pos (nI_lt ht (by omega)), if_neg (nI_nlt (by omega) (by omega)), ← nI_succ]
      refine ⟨zshS p hp, step k _ _ _ ht ?_ ⟨rfl, ?_⟩⟩
      · exact cpx_su (Or.inr (Or.inl (by omega)))
      · rw [cpx_up]
        exact ih
theorem cpb {N : Nat} (hN : N ≤ 160) {a3 a5 : Int32} (h3 : ¬ a3 < 0) (h5 : ¬ a5 < 0) : (nI N - a5 < a3 ∧ 0 < lg_cmp (a3.toInt64 + a5.toInt64) (nI N).toInt64) ∨ (¬ nI N - a5 < a3 ∧ ¬ 0 < lg_cmp (a3.toInt64 + a5.toInt64) (nI N).toInt64 ∧ ∃ i n, a3 = nI i ∧ a5 = nI n ∧ i + n ≤ N) := by
  obtain ⟨i, hi, rfl⟩ := n_of h3
  obtain ⟨n, hn, rfl⟩ := n_of h5
  have e1 : (nI N - nI n).toInt = (N : Int) - n := n_sub (by omega) hn
  have e2 : ((nI i).toInt64 + (nI n).toInt64).toInt = (i : Int) + n := by
    rw [Int64.toInt_add, Int32.toInt_toInt64, Int32.toInt_toInt64, n_toInt hi, n_toInt hn, Int.bmod_eq_of_le (by omega) (by omega)]
  have e3 : ((nI N).toInt64).toInt = (N : Int) := by rw [Int32.toInt_toInt64, n_toInt (by omega)]
  rw [lg_cmp_gt, Int64.lt_iff_toInt_lt, e2, e3, i_lt, e1, n_toInt hi]
  by_cases c : i + n ≤ N
  · exact Or.inr ⟨by omega, by omega, i, n, rfl, rfl, c⟩
  · exact Or.inl ⟨by omega, by omega⟩
/-- how a shelf stands -/
theorem shelf3 {s : Nat} (h : Rn I L n m) (hs : s < 8) :
    (I 88 s < 0 ∧ v_X7_isRow I (nI s) = 0 ∧ v_X3_hasPane I (66 + 2 * s) = 0 ∧ I (66 + 2 * s) 4 = 0) ∨
    (¬ I 88 s < 0 ∧ v_X7_isRow I (nI s) = 0 ∧ v_X3_hasPane I (66 + 2 * s) = 1 ∧ I (66 + 2 * s) 4 = 0) ∨
    (¬ I 88 s < 0 ∧ v_X7_isRow I (nI s) = 1 ∧ v_X3_hasPane I (66 + 2 * s) = 0 ∧ I (66 + 2 * s) 4 = 1) := by
  have hm : m ≤ 8 := h.1.2.1
  obtain ⟨-, q2⟩ := isRow_1 hs hm (h.2.2.1 s hs)
  by_cases hr : I (66 + 2 * s) 4 = 1
  · obtain ⟨r1, r2, -⟩ := Rn_row h hs hr
    refine Or.inr (Or.inr ⟨?_, q2.trans hr, ?_, hr⟩)
    · rw [r2]; exact (hundred r1).1
    · unfold v_X3_hasPane
      rw [if_neg (by rw [hr]; decide)]
  · obtain ⟨r1, r2, r3⟩ := Rn_norow h hs hr
    rcases r3 with e | ⟨x, hx, e⟩
    · refine Or.inl ⟨?_, q2.trans r1, ?_, r1⟩
      · rw [r2, e]; decide
      · unfold v_X3_hasPane
        rw [if_pos r1, if_pos e]
    · refine Or.inr (Or.inl ⟨?_, q2.trans r1, ?_, r1⟩)
      · rw [r2, e]; exact nI_pos (by omega)
      · unfold v_X3_hasPane
        rw [if_pos r1, e, if_neg (fun e1 => n_neg (a := -1) (by decide) x (by omega) e1.symm)]
end ZCP
theorem sim_copy (a1 a2 a3 a4 a5 : Int32) : Sim M_X6_copy 4 M_X7_copy 2 [vI a1, vI a2, vI a3, vI a4, vI a5] := by
  rintro l g I L ⟨n, m, h⟩
  refine m_X6_copy ?_
  rcases shelf_cases a1 with ⟨c1, c2⟩ | ⟨p, hp, rfl, c1, c2⟩
  · rw [if_pos c1]
    exact both_no (k := 1) (by decide) rfl h (fun Q hq => m_X7_copy (fun k hk X E => by rw [if_pos c2, hk]; exact hq))
  rw [if_neg (by rw [c1]; omega)]
  rcases shelf_cases a2 with ⟨d1, d2⟩ | ⟨q, hq8, rfl, d1, d2⟩
  · rw [if_pos d1]
    exact both_no (k := 1) (by decide) rfl h (fun Q hq => m_X7_copy (fun k hk X E => by rw [if_neg (ne0 c2), if_pos d2, hk]; exact hq))
  rw [if_neg (by rw [d1]; omega), c1, d1]
  have p8 : (nI p).toNatClampNeg = p := zcl (by omega)
  have q8 : (nI q).toNatClampNeg = q := zcl (by omega)
  have kp : k_X7_isRow I (nI p) := zvin hp (by decide)
  have kq : k_X7_isRow I (nI q) := zvin hq8 (by decide)
  rcases shelf3 h hp with ⟨P1, P2, P3, P4⟩ | ⟨P1, P2, P3, P4⟩ | ⟨P1, P2, P3, P4⟩
  · rw [if_pos P3]
    rcases shelf3 h hq8 with ⟨Q1, Q2, Q3, Q4⟩ | ⟨Q1, Q2, Q3, Q4⟩ | ⟨Q1, Q2, Q3, Q4⟩
    · rw [if_pos Q3]
      refine ⟨Or.inl P4, fun hh => absurd P4 hh, ?_⟩
      rintro u rfl
      rw [if_pos (show v_X3_hasRow I (66 + 2 * p) = 0 from P4), if_pos rfl, if_pos rfl]
      refine both_no (k := 3) (by decide) rfl h (fun Q hq => m_X7_copy (fun k hk X E => ?_))
      rw [if_neg (ne0 c2), if_neg (ne0 d2), p8, q8, if_pos (show rf1 I 3 88 p < 0 from P1), if_pos (show rf1 I 3 88 q < 0 from Q1), if_pos (show v_X7_isRow (rf1 I 3) (nI p) = 0 from P2), if_pos (show rf1 I 3 88 p < 0 from P1), hk]
      exact ⟨kp, hq⟩
    · rw [if_neg (ne0 Q3)]
      refine both_no (k := 2) (by decide) rfl h (fun Q hq => m_X7_copy (fun k hk X E => ?_))
      rw [if_neg (ne0 c2), if_neg (ne0 d2), p8, q8, if_pos (show rf1 I 2 88 p < 0 from P1), if_neg (show ¬ rf1 I 2 88 q < 0 from Q1), if_pos (show v_X7_isRow (rf1 I 2) (nI q) = 0 from Q2), hk]
      exact ⟨kq, hq⟩
    · rw [if_pos Q3]
      refine ⟨Or.inl P4, fun hh => absurd P4 hh, ?_⟩
      rintro u rfl
      rw [if_pos (show v_X3_hasRow I (66 + 2 * p) = 0 from P4), if_pos rfl, if_pos rfl]
      refine both_no (k := 3) (by decide) rfl h (fun Q hq => m_X7_copy (fun k hk X E => ?_))
      rw [if_neg (ne0 c2), if_neg (ne0 d2), p8, q8, if_pos (show rf1 I 3 88 p < 0 from P1), if_neg (show ¬ rf1 I 3 88 q < 0 from Q1), if_neg (show ¬ v_X7_isRow (rf1 I 3) (nI q) = 0 from ne0 Q2), if_pos (show v_X7_isRow (rf1 I 3) (nI p) = 0 from P2), if_pos (show rf1 I 3 88 p < 0 from P1), hk]
      exact ⟨kq, kp, hq⟩
  · rw [if_neg (ne0 P3)]
    refine both_no (k := 2) (by decide) rfl h (fun Q hq => m_X7_copy (fun k hk X E => ?_))
    rw [if_neg (ne0 c2), if_neg (ne0 d2), p8, q8, if_neg (show ¬ rf1 I 2 88 p < 0 from P1), if_pos (show v_X7_isRow (rf1 I 2) (nI p) = 0 from P2), hk]
    exact ⟨kp, hq⟩
  · rw [if_pos P3]
    rcases shelf3 h hq8 with ⟨Q1, Q2, Q3, Q4⟩ | ⟨Q1, Q2, Q3, Q4⟩ | ⟨Q1, Q2, Q3, Q4⟩
    · rw [if_pos Q3]
      refine ⟨Or.inr P4, fun _ => Or.inl Q4, ?_⟩
      rintro u rfl
      rw [if_neg (show ¬ v_X3_hasRow I (66 + 2 * p) = 0 from ne0 P4), if_pos (show v_X3_hasRow I (66 + 2 * q) = 0 from Q4), if_pos rfl, if_pos rfl]
      refine both_no (k := 3) (by decide) rfl h (fun Q hq => m_X7_copy (fun k hk X E => ?_))
      rw [if_neg (ne0 c2), if_neg (ne0 d2), p8, q8, if_neg (show ¬ rf1 I 3 88 p < 0 from P1), if_neg (show ¬ v_X7_isRow (rf1 I 3) (nI p) = 0 from ne0 P2), if_pos (show rf1 I 3 88 q < 0 from Q1), if_neg (show ¬ v_X7_isRow (rf1 I 3) (nI p) = 0 from ne0 P2), if_pos (show v_X7_isRow (rf1 I 3) (nI q) = 0 from Q2), if_neg (show ¬ rf1 I 3 88 p < 0 from P1), if_pos (show rf1 I 3 88 q < 0 from Q1), hk]
      exact ⟨kp, kp, kq, hq⟩
    · rw [if_neg (ne0 Q3)]
      refine both_no (k := 2) (by decide) rfl h (fun Q hq => m_X7_copy (fun k hk X E => ?_))
      rw [if_neg (ne0 c2), if_neg (ne0 d2), p8, q8, if_neg (show ¬ rf1 I 2 88 p < 0 from P1), if_neg (show ¬ v_X7_isRow (rf1 I 2) (nI p) = 0 from ne0 P2), if_neg (show ¬ rf1 I 2 88 q < 0 from Q1), if_pos (show v_X7_isRow (rf1 I 2) (nI q) = 0 from Q2), hk]
      exact ⟨kp, kq, hq⟩
    · rw [if_pos Q3]
      obtain ⟨x1, x2, Np, hNp, x3, x4, x5⟩ := Rn_row h hp P4
      obtain ⟨y1, y2, Nq, hNq, y3, y4, y5⟩ := Rn_row h hq8 Q4
      refine ⟨Or.inr P4, fun _ => Or.inr Q4, ?_⟩
      rintro u rfl
      rw [if_neg (show ¬ v_X3_hasRow I (66 + 2 * p) = 0 from ne0 P4), if_neg (show ¬ v_X3_hasRow I (66 + 2 * q) = 0 from ne0 Q4), if_neg (by decide)]
      have hsort : I (66 + 2 * p) 1 = I (66 + 2 * q) 1 ↔ I 88 p = I 88 q := by
        rw [x2, y2]
        constructor
        · intro e; rw [e]
        · intro e
          have := congrArg (fun z => z - 100) e
          simp only [(hundred x1).2.2, (hundred y1).2.2] at this
          exact this
      -- the reference up to its tail
      have pre : ∀ (J : zI) (L' : zL) (Q : Option zv → zI → zL → Prop), ¬ J 88 p < 0 → ¬ J 88 q < 0 → v_X7_isRow J (nI p) = 1 → v_X7_isRow J (nI q) = 1 → (∀ k : zK, kl k = l → zX k g cX7_copy RX7 7 (some .int) 2 → zE k g Q → if J 88 p = J 88 q then (if a5 < 0 then (Call l g 1 M_X7_no [vR 87, vI (-4)] J L' (zi fun r_ I_ L_ => Q (some (vI r_)) I_ L_)) else (if a3 < 0 then (Call l g 1 M_X7_no [vR 87, vI (-5)] J L' (zi fun r_ I_ L_ => Q (some (vI r_)) I_ L_)) else (if a4 < 0 then (Call l g 1 M_X7_no [vR 87, vI (-5)] J L' (zi fun r_ I_ L_ => Q (some (vI r_)) I_ L_)) else (if 0 < (lg_cmp (a3.toInt64 + a5.toInt64) ((J 89 p).toInt64)) then (Call l g 1 M_X7_no [vR 87, vI (-5)] J L' (zi fun r_ I_ L_ => Q (some (vI r_)) I_ L_)) else (if 0 < (lg_cmp (a4.toInt64 + a5.toInt64) ((J 89 q).toInt64)) then (Call l g 1 M_X7_no [vR 87, vI (-5)] J L' (zi fun r_ I_ L_ => Q (some (vI r_)) I_ L_)) else (if nI p = nI q then (if a3 < a4 then (AW k g 7 J L' 203 [(0, vR 87), (1, vI (nI p)), (2, vI (nI q)), (3, vI a3), (4, vI a4), (6, vI (a5 - 1))] []) else (AW k g 7 J L' 251 [(0, vR 87), (1, vI (nI p)), (2, vI (nI q)), (3, vI a3), (4, vI a4), (5, vI a5), (6, vI 0)] [])) else (AW k g 7 J L' 251 [(0, vR 87), (1, vI (nI p)), (2, vI (nI q)), (3, vI a3), (4, vI a4), (5, vI a5), (6, vI 0)] []))))))) else (Call l g 1 M_X7_no [vR 87, vI (-2)] J L' (zi fun r_ I_ L_ => Q (some (vI r_)) I_ L_))) → Call l g 2 M_X7_copy [vR 87, vI (nI p), vI (nI q), vI a3, vI a4, vI a5] J L' Q := by
        intro J L' Q j1 j2 j3 j4 hh
        refine m_X7_copy (fun k hk X E => ?_)
        have := hh k hk X E
        rw [if_neg (ne0 c2), if_neg (ne0 d2), p8, q8, if_neg j1, if_neg (ne0 j3), if_neg j2, if_neg (ne0 j4), if_neg (ne0 j3), if_neg (ne0 j4), if_neg j1, if_neg j2, hk]
        exact ⟨kp, kq, kp, kq, this⟩
      have preR : ∀ (k0 : Nat) (Q : Option zv → zI → zL → Prop), (∀ k : zK, kl k = l → zX k g cX7_copy RX7 7 (some .int) 2 → zE k g Q → if I 88 p = I 88 q then (if a5 < 0 then (Call l g 1 M_X7_no [vR 87, vI (-4)] (rf1 I k0) L (zi fun r_ I_ L_ => Q (some (vI r_)) I_ L_)) else (if a3 < 0 then (Call l g 1 M_X7_no [vR 87, vI (-5)] (rf1 I k0) L (zi fun r_ I_ L_ => Q (some (vI r_)) I_ L_)) else (if a4 < 0 then (Call l g 1 M_X7_no [vR 87, vI (-5)] (rf1 I k0) L (zi fun r_ I_ L_ => Q (some (vI r_)) I_ L_)) else (if 0 < (lg_cmp (a3.toInt64 + a5.toInt64) ((I 89 p).toInt64)) then (Call l g 1 M_X7_no [vR 87, vI (-5)] (rf1 I k0) L (zi fun r_ I_ L_ => Q (some (vI r_)) I_ L_)) else (if 0 < (lg_cmp (a4.toInt64 + a5.toInt64) ((I 89 q).toInt64)) then (Call l g 1 M_X7_no [vR 87, vI (-5)] (rf1 I k0) L (zi fun r_ I_ L_ => Q (some (vI r_)) I_ L_)) else (if nI p = nI q then (if a3 < a4 then (AW k g 7 (rf1 I k0) L 203 [(0, vR 87), (1, vI (nI p)), (2, vI (nI q)), (3, vI a3), (4, vI a4), (6, vI (a5 - 1))] []) else (AW k g 7 (rf1 I k0) L 251 [(0, vR 87), (1, vI (nI p)), (2, vI (nI q)), (3, vI a3), (4, vI a4), (5, vI a5), (6, vI 0)] [])) else (AW k g 7 (rf1 I k0) L 251 [(0, vR 87), (1, vI (nI p)), (2, vI (nI q)), (3, vI a3), (4, vI a4), (5, vI a5), (6, vI 0)] []))))))) else (Call l g 1 M_X7_no [vR 87, vI (-2)] (rf1 I k0) L (zi fun r_ I_ L_ => Q (some (vI r_)) I_ L_))) → Call l g 2 M_X7_copy [vR 87, vI (nI p), vI (nI q), vI a3, vI a4, vI a5] (rf1 I k0) L Q := fun k0 Q hh => pre (rf1 I k0) L Q P1 Q1 P2 Q2 hh
      by_cases hso0 : ¬ I (66 + 2 * p) 1 = I (66 + 2 * q) 1
      · have hso := hso0
        rw [if_neg hso]
        exact both_no (k := 2) (by decide) rfl h (fun Q hq => preR 2 Q (fun k _ _ _ => by rw [if_neg (fun e => hso (hsort.mpr e))]; exact hq))
      have hso := Decidable.not_not.mp hso0
      have hso' := hsort.mp hso
      rw [if_pos hso, if_neg (by decide), x3, y3]
      by_cases h5 : a5 < 0
      · rw [if_pos h5]
        exact both_no (k := 4) (by decide) rfl h (fun Q hq => preR 4 Q (fun k _ _ _ => by rw [if_pos hso', if_pos h5]; exact hq))
      rw [if_neg h5]
      by_cases h3 : a3 < 0
      · rw [if_pos h3]
        exact both_no (k := 5) (by decide) rfl h (fun Q hq => preR 5 Q (fun k _ _ _ => by rw [if_pos hso', if_neg h5, if_pos h3]; exact hq))
      rw [if_neg h3]
      by_cases h4 : a4 < 0
      · rw [if_pos h4]
        exact both_no (k := 5) (by decide) rfl h (fun Q hq => preR 5 Q (fun k _ _ _ => by rw [if_pos hso', if_neg h5, if_neg h3, if_pos h4]; exact hq))
      rw [if_neg h4]
      rcases cpb hNp h3 h5 with ⟨b1, b2⟩ | ⟨b1, b2, i, N, rfl, rfl, b3⟩
      · rw [if_pos b1]
        exact both_no (k := 5) (by decide) rfl h (fun Q hq => preR 5 Q (fun k _ _ _ => by rw [if_pos hso', if_neg h5, if_neg h3, if_neg h4, x4, if_pos b2]; exact hq))
      rw [if_neg b1]
      rcases cpb hNq h4 h5 with ⟨f1, f2⟩ | ⟨f1, f2, j, N', rfl, eN, f3⟩
      · rw [if_pos f1]
        exact both_no (k := 5) (by decide) rfl h (fun Q hq => preR 5 Q (fun k _ _ _ => by rw [if_pos hso', if_neg h5, if_neg h3, if_neg h4, x4, if_neg b2, y4, if_pos f2]; exact hq))
      rw [if_neg f1]
      have eN' : N = N' := by
        rw [i_eq, n_toInt (by omega)] at eN
        obtain ⟨z, hz, ez⟩ := n_of (a := nI N') (by rw [i_lt, ← eN]; show ¬ (N : Int) < 0; omega)
        by_cases hb : N' < 2147483648
        · rw [n_toInt hb] at eN; omega
        · omega
      subst eN'
      have lowb : ∀ v, v_X3_lowestBits I (66 + 2 * q) v = v_X3_lowestBits I (66 + 2 * p) v := fun v => by unfold v_X3_lowestBits; rw [hso]
      refine c_putAll hp hq8 ⟨Np, hNp, x3, b3⟩ ⟨Nq, hNq, y3, f3⟩ (fun t ht => ?_) ⟨rfl, _, rfl, ?_⟩
      · rw [lowb, (x5 (i + t) (by omega)).1]
        exact (x5 (i + t) (by omega)).2
      generalize hL1 : cpx L (67 + 2 * p) (67 + 2 * q) i j 0 N = L1
      have v90 : L1 90 = L 90 := by rw [← hL1]; exact cpx_ne (by omega)
      have fin : Rn I (cpx L1 90 90 (160 * p + i) (160 * q + j) 0 N) n m := by
        refine Rn_shelf hq8 h (fun _ _ _ _ => rfl) (fun _ _ => rfl) (fun _ _ => rfl) (fun a s1 s2 => by rw [cpx_ne s2, ← hL1, cpx_ne s1]) (fun x hx => ?_) (Or.inl ⟨Q4, y1, y2, y4.trans y3.symm, ⟨Nq, hNq, y3⟩, fun x hx => ?_⟩)
        · unfold cpx
          rw [if_neg (by omega), v90]
        · rw [y3, zcl (by omega)] at hx
          rw [cpx_ne (show 67 + 2 * q ≠ 90 by omega), ← hL1]
          unfold cpx
          by_cases hin : j ≤ x ∧ x < j + N
          · rw [if_pos (by omega), if_pos (by omega), if_neg (by omega), show 160 * p + i + (160 * q + x - (160 * q + j)) = 160 * p + (i + (x - j)) by omega, (x5 (i + (x - j)) (by omega)).1, lowb]
            exact ⟨rfl, (x5 (i + (x - j)) (by omega)).2⟩
          · rw [if_neg (by omega), if_neg (by omega), if_neg (by omega)]
            exact y5 x hx
      refine pre I L1 _ P1 Q1 P2 Q2 (fun k hk X E => ?_)
      have at1 : ∀ t, t < N → 160 * nI p + nI i + nI t = nI (160 * p + i + t) ∧ (160 * nI p + nI i + nI t).toNatClampNeg = 160 * p + i + t ∧ vp_in (160 * nI p + nI i + nI t) 1280 := fun t ht => by
        have e : 160 * nI p + nI i + nI t = nI (160 * p + i + t) := by rw [show (160 : Int32) = nI 160 from rfl, pk_mul, nI_add, nI_add]
        rw [e]; exact ⟨rfl, zcl (by omega), zvin (by omega) (by decide)⟩
      have at2 : ∀ t, t < N → 160 * nI q + nI j + nI t = nI (160 * q + j + t) ∧ (160 * nI q + nI j + nI t).toNatClampNeg = 160 * q + j + t ∧ vp_in (160 * nI q + nI j + nI t) 1280 := fun t ht => by
        have e : 160 * nI q + nI j + nI t = nI (160 * q + j + t) := by rw [show (160 : Int32) = nI 160 from rfl, pk_mul, nI_add, nI_add]
        rw [e]; exact ⟨rfl, zcl (by omega), zvin (by omega) (by decide)⟩
      have up : (p ≠ q ∨ j ≤ i) → AW k g 7 I L1 251 [(0, vR 87), (1, vI (nI p)), (2, vI (nI q)), (3, vI (nI i)), (4, vI (nI j)), (5, vI (nI N)), (6, vI 0)] [] := by
        intro hpq
        refine zdown (N := N) (P := fun t => AW k g 7 I (cpx L1 90 90 (160 * p + i) (160 * q + j) 0 t) 251 [(0, vR 87), (1, vI (nI p)), (2, vI (nI q)), (3, vI (nI i)), (4, vI (nI j)), (5, vI (nI N)), (6, vI (nI t))] []) ?_ (fun t ht ih => ?_) (c := 0) (by omega) |> fun z => by
          rw [cpx_0] at z
          exact z
        · refine s_X7_copy_251 X E ?_
          rw [if_neg (nI_nlt (Nat.le_refl _) (by omega))]
          exact ⟨_, rfl, rfl, n, m, fin⟩
        · refine s_X7_copy_251 X E ?_
          obtain ⟨-, u2, u3⟩ := at1 t ht
          obtain ⟨-, v2, v3⟩ := at2 t ht
          rw [if_pos (nI_lt ht (by omega)), u2, v2, ← nI_succ]
          refine ⟨u3, v3, ?_⟩
          have hsrc : cpx L1 90 90 (160 * p + i) (160 * q + j) 0 t 90 (160 * p + i + t) = L1 90 (160 * p + i + t) := by
            unfold cpx
            rw [if_neg (by omega)]
          rw [hsrc, cpx_up]
          exact ih
      rw [if_pos hso', if_neg h5, if_neg h3, if_neg h4, x4, if_neg b2, y4, if_neg f2]
      by_cases hpq : p = q
      · rw [if_pos (by rw [hpq])]
        by_cases hij : i < j
        · rw [if_pos (nI_lt hij (by omega))]
          have down : ∀ t, t ≤ N → AW k g 7 I (cpx L1 90 90 (160 * p + i) (160 * q + j) t N) 203 [(0, vR 87), (1, vI (nI p)), (2, vI (nI q)), (3, vI (nI i)), (4, vI (nI j)), (6, vI (nI t - 1))] [] := by
            intro t
            induction t with
            | zero =>
              intro _
              refine s_X7_copy_203 X E ?_
              rw [if_pos (show nI 0 - 1 < 0 by decide)]
              exact ⟨_, rfl, rfl, n, m, fin⟩
            | succ t ih =>
              intro ht
              refine s_X7_copy_203 X E ?_
              obtain ⟨-, u2, u3⟩ := at1 t (by omega)
              obtain ⟨-, v2, v3⟩ := at2 t (by omega)
              rw [nI_m1, if_neg (nI_pos (by omega)), u2, v2]
              refine ⟨u3, v3, ?_⟩
              have hsrc : cpx L1 90 90 (160 * p + i) (160 * q + j) (t + 1) N 90 (160 * p + i + t) = L1 90 (160 * p + i + t) := by
                unfold cpx
                rw [if_neg (by omega)]
              rw [hsrc, cpx_dn (by omega), show nI t + (-1) = nI t - 1 from (Int32.sub_eq_add_neg _ _).symm]
              exact ih (by omega)
          have := down N (Nat.le_refl _)
          rw [cpx_0] at this
          exact this
        · rw [if_neg (nI_nlt (by omega) (by omega))]
          exact up (Or.inr (by omega))
      · rw [if_neg (fun e => hpq ((n_eq (by omega) (by omega)).mp e))]
        exact up (Or.inl hpq)
