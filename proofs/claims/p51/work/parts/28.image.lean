/-! THE IMAGE; SHELVES; A PRESS REFUSED -/
theorem zsS : ∀ p, (p = 2 ∨ p = 21 ∨ p = 40) → zsh p = (14, 10) ∧ ∀ i, i < 8 → zsh (p + 3 + 2 * i) = (11, 6) := by
  rintro p (rfl | rfl | rfl)
  · exact ⟨rfl, by decide +kernel⟩
  · exact ⟨rfl, by decide +kernel⟩
  · exact ⟨rfl, by decide +kernel⟩
section ZIM
variable {l : Launch} {g : zG} {Q : Option zv → zI → zL → Prop} {I V : zI} {L : zL} {p q n m i s : Nat} {a1 a2 x : Int32}
theorem c_paneAll (hp : zsh p = (11, 6)) (hq : zsh q = (11, 6)) (hpq : p + 1 < q ∨ q + 1 < p) (h : ∀ I' : zI, (∀ a, a ≠ p → a ≠ p + 1 → I' a = I a) → (∀ j, j < 5 → I' p j = I q j) → (∀ c, c < 16 → I' (p + 1) c = I (q + 1) c) → Q none I' L) : Call l g 2 M_X1_takeAll [vR p, vR q] I L Q := by
  refine m_X1_takeAll hp (fun k hk X E => ?_)
  refine c_takeGlass hp hq (by omega) (fun I1 g1 g2 => ⟨rfl, ?_⟩)
  refine zdown (N := 16) (P := fun c => ∀ A : zI, (∀ a, a ≠ p + 1 → A a = I1 a) → (∀ j, j < c → A (p + 1) j = I (q + 1) j) → AW k g 3 A L 7 [(0, vR p), (1, vR q), (2, vI (nI c))] []) (fun A a1 a2 => ?_) (fun c hc ih A a1 a2 => ?_) (c := 0) (by omega) I1 (fun _ _ => rfl) (fun _ hh => absurd hh (Nat.not_lt_zero _))
  · refine s_X1_takeAll_7 hp X E ?_
    rw [if_neg (show ¬ nI 16 < 16 by decide)]
    exact h A (fun a h1 h2 => (a1 a h2).trans (g1 a h1)) (fun j hj => by rw [a1 p (by omega)]; exact g2 j hj) a2
  · refine s_X1_takeAll_7 hp X E ?_
    have e : v_X1_iceOn A q (nI c) = I (q + 1) c := by
      unfold v_X1_iceOn
      rw [if_neg (nI_pos (by omega)), if_pos (n16 hc), zcl (by omega), a1 (q + 1) (by omega), g1 (q + 1) (by omega)]
    rw [if_pos (n16 hc), e, zcl (by omega), ← nI_succ]
    refine ⟨hq, zvin hc (by decide), ih _ (fun a ha => by rw [zs_nec ha]; exact a1 a ha) (fun j hj => ?_)⟩
    by_cases e : j = c
    · rw [e, zs_same]
    · rw [zs_ne (fun z => e z.2)]
      exact a2 j (by omega)
theorem c_streetAll {fm kd rm ow hg sc tr : Nat → Int32} {le pa co we ou ho ed dr : Int32} (hp : p = 2 ∨ p = 21 ∨ p = 40) (hq : q = 2 ∨ q = 21 ∨ q = 40) (hpq : p ≠ q) (h0 : RS I q fm kd rm ow hg sc tr le pa co we ou ho ed dr n m) (h : ∀ I' : zI, (∀ a, (a < p ∨ p + 18 < a) → I' a = I a) → RS I' p fm kd rm ow hg sc tr le pa co we ou ho ed dr n m → Q none I' L) : Call l g 3 M_X4_takeAll [vR p, vR q] I L Q := by
  obtain ⟨hn, hm, f2, f3, f4, f5, f6, f7, f8, f9, hf, hP⟩ := h0
  have hd : p + 18 < q ∨ q + 18 < p := by omega
  obtain ⟨zp1, zp2⟩ := zsS p hp
  obtain ⟨zq1, zq2⟩ := zsS q hq
  refine m_X4_takeAll zp1 (fun k hk X E => ?_)
  refine zdown (N := 8) (P := fun c => ∀ A : zI, (∀ a, a ≠ p + 1 → A a = I a) → (∀ j, j < c → j < n → A (p + 1) j = fm j) → AW k g 4 A L 2 [(0, vR p), (1, vR q), (2, vI (nI c))] []) (fun A a1 a2 => ?_) (fun c hc ih A a1 a2 => ?_) (c := 0) (by omega) I (fun _ _ => rfl) (fun _ hh => absurd hh (Nat.not_lt_zero _))
  · refine s_X4_takeAll_2 zp1 X E ?_
    rw [if_neg (show ¬ nI 8 < 8 by decide)]
    refine zdown (N := 8) (P := fun c => ∀ B : zI, (∀ a, (a < p + 3 ∨ p + 18 < a) → B a = A a) → (∀ i, i < c → i < m → (∀ j, j < 5 → B (p + 3 + 2 * i) j = I (q + 3 + 2 * i) j) ∧ ∀ x, x < 16 → B (p + 3 + 2 * i + 1) x = I (q + 3 + 2 * i + 1) x) → AW k g 4 B L 30 [(0, vR p), (1, vR q), (2, vI (nI c))] []) (fun B b1 b2 => ?_) (fun c hc ih B b1 b2 => ?_) (c := 0) (by omega) A (fun _ _ => rfl) (fun _ hh => absurd hh (Nat.not_lt_zero _))
    · refine s_X4_takeAll_30 zp1 X E ?_
      rw [if_neg (show ¬ nI 8 < 8 by decide)]
      refine ⟨zq1, ?_⟩
      have bq : B q = I q := by rw [b1 q (by omega), a1 q (by omega)]
      intro I7 e7
      have q7 : I7 q = I q := by rw [e7, zs_nec (by omega), bq]
      intro I8 e8
      have q8 : I8 q = I q := by rw [e8, zs_nec (by omega), q7]
      intro I9 e9
      have q9 : I9 q = I q := by rw [e9, zs_nec (by omega), q8]
      intro I10 e10
      have q10 : I10 q = I q := by rw [e10, zs_nec (by omega), q9]
      intro I11 e11
      have q11 : I11 q = I q := by rw [e11, zs_nec (by omega), q10]
      intro I12 e12
      have q12 : I12 q = I q := by rw [e12, zs_nec (by omega), q11]
      intro I13 e13
      have q13 : I13 q = I q := by rw [e13, zs_nec (by omega), q12]
      rw [bq] at e7
      rw [q7] at e8
      rw [q8] at e9
      rw [q9] at e10
      rw [q10] at e11
      rw [q11] at e12
      rw [q12] at e13
      rw [q13]
      have hF : ∀ j, zs I13 p 9 (I q 9) p j = if j = 9 then I q 9 else if j = 8 then I q 8 else if j = 7 then I q 7 else if j = 6 then I q 6 else if j = 5 then I q 5 else if j = 4 then I q 4 else if j = 3 then I q 3 else if j = 2 then I q 2 else B p j := fun j => by
        rw [zs_at, e13, zs_at, e12, zs_at, e11, zs_at, e10, zs_at, e9, zs_at, e8, zs_at, e7, zs_at]
      have hO : ∀ a, a ≠ p → zs I13 p 9 (I q 9) a = B a := fun a ha => by rw [zs_nec ha, e13, zs_nec ha, e12, zs_nec ha, e11, zs_nec ha, e10, zs_nec ha, e9, zs_nec ha, e8, zs_nec ha, e7, zs_nec ha]
      refine h _ (fun a ha => by rw [hO a (by omega), b1 a (by omega), a1 a (by omega)]) ?_
      unfold RS
      rw [show zs I13 p 9 (I q 9) p 2 = I q 2 from hF 2, show zs I13 p 9 (I q 9) p 3 = I q 3 from hF 3, show zs I13 p 9 (I q 9) p 4 = I q 4 from hF 4, show zs I13 p 9 (I q 9) p 5 = I q 5 from hF 5, show zs I13 p 9 (I q 9) p 6 = I q 6 from hF 6, show zs I13 p 9 (I q 9) p 7 = I q 7 from hF 7, show zs I13 p 9 (I q 9) p 8 = I q 8 from hF 8, show zs I13 p 9 (I q 9) p 9 = I q 9 from hF 9]
      refine ⟨hn, hm, f2, f3, f4, f5, f6, f7, f8, f9, fun j hj => ?_, fun i hi => ?_⟩
      · rw [hO (p + 1) (by omega), b1 (p + 1) (by omega), a2 j (by omega) hj]
        exact ⟨rfl, (hf j hj).2⟩
      · obtain ⟨r1, r2⟩ := b2 i (by omega) hi
        have := hP i hi
        unfold RPn at *
        rw [hO (p + 3 + 2 * i) (by omega), hO (p + 3 + 2 * i + 1) (by omega), r1 0 (by decide), r1 1 (by decide), r1 2 (by decide), r1 3 (by decide), r1 4 (by decide)]
        refine ⟨this.1, this.2.1, this.2.2.1, this.2.2.2.1, this.2.2.2.2.1, fun c hc => ?_⟩
        rw [r2 c hc]
        exact this.2.2.2.2.2 c hc
    · refine s_X4_takeAll_30 zp1 X E ?_
      have bq : B q = I q := by rw [b1 q (by omega), a1 q (by omega)]
      rw [if_pos (n8 hc), zcl (by omega)]
      refine ⟨zq1, zvin hc (by decide), ?_⟩
      rcases paneAt_g (I := B) (s := q) (m := m) (i := c) (by rw [bq]; exact f3.1) hm hc with ⟨w1, w2⟩ | ⟨w1, w2⟩
      · rw [w2, if_neg (by omega)]
        refine c_paneAll (zp2 c hc) (zq2 c hc) (by omega) (fun B2 k1 k2 k3 => ⟨rfl, ?_⟩)
        rw [← nI_succ]
        refine ih B2 (fun a ha => (k1 a (by omega) (by omega)).trans (b1 a ha)) (fun i hi him => ?_)
        by_cases e : i = c
        · subst e
          have t1 : B (q + 3 + 2 * i) = I (q + 3 + 2 * i) := by rw [b1 _ (by omega), a1 _ (by omega)]
          have t2 : B (q + 3 + 2 * i + 1) = I (q + 3 + 2 * i + 1) := by rw [b1 _ (by omega), a1 _ (by omega)]
          rw [t1] at k2
          rw [t2] at k3
          exact ⟨k2, k3⟩
        · rw [k1 (p + 3 + 2 * i) (by omega) (by omega), k1 (p + 3 + 2 * i + 1) (by omega) (by omega)]
          exact b2 i (by omega) him
      · rw [w2, if_pos rfl, ← nI_succ]
        exact ih B b1 (fun i hi him => b2 i (by omega) him)
  · refine s_X4_takeAll_2 zp1 X E ?_
    rw [if_pos (n8 hc), zcl (by omega), ← nI_succ]
    refine ⟨zq1, zvin hc (by decide), ih _ (fun a ha => by rw [zs_nec ha]; exact a1 a ha) (fun j hj hjn => ?_)⟩
    by_cases e : j = c
    · subst e
      rw [zs_same, cellsOf_in (n := n) (by rw [a1 q (by omega)]; exact f2.1) hn hjn, a1 (q + 1) (by omega)]
      exact (hf j hjn).1
    · rw [zs_ne (fun z => e z.2)]
      exact a2 j (by omega) hjn
theorem c_takeRow (hp : zsh p = (13, 5)) (h : ∀ (I' : zI) (L' : zL), (∀ a, a ≠ p → I' a = I a) → I' p 4 = 1 → I' p 1 = a1 → I' p 2 = a2 → I' p 3 = -1 → (∀ a, a ≠ p + 1 → L' a = L a) → (∀ x, x < 160 → L' (p + 1) x = 0) → Q none I' L') : Call l g 1 M_X3_takeRow [vR p, vI a1, vI a2] I L Q := by
  refine m_X3_takeRow hp (fun k hk X E => ?_)
  rintro I1 rfl I2 rfl I3 rfl
  refine zdown (N := 160) (P := fun c => ∀ L1 : zL, (∀ a, a ≠ p + 1 → L1 a = L a) → (∀ x, x < c → L1 (p + 1) x = 0) → AW k g 4 (zs (zs (zs (zs I p 4 1) p 1 a1) p 2 a2) p 3 (-1)) L1 22 [(0, vR p), (3, vI (nI c))] []) (fun L1 h1 h2 => ?_) (fun c hc ih L1 h1 h2 => ?_) (c := 0) (by omega) L (fun _ _ => rfl) (fun _ hh => absurd hh (Nat.not_lt_zero _))
  · refine s_X3_takeRow_22 hp X E ?_
    rw [if_neg (show ¬ nI 160 < 160 by decide)]
    refine h _ L1 (fun a ha => by rw [zs_nec ha, zs_nec ha, zs_nec ha, zs_nec ha]) ?_ ?_ ?_ ?_ h1 h2
    · rw [zs_ne (by omega), zs_ne (by omega), zs_ne (by omega), zs_same]
    · rw [zs_ne (by omega), zs_ne (by omega), zs_same]
    · rw [zs_ne (by omega), zs_same]
    · rw [zs_same]
  · refine s_X3_takeRow_22 hp X E ?_
    rw [if_pos (show nI c < 160 from (nI_lt hc (by decide) : nI c < nI 160)), zcl (by omega), ← nI_succ]
    refine ⟨zvin hc (by decide), ih _ (fun a ha => by rw [zs_nec ha]; exact h1 a ha) (fun x hx => ?_)⟩
    by_cases e : x = c
    · rw [e, zs_same]
    · rw [zs_ne (fun z => e z.2)]
      exact h2 x (by omega)
theorem u_image (h : RC I V n m) (hQ : ∀ I' : zI, (∀ a, a ≠ 1 → (a < 21 ∨ 39 < a) → I' a = I a) → RV I' 21 V n m → I' 1 8 = 1 → Q (some (vI (nI m))) I' L) : Call l g 4 M_X6_image [vR 1] I L Q := by
  obtain ⟨hW, hN, hn, hm, e2, e2', e3, e3', e4, e5, e6, hf⟩ := RC_wx h
  refine m_X6_image ?_
  refine c_streetAll (p := 21) (q := 2) (Or.inr (Or.inl rfl)) (Or.inl rfl) (by decide) h (fun I1 g1 g2 => ⟨rfl, ?_⟩)
  rintro I2 rfl
  rw [zs_nec (show 2 ≠ 1 by decide), g1 2 (by omega), e3]
  exact hQ _ (fun a h1 h2 => by rw [zs_nec h1]; exact g1 a (by omega)) (RV_cong (fun a h1 _ => zs_nec (by omega)) g2) (by rw [zs_same])
/-- a shelf behind an image that came back -/
def shR (I I' : zI) (m s : Nat) : Prop := (I (66 + 2 * s) 4 = 1 → I' (66 + 2 * s) = I (66 + 2 * s)) ∧ (I (66 + 2 * s) 4 = 0 → I (66 + 2 * s) 3 = -1 → I' (66 + 2 * s) = I (66 + 2 * s)) ∧ (∀ q, q < 8 → I (66 + 2 * s) 4 = 0 → I (66 + 2 * s) 3 = nI q → (q < m → I' (66 + 2 * s) = I (66 + 2 * s)) ∧ (m ≤ q → I' (66 + 2 * s) 4 = 0 ∧ I' (66 + 2 * s) 3 = -1))
/-- what shelves may hold -/
def shK (I : zI) : Prop := ∀ s, s < 8 → I (66 + 2 * s) 4 = 1 ∨ (I (66 + 2 * s) 4 = 0 ∧ (I (66 + 2 * s) 3 = -1 ∨ ∃ q, q < 8 ∧ I (66 + 2 * s) 3 = nI q))
theorem zshS : ∀ s, s < 8 → zsh (66 + 2 * s) = (13, 5) := by decide +kernel
theorem u_restore (h1 : I 1 8 = 1) (h : RV I 21 V n m) (hK : shK I) (hQ : ∀ I' : zI, (∀ a, (a < 2 ∨ 20 < a) → (∀ s, s < 8 → a ≠ 66 + 2 * s) → I' a = I a) → RC I' V n m → (∀ s, s < 8 → shR I I' m s) → Q (some (vI (nI m))) I' L) : Call l g 4 M_X6_restore [vR 1] I L Q := by
  have hm : m ≤ 8 := h.2.1
  refine m_X6_restore (fun k hk X E => ?_)
  rw [h1, if_neg (by decide)]
  refine c_streetAll (p := 2) (q := 21) (Or.inl rfl) (Or.inr (Or.inl rfl)) (by decide) h (fun I1 g1 g2 => ⟨rfl, ?_⟩)
  have hR1 : RC I1 V n m := g2
  obtain ⟨-, -, -, -, -, -, e3, -⟩ := RC_wx hR1
  refine zdown (N := 8) (P := fun c => ∀ A : zI, (∀ a, (∀ s, s < c → a ≠ 66 + 2 * s) → A a = I1 a) → (∀ s, s < c → shR I A m s) → AW k g 3 A L 27 [(0, vR 1), (1, vI (nI c))] []) (fun A a1 a2 => ?_) (fun c hc ih A a1 a2 => ?_) (c := 0) (by omega) I1 (fun _ _ => rfl) (fun _ hh => absurd hh (Nat.not_lt_zero _))
  · refine s_X6_restore_27 X E ?_
    have hRA : RC A V n m := RV_cong (fun a _ h2 => a1 a (fun s _ => by omega)) hR1
    rw [if_neg (show ¬ nI 8 < 8 by decide), a1 2 (fun s _ => by omega), e3]
    exact hQ A (fun a ha hs => (a1 a hs).trans (g1 a (by omega))) hRA a2
  · refine s_X6_restore_27 X E ?_
    rw [if_pos (n8 hc), zcl (by omega), ← nI_succ]
    have ec : A (66 + 2 * c) = I (66 + 2 * c) := by rw [a1 _ (fun s hs => by omega), g1 _ (by omega)]
    have e2 : A 2 3 = nI m := by rw [a1 2 (fun s _ => by omega)]; exact e3
    refine ⟨zvin hc (by decide), ?_⟩
    have nx : ∀ B : zI, (∀ a, a ≠ 66 + 2 * c → B a = A a) → shR I B m c → AW k g 3 B L 27 [(0, vR 1), (1, vI (nI (c + 1)))] [] := fun B hB hs => ih B (fun a ha => (hB a (ha c (by omega))).trans (a1 a (fun s h => ha s (by omega)))) (fun s h => by
      by_cases e : s = c
      · rw [e]; exact hs
      · have := a2 s (by omega)
        unfold shR at *
        rw [hB (66 + 2 * s) (by omega)]
        exact this)
    have hm1 : ∀ q : Nat, q < 8 → ¬ nI q = -1 := fun q hq e1 => n_neg (a := -1) (by decide) q (by omega) e1.symm
    rcases hK c hc with r1 | ⟨r0, r3 | ⟨q, hq, r3⟩⟩
    · rw [if_pos (show v_X3_hasPane A (66 + 2 * c) = 0 from by unfold v_X3_hasPane; rw [ec, r1, if_neg (by decide)])]
      exact nx A (fun _ _ => rfl) ⟨fun _ => ec, fun h0 => absurd (r1.symm.trans h0) (by decide), fun q _ h0 => absurd (r1.symm.trans h0) (by decide)⟩
    · rw [if_pos (show v_X3_hasPane A (66 + 2 * c) = 0 from by unfold v_X3_hasPane; rw [ec, r0, if_pos rfl, r3, if_pos rfl])]
      exact nx A (fun _ _ => rfl) ⟨fun _ => ec, fun _ _ => ec, fun q hq _ hz => absurd (hz.symm.trans r3) (hm1 q hq)⟩
    · rw [if_neg (show ¬ v_X3_hasPane A (66 + 2 * c) = 0 from by unfold v_X3_hasPane; rw [ec, r0, if_pos rfl, r3, if_neg (hm1 q hq)]; decide), ec, r3]
      have q1 : ∀ q', q' < 8 → I (66 + 2 * c) 3 = nI q' → q' = q := fun q' hq' hz => (n_eq (a := q') (b := q) (by omega) (by omega)).mp (hz.symm.trans r3)
      rcases paneAt_g (I := A) (s := 2) (m := m) (i := q) e2 hm hq with ⟨w1, w2⟩ | ⟨w1, w2⟩
      · rw [w2, if_neg (by omega)]
        exact nx A (fun _ _ => rfl) ⟨fun h1 => absurd (r0.symm.trans h1) (by decide), fun _ hz => absurd (r3.symm.trans hz) (hm1 q hq), fun q' hq' _ hz => ⟨fun _ => ec, fun hle => absurd hle (by have := q1 q' hq' hz; omega)⟩⟩
      · rw [w2, if_pos rfl]
        refine m_X3_takeNothing (zshS c hc) ?_
        rintro I5 rfl I6 rfl
        refine ⟨rfl, ?_⟩
        exact nx _ (fun a ha => by rw [zs_nec ha, zs_nec ha, zs_nec ha]) ⟨fun h1 => absurd (r0.symm.trans h1) (by decide), fun _ hz => absurd (r3.symm.trans hz) (hm1 q hq), fun q' hq' _ hz => ⟨fun hlt => absurd hlt (by have := q1 q' hq' hz; omega), fun _ => ⟨by rw [zs_ne (by omega), zs_ne (by omega), zs_same], by rw [zs_same]⟩⟩⟩
theorem x_restore (h1 : I 1 8 = 0) (hQ : Q (some (vI (-6))) (rf1 I 6) L) : Call l g 4 M_X6_restore [vR 1] I L Q := by
  refine m_X6_restore (fun k hk X E => ?_)
  rw [h1, if_pos rfl, hk]
  exact c_refuse (k := 6) (by decide) rfl ⟨_, rfl, hQ⟩
theorem shelf_in (hs : s < 8) : v_X6_shelfAt (nI s) = 66 + 2 * s := by
  unfold v_X6_shelfAt
  rw [if_neg (nI_pos (by omega)), if_pos (n8 hs), zcl (by omega)]
theorem u_show (h : VS I n m) (hs : s < 8) (hi : i < m) (hQ : ∀ I' : zI, (∀ a, a ≠ 66 + 2 * s → I' a = I a) → I' (66 + 2 * s) 4 = 0 → I' (66 + 2 * s) 3 = nI i → Q (some (vI 1)) I' L) : Call l g 2 M_X6_show [vR 1, vI (nI s), vI (nI i)] I L Q := by
  obtain ⟨hn, hm, e2, e3, -⟩ := h
  have hne : ¬ nI i = -1 := fun e1 => n_neg (a := -1) (by decide) i (by omega) e1.symm
  refine m_X6_show ?_
  rw [shelf_in hs, if_neg (by omega), if_neg hne, paneAt_in hm e3 hi, if_neg (by omega), if_neg hne]
  refine m_X3_takePane (zshS s hs) ?_
  rintro I1 rfl I2 rfl
  exact ⟨rfl, hQ _ (fun a ha => by rw [zs_nec ha, zs_nec ha, zs_nec ha]) (by rw [zs_ne (by omega), zs_ne (by omega), zs_same]) (by rw [zs_same])⟩
theorem x_show (h : VS I n m) (hQ : Q (some (vI (-1))) (rf1 I 1) L) : Call l g 2 M_X6_show [vR 1, vI 0, vI 8] I L Q := by
  obtain ⟨hn, hm, e2, e3, -⟩ := h
  refine m_X6_show ?_
  have e8 : v_X4_paneAt I 2 8 = 0 := by
    unfold v_X4_paneAt
    rw [e3, if_neg (by decide), if_neg (show ¬ 8 < nI m from (nI_nlt (by omega) (by omega) : ¬ nI 8 < nI m))]
  rw [if_neg (by decide), if_neg (by decide), if_pos e8]
  exact c_refuse (k := 1) (by decide) rfl ⟨_, rfl, hQ⟩
theorem u_row (hQ : ∀ (I' : zI) (L' : zL), (∀ a, a ≠ 72 → I' a = I a) → I' 72 4 = 1 → I' 72 1 = 1 → I' 72 2 = 5 → Q (some (vI 1)) I' L') : Call l g 2 M_X6_row [vR 1, vI 3, vI 1, vI 5] I L Q := by
  refine m_X6_row ?_
  rw [if_neg (by decide), if_neg (by decide), if_neg (by decide), if_neg (by decide), if_neg (by decide)]
  exact c_takeRow (p := 72) rfl (fun I1 L1 g1 g2 g3 g4 _ _ _ => ⟨rfl, hQ I1 L1 g1 g2 g3 g4⟩)
theorem x_row (hQ : Q (some (vI (-6))) (rf1 I 6) L) : Call l g 2 M_X6_row [vR 1, vI 0, vI 4, vI 3] I L Q := by
  refine m_X6_row ?_
  rw [if_neg (by decide), if_neg (by decide), if_neg (by decide), if_pos (by decide)]
  exact c_refuse (k := 6) (by decide) rfl ⟨_, rfl, hQ⟩
theorem u_set (h4 : I 72 4 = 1) (h1 : I 72 1 = 1) (h2 : I 72 2 = 5) (hQ : ∀ L' : zL, L' 73 1 = 77 → Q (some (vI 1)) I L') : Call l g 3 M_X6_set [vR 1, vI 3, vI 1, vL 77] I L Q := by
  refine m_X6_set ?_
  have e : v_X6_shelfAt 3 = 72 := by decide
  rw [e, if_neg (by decide)]
  refine ⟨Or.inr h4, ?_⟩
  rw [if_neg (show ¬ v_X3_hasRow I 72 = 0 from by unfold v_X3_hasRow; rw [h4]; decide), if_neg (by decide), h2, if_pos (by decide)]
  refine m_X3_put rfl ?_
  rw [if_neg (by decide), h2, if_pos (by decide), if_pos (by decide)]
  refine ⟨rfl, hQ _ ?_⟩
  have el : v_X3_lowestBits I 72 77 = 77 := by
    unfold v_X3_lowestBits
    rw [h1, if_neg (by decide), if_pos rfl]
    decide
  rw [el]
  exact zs_same
theorem x_press (h4 : I 66 4 = 0) (h3 : I 66 3 = -1) (hQ : Q (some (vI (-3))) (rf1 I 3) L) : Call l g 4 M_X6_press [vR 1, vI 0] I L Q := by
  refine m_X6_press ?_
  have e : v_X6_shelfAt 0 = 66 := by decide
  have el : v_X6_lackOfRow I 66 = -3 := by
    unfold v_X6_lackOfRow v_X3_hasPane
    rw [h4, h3, if_neg (by decide), if_pos rfl, if_pos rfl, if_pos rfl]
  rw [e, if_neg (by decide), el]
  refine ⟨Or.inl h4, ?_⟩
  rw [if_pos (show v_X3_hasRow I 66 = 0 from h4)]
  exact ⟨fun _ => rfl, c_refuse (k := 3) (by decide) rfl ⟨_, rfl, hQ⟩⟩
end ZIM
