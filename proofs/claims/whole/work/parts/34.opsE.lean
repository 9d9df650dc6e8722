/-! OPERATIONS: image, restore -/
theorem zs_at {α : Type} {M : Nat → Nat → α} {c k : Nat} {v : α} {j : Nat} : zs M c k v c j = if j = k then v else M c j := by
  unfold zs
  by_cases h : j = k
  · rw [if_pos ⟨rfl, h⟩, if_pos h]
  · rw [if_neg (fun z => h z.2), if_neg h]
theorem zsS : ∀ p, (p = 2 ∨ p = 21 ∨ p = 40) → zsh p = (14, 10) ∧ ∀ i, i < 8 → zsh (p + 3 + 2 * i) = (11, 6) := by
  rintro p (rfl | rfl | rfl)
  · exact ⟨rfl, by decide +kernel⟩
  · exact ⟨rfl, by decide +kernel⟩
  · exact ⟨rfl, by decide +kernel⟩
theorem RS_fun {I : zI} {s : Nat} {fm kd rm ow hg sc tr fm' kd' rm' ow' hg' sc' tr' : Nat → Int32} {le pa co we ou ho ed dr : Int32} {n m : Nat} (h : RS I s fm kd rm ow hg sc tr le pa co we ou ho ed dr n m) (h1 : ∀ j, j < 8 → fm' j = fm j ∧ kd' j = kd j ∧ rm' j = rm j ∧ ow' j = ow j ∧ hg' j = hg j ∧ sc' j = sc j) (h2 : ∀ x, x < 128 → tr' x = tr x) : RS I s fm' kd' rm' ow' hg' sc' tr' le pa co we ou ho ed dr n m := by
  obtain ⟨hn, hm, f2, f3, f4, f5, f6, f7, f8, f9, hf, hP⟩ := h
  refine ⟨hn, hm, f2, f3, f4, f5, f6, f7, f8, f9, fun j hj => ?_, fun i hi => ?_⟩
  · rw [(h1 j (by omega)).1]
    exact hf j hj
  · obtain ⟨-, q1, q2, q3, q4, q5⟩ := h1 i (by omega)
    have := hP i hi
    unfold RPn at *
    rw [q1, q2, q3, q4, q5]
    refine ⟨this.1, this.2.1, this.2.2.1, this.2.2.2.1, this.2.2.2.2.1, fun c hc => ?_⟩
    dsimp only
    rw [h2 _ (by omega)]
    exact this.2.2.2.2.2 c hc
section ZIM
variable {l : Launch} {g : zG} {Q : Option zv → zI → zL → Prop} {I A : zI} {L : zL} {p q n m : Nat}
theorem c_paneAll (hp : zsh p = (11, 6)) (hq : zsh q = (11, 6)) (hpq : p + 1 < q ∨ q + 1 < p) (h : ∀ I' : zI, (∀ a, a ≠ p → a ≠ p + 1 → I' a = I a) → (∀ j, j < 5 → I' p j = I q j) → (∀ c, c < 16 → I' (p + 1) c = I (q + 1) c) → Q none I' L) : Call l g 2 M_X1_takeAll [vR p, vR q] I L Q := by
  refine m_X1_takeAll hp (fun k hk X E => ?_)
  refine c_takeGlass hp hq (by omega) (fun I1 g1 g2 => ⟨rfl, ?_⟩)
  refine zdown (N := 16) (P := fun c => ∀ A : zI, (∀ a, a ≠ p + 1 → A a = I1 a) → (∀ j, j < c → A (p + 1) j = I (q + 1) j) → AW k g 3 A L 7 [(0, vR p), (1, vR q), (2, vI (nI c))] []) (fun A a1 a2 => ?_) (fun c hc ih A a1 a2 => ?_) (c := 0) (by omega) I1 (fun _ _ => rfl) (fun _ hh => absurd hh (Nat.not_lt_zero _))
  · refine s_X1_takeAll_7 hp X E ?_
    rw [if_neg (show ¬ nI 16 < 16 by decide)]
    exact h A (fun a h1 h2 => (a1 a h2).trans (g1 a h1)) (fun j hj => by rw [a1 p (by omega)]; exact g2 j hj) a2
  · refine s_X1_takeAll_7 hp X E ?_
    have e : v_X1_iceOn A q (nI c) = I (q + 1) c := by
      unfold v_X1_iceOn
      rw [if_neg (nI_pos (by omega)), if_pos (n16 hc), zcl (by omega), a1 (q + 1) (by omega), g1 (q + 1) (by omega)]
    rw [if_pos (n16 hc), e, zcl (by omega), ← nI_succ]
    refine ⟨hq, zvin hc (by decide), ih _ (fun a ha => by rw [zs_nec ha]; exact a1 a ha) (fun j hj => ?_)⟩
    by_cases e : j = c
    · rw [e, zs_same]
    · rw [zs_ne (fun z => e z.2)]
      exact a2 j (by omega)
theorem paneAt_g {s i : Nat} (e : I s 3 = nI m) (hm : m ≤ 8) (hi : i < 8) : (i < m ∧ v_X4_paneAt I s (nI i) = s + 3 + 2 * i) ∨ (m ≤ i ∧ v_X4_paneAt I s (nI i) = 0) := by
  unfold v_X4_paneAt
  rw [if_neg (nI_pos (by omega)), e]
  by_cases h : i < m
  · exact Or.inl ⟨h, by rw [if_pos (nI_lt h (by omega)), if_pos (n8 hi), zcl (by omega)]⟩
  · exact Or.inr ⟨by omega, by rw [if_neg (nI_nlt (by omega) (by omega))]⟩
theorem c_streetAll {fm kd rm ow hg sc tr : Nat → Int32} {le pa co we ou ho ed dr : Int32} (hp : p = 2 ∨ p = 21 ∨ p = 40) (hq : q = 2 ∨ q = 21 ∨ q = 40) (hpq : p ≠ q) (h0 : RS I q fm kd rm ow hg sc tr le pa co we ou ho ed dr n m) (h : ∀ I' : zI, (∀ a, (a < p ∨ p + 18 < a) → I' a = I a) → RS I' p fm kd rm ow hg sc tr le pa co we ou ho ed dr n m → Q none I' L) : Call l g 3 M_X4_takeAll [vR p, vR q] I L Q := by
  obtain ⟨hn, hm, f2, f3, f4, f5, f6, f7, f8, f9, hf, hP⟩ := h0
  have hd : p + 18 < q ∨ q + 18 < p := by omega
  obtain ⟨zp1, zp2⟩ := zsS p hp
  obtain ⟨zq1, zq2⟩ := zsS q hq
  refine m_X4_takeAll zp1 (fun k hk X E => ?_)
  refine zdown (N := 8) (P := fun c => ∀ A : zI, (∀ a, a ≠ p + 1 → A a = I a) → (∀ j, j < c → j < n → A (p + 1) j = fm j) → AW k g 4 A L 2 [(0, vR p), (1, vR q), (2, vI (nI c))] []) (fun A a1 a2 => ?_) (fun c hc ih A a1 a2 => ?_) (c := 0) (by omega) I (fun _ _ => rfl) (fun _ hh => absurd hh (Nat.not_lt_zero _))
  · refine s_X4_takeAll_2 zp1 X E ?_
    rw [if_neg (show ¬ nI 8 < 8 by decide)]
    refine zdown (N := 8) (P := fun c => ∀ B : zI, (∀ a, (a < p + 3 ∨ p + 18 < a) → B a = A a) → (∀ i, i < c → i < m → (∀ j, j < 5 → B (p + 3 + 2 * i) j = I (q + 3 + 2 * i) j) ∧ ∀ x, x < 16 → B (p + 3 + 2 * i + 1) x = I (q + 3 + 2 * i + 1) x) → AW k g 4 B L 30 [(0, vR p), (1, vR q), (2, vI (nI c))] []) (fun B b1 b2 => ?_) (fun c hc ih B b1 b2 => ?_) (c := 0) (by omega) A (fun _ _ => rfl) (fun _ hh => absurd hh (Nat.not_lt_zero _))
    · refine s_X4_takeAll_30 zp1 X E ?_
      rw [if_neg (show ¬ nI 8 < 8 by decide)]
      refine ⟨zq1, ?_⟩
      have bq : B q = I q := by rw [b1 q (by omega), a1 q (by omega)]
      intro I7 e7
      have q7 : I7 q = I q := by rw [e7, zs_nec (by omega), bq]
      intro I8 e8
      have q8 : I8 q = I q := by rw [e8, zs_nec (by omega), q7]
      intro I9 e9
      have q9 : I9 q = I q := by rw [e9, zs_nec (by omega), q8]
      intro I10 e10
      have q10 : I10 q = I q := by rw [e10, zs_nec (by omega), q9]
      intro I11 e11
      have q11 : I11 q = I q := by rw [e11, zs_nec (by omega), q10]
      intro I12 e12
      have q12 : I12 q = I q := by rw [e12, zs_nec (by omega), q11]
      intro I13 e13
      have q13 : I13 q = I q := by rw [e13, zs_nec (by omega), q12]
      rw [bq] at e7
      rw [q7] at e8
      rw [q8] at e9
      rw [q9] at e10
      rw [q10] at e11
      rw [q11] at e12
      rw [q12] at e13
      rw [q13]
      have hF : ∀ j, zs I13 p 9 (I q 9) p j = if j = 9 then I q 9 else if j = 8 then I q 8 else if j = 7 then I q 7 else if j = 6 then I q 6 else if j = 5 then I q 5 else if j = 4 then I q 4 else if j = 3 then I q 3 else if j = 2 then I q 2 else B p j := fun j => by
        rw [zs_at, e13, zs_at, e12, zs_at, e11, zs_at, e10, zs_at, e9, zs_at, e8, zs_at, e7, zs_at]
      have hO : ∀ a, a ≠ p → zs I13 p 9 (I q 9) a = B a := fun a ha => by rw [zs_nec ha, e13, zs_nec ha, e12, zs_nec ha, e11, zs_nec ha, e10, zs_nec ha, e9, zs_nec ha, e8, zs_nec ha, e7, zs_nec ha]
      refine h _ (fun a ha => by rw [hO a (by omega), b1 a (by omega), a1 a (by omega)]) ?_
      unfold RS
      rw [show zs I13 p 9 (I q 9) p 2 = I q 2 from hF 2, show zs I13 p 9 (I q 9) p 3 = I q 3 from hF 3, show zs I13 p 9 (I q 9) p 4 = I q 4 from hF 4, show zs I13 p 9 (I q 9) p 5 = I q 5 from hF 5, show zs I13 p 9 (I q 9) p 6 = I q 6 from hF 6, show zs I13 p 9 (I q 9) p 7 = I q 7 from hF 7, show zs I13 p 9 (I q 9) p 8 = I q 8 from hF 8, show zs I13 p 9 (I q 9) p 9 = I q 9 from hF 9]
      refine ⟨hn, hm, f2, f3, f4, f5, f6, f7, f8, f9, fun j hj => ?_, fun i hi => ?_⟩
      · rw [hO (p + 1) (by omega), b1 (p + 1) (by omega), a2 j (by omega) hj]
        exact ⟨rfl, (hf j hj).2⟩
      · obtain ⟨r1, r2⟩ := b2 i (by omega) hi
        have := hP i hi
        unfold RPn at *
        rw [hO (p + 3 + 2 * i) (by omega), hO (p + 3 + 2 * i + 1) (by omega), r1 0 (by decide), r1 1 (by decide), r1 2 (by decide), r1 3 (by decide), r1 4 (by decide)]
        refine ⟨this.1, this.2.1, this.2.2.1, this.2.2.2.1, this.2.2.2.2.1, fun c hc => ?_⟩
        rw [r2 c hc]
        exact this.2.2.2.2.2 c hc
    · refine s_X4_takeAll_30 zp1 X E ?_
      have bq : B q = I q := by rw [b1 q (by omega), a1 q (by omega)]
      rw [if_pos (n8 hc), zcl (by omega)]
      refine ⟨zq1, zvin hc (by decide), ?_⟩
      rcases paneAt_g (I := B) (s := q) (m := m) (i := c) (by rw [bq]; exact f3.1) hm hc with ⟨w1, w2⟩ | ⟨w1, w2⟩
      · rw [w2, if_neg (by omega)]
        refine c_paneAll (zp2 c hc) (zq2 c hc) (by omega) (fun B2 k1 k2 k3 => ⟨rfl, ?_⟩)
        rw [← nI_succ]
        refine ih B2 (fun a ha => (k1 a (by omega) (by omega)).trans (b1 a ha)) (fun i hi him => ?_)
        by_cases e : i = c
        · subst e
          have t1 : B (q + 3 + 2 * i) = I (q + 3 + 2 * i) := by rw [b1 _ (by omega), a1 _ (by omega)]
          have t2 : B (q + 3 + 2 * i + 1) = I (q + 3 + 2 * i + 1) := by rw [b1 _ (by omega), a1 _ (by omega)]
          rw [t1] at k2
          rw [t2] at k3
          exact ⟨k2, k3⟩
        · rw [k1 (p + 3 + 2 * i) (by omega) (by omega), k1 (p + 3 + 2 * i + 1) (by omega) (by omega)]
          exact b2 i (by omega) him
      · rw [w2, if_pos rfl, ← nI_succ]
        exact ih B b1 (fun i hi him => b2 i (by omega) him)
  · refine s_X4_takeAll_2 zp1 X E ?_
    rw [if_pos (n8 hc), zcl (by omega), ← nI_succ]
    refine ⟨zq1, zvin hc (by decide), ih _ (fun a ha => by rw [zs_nec ha]; exact a1 a ha) (fun j hj hjn => ?_)⟩
    by_cases e : j = c
    · subst e
      rw [zs_same, cellsOf_in (n := n) (by rw [a1 q (by omega)]; exact f2.1) hn hjn, a1 (q + 1) (by omega)]
      exact (hf j hjn).1
    · rw [zs_ne (fun z => e z.2)]
      exact a2 j (by omega) hjn
def imf (A : zI) (x : Nat) : Int32 := if x < 8 then A 91 x else if x < 16 then A 92 (x - 8) else if x < 24 then A 93 (x - 16) else if x < 32 then A 94 (x - 24) else if x < 40 then A 95 (x - 32) else A 96 (x - 40)
theorem imf_at (A : zI) {c : Nat} (hc : c < 8) : imf A c = A 91 c ∧ imf A (8 + c) = A 92 c ∧ imf A (16 + c) = A 93 c ∧ imf A (24 + c) = A 94 c ∧ imf A (32 + c) = A 95 c ∧ imf A (40 + c) = A 96 c := by
  unfold imf
  refine ⟨?_, ?_, ?_, ?_, ?_, ?_⟩
  · rw [if_pos hc]
  · rw [if_neg (by omega), if_pos (by omega), show 8 + c - 8 = c by omega]
  · rw [if_neg (by omega), if_neg (by omega), if_pos (by omega), show 16 + c - 16 = c by omega]
  · rw [if_neg (by omega), if_neg (by omega), if_neg (by omega), if_pos (by omega), show 24 + c - 24 = c by omega]
  · rw [if_neg (by omega), if_neg (by omega), if_neg (by omega), if_neg (by omega), if_pos (by omega), show 32 + c - 32 = c by omega]
  · rw [if_neg (by omega), if_neg (by omega), if_neg (by omega), if_neg (by omega), if_neg (by omega), show 40 + c - 40 = c by omega]
theorem a8 (b c : Nat) : nI b + nI c = nI (b + c) := nI_add b c
theorem m_imageAll (h : ∀ A' : zI, (∀ a, a ≠ 87 → a ≠ 100 → A' a = A a) → (∀ j, j ≠ 22 → A' 87 j = A 87 j) → A' 87 22 = 1 → (∀ x, x < 48 → A' 100 x = imf A x) → (∀ x, x < 128 → A' 100 (48 + x) = A 97 x) → (A' 100 176 = A 87 3 ∧ A' 100 177 = A 87 5 ∧ A' 100 178 = A 87 12 ∧ A' 100 179 = A 87 13 ∧ A' 100 180 = A 87 14 ∧ A' 100 181 = A 87 15 ∧ A' 100 182 = A 87 16 ∧ A' 100 183 = A 87 17) → Q (some (vI (A 87 5))) A' L) : Call l g 1 M_X7_image [vR 87] A L Q := by
  refine m_X7_image (fun k hk X E => ?_)
  refine zdown (N := 8) (P := fun c => ∀ B : zI, (∀ a, a ≠ 87 → a ≠ 100 → B a = A a) → (∀ j, j ≠ 22 → B 87 j = A 87 j) → B 87 22 = 1 → (∀ x, x < 48 → x % 8 < c → B 100 x = imf A x) → AW k g 2 B L 7 [(0, vR 87), (1, vI (nI c))] []) (fun B b1 b2 b3 b4 => ?_) (fun c hc ih B b1 b2 b3 b4 => ?_) (c := 0) (by omega) _ (fun a h1 _ => by rw [zs_nec h1]) (fun j hj => by rw [zs_ne (fun z => hj z.2)]) (by rw [zs_same]) (fun _ _ hh => absurd hh (Nat.not_lt_zero _))
  · refine s_X7_image_7 X E ?_
    rw [if_neg (show ¬ nI 8 < 8 by decide)]
    refine zdown (N := 128) (P := fun c => ∀ C : zI, (∀ a, a ≠ 100 → C a = B a) → (∀ x, x < 48 → C 100 x = imf A x) → (∀ x, x < c → C 100 (48 + x) = A 97 x) → AW k g 2 C L 108 [(0, vR 87), (1, vI (nI c))] []) (fun C c1 c2 c3 => ?_) (fun c hc ih C c1 c2 c3 => ?_) (c := 0) (by omega) B (fun _ _ => rfl) (fun x hx => b4 x hx (by omega)) (fun _ hh => absurd hh (Nat.not_lt_zero _))
    · refine s_X7_image_108 X E ?_
      rw [if_neg (show ¬ nI 128 < 128 by decide)]
      have q0 : C 87 = B 87 := c1 87 (by decide)
      rw [q0]
      intro I4 e4
      have q4 : I4 87 = B 87 := by rw [e4, zs_nec (by decide), q0]
      rw [q4]
      intro I5 e5
      have q5 : I5 87 = B 87 := by rw [e5, zs_nec (by decide), q4]
      rw [q5]
      intro I6 e6
      have q6 : I6 87 = B 87 := by rw [e6, zs_nec (by decide), q5]
      rw [q6]
      intro I7 e7
      have q7 : I7 87 = B 87 := by rw [e7, zs_nec (by decide), q6]
      rw [q7]
      intro I8 e8
      have q8 : I8 87 = B 87 := by rw [e8, zs_nec (by decide), q7]
      rw [q8]
      intro I9 e9
      have q9 : I9 87 = B 87 := by rw [e9, zs_nec (by decide), q8]
      rw [q9]
      intro I10 e10
      have q10 : I10 87 = B 87 := by rw [e10, zs_nec (by decide), q9]
      rw [q10]
      intro I11 e11
      have q11 : I11 87 = B 87 := by rw [e11, zs_nec (by decide), q10]
      have hF : ∀ j, I11 100 j = if j = 183 then B 87 17 else if j = 182 then B 87 16 else if j = 181 then B 87 15 else if j = 180 then B 87 14 else if j = 179 then B 87 13 else if j = 178 then B 87 12 else if j = 177 then B 87 5 else if j = 176 then B 87 3 else C 100 j := fun j => by
        rw [e11, zs_at, e10, zs_at, e9, zs_at, e8, zs_at, e7, zs_at, e6, zs_at, e5, zs_at, e4, zs_at]
      have hO : ∀ a, a ≠ 100 → I11 a = C a := fun a ha => by rw [e11, zs_nec ha, e10, zs_nec ha, e9, zs_nec ha, e8, zs_nec ha, e7, zs_nec ha, e6, zs_nec ha, e5, zs_nec ha, e4, zs_nec ha]
      have hG : ∀ j, j < 176 → I11 100 j = C 100 j := fun j hj => by
        rw [hF, if_neg (by omega), if_neg (by omega), if_neg (by omega), if_neg (by omega), if_neg (by omega), if_neg (by omega), if_neg (by omega), if_neg (by omega)]
      rw [q11, b2 5 (by decide)]
      refine h I11 (fun a ha hb => by rw [hO a hb, c1 a hb]; exact b1 a ha hb) (fun j hj => by rw [q11]; exact b2 j hj) (by rw [q11]; exact b3) (fun x hx => by rw [hG x (by omega)]; exact c2 x hx) (fun x hx => by rw [hG _ (by omega)]; exact c3 x hx) ?_
      rw [show I11 100 176 = B 87 3 from hF 176, show I11 100 177 = B 87 5 from hF 177, show I11 100 178 = B 87 12 from hF 178, show I11 100 179 = B 87 13 from hF 179, show I11 100 180 = B 87 14 from hF 180, show I11 100 181 = B 87 15 from hF 181, show I11 100 182 = B 87 16 from hF 182, show I11 100 183 = B 87 17 from hF 183]
      exact ⟨b2 3 (by decide), b2 5 (by decide), b2 12 (by decide), b2 13 (by decide), b2 14 (by decide), b2 15 (by decide), b2 16 (by decide), b2 17 (by decide)⟩
    · refine s_X7_image_108 X E ?_
      rw [if_pos (show nI c < 128 from (nI_lt hc (by decide) : nI c < nI 128)), show (48 : Int32) + nI c = nI (48 + c) from nI_add 48 c, zcl (by omega), zcl (by omega), ← nI_succ]
      refine ⟨zvin hc (by decide), zvin (by omega) (by decide), ih _ (fun a ha => by rw [zs_nec ha]; exact c1 a ha) (fun x hx => by rw [zs_ne (fun z => by omega)]; exact c2 x hx) (fun x hx => ?_)⟩
      by_cases e : x = c
      · rw [e, zs_same, c1 97 (by decide), b1 97 (by decide) (by decide)]
      · rw [zs_ne (fun z => by omega)]
        exact c3 x (by omega)
  · refine s_X7_image_7 X E ?_
    rw [if_pos (n8 hc), zcl (by omega), show (8 : Int32) + nI c = nI (8 + c) from nI_add 8 c, show (16 : Int32) + nI c = nI (16 + c) from nI_add 16 c, show (24 : Int32) + nI c = nI (24 + c) from nI_add 24 c, show (32 : Int32) + nI c = nI (32 + c) from nI_add 32 c, show (40 : Int32) + nI c = nI (40 + c) from nI_add 40 c, zcl (show 8 + c < 2147483648 by omega), zcl (show 16 + c < 2147483648 by omega), zcl (show 24 + c < 2147483648 by omega), zcl (show 32 + c < 2147483648 by omega), zcl (show 40 + c < 2147483648 by omega), ← nI_succ]
    refine ⟨zvin hc (by decide), zvin (by omega) (by decide), ?_⟩
    intro I4 e4
    have o4 : ∀ a, a ≠ 100 → I4 a = B a := fun a ha => by rw [e4, zs_nec ha]
    refine ⟨zvin (by omega) (by decide), ?_⟩
    rw [o4 92 (by decide)]
    intro I6 e6
    have o6 : ∀ a, a ≠ 100 → I6 a = B a := fun a ha => by rw [e6, zs_nec ha, o4 a ha]
    refine ⟨zvin (by omega) (by decide), ?_⟩
    rw [o6 93 (by decide)]
    intro I8 e8
    have o8 : ∀ a, a ≠ 100 → I8 a = B a := fun a ha => by rw [e8, zs_nec ha, o6 a ha]
    refine ⟨zvin (by omega) (by decide), ?_⟩
    rw [o8 94 (by decide)]
    intro I10 e10
    have o10 : ∀ a, a ≠ 100 → I10 a = B a := fun a ha => by rw [e10, zs_nec ha, o8 a ha]
    refine ⟨zvin (by omega) (by decide), ?_⟩
    rw [o10 95 (by decide)]
    intro I12 e12
    have o12 : ∀ a, a ≠ 100 → I12 a = B a := fun a ha => by rw [e12, zs_nec ha, o10 a ha]
    refine ⟨zvin (by omega) (by decide), ?_⟩
    rw [o12 96 (by decide)]
    have hF : ∀ j, zs I12 100 (40 + c) (B 96 c) 100 j = if j = 40 + c then B 96 c else if j = 32 + c then B 95 c else if j = 24 + c then B 94 c else if j = 16 + c then B 93 c else if j = 8 + c then B 92 c else if j = c then B 91 c else B 100 j := fun j => by
      rw [zs_at, e12, zs_at, e10, zs_at, e8, zs_at, e6, zs_at, e4, zs_at]
    rw [b1 91 (by decide) (by decide), b1 92 (by decide) (by decide), b1 93 (by decide) (by decide), b1 94 (by decide) (by decide), b1 95 (by decide) (by decide), b1 96 (by decide) (by decide)] at hF
    rw [b1 96 (by decide) (by decide)]
    obtain ⟨t0, t1, t2, t3, t4, t5⟩ := imf_at A hc
    refine ih _ (fun a h1 h2 => by rw [zs_nec h2, o12 a h2]; exact b1 a h1 h2) (fun j hj => by rw [zs_nec (by decide), o12 87 (by decide)]; exact b2 j hj) (by rw [zs_nec (by decide), o12 87 (by decide)]; exact b3) (fun x hx hm => ?_)
    rw [hF]
    by_cases e : x % 8 = c
    · have : x = c ∨ x = 8 + c ∨ x = 16 + c ∨ x = 24 + c ∨ x = 32 + c ∨ x = 40 + c := by omega
      rcases this with e | e | e | e | e | e <;> rw [e]
      · rw [if_neg (by omega), if_neg (by omega), if_neg (by omega), if_neg (by omega), if_neg (by omega), if_pos rfl, t0]
      · rw [if_neg (by omega), if_neg (by omega), if_neg (by omega), if_neg (by omega), if_pos rfl, t1]
      · rw [if_neg (by omega), if_neg (by omega), if_neg (by omega), if_pos rfl, t2]
      · rw [if_neg (by omega), if_neg (by omega), if_pos rfl, t3]
      · rw [if_neg (by omega), if_pos rfl, t4]
      · rw [if_pos rfl, t5]
    · rw [if_neg (by omega), if_neg (by omega), if_neg (by omega), if_neg (by omega), if_neg (by omega), if_neg (by omega)]
      exact b4 x hx (by omega)
end ZIM
/-- the image as the relation has it -/
theorem RO_of {I : zI} {A : zI} {n m : Nat} (h : RS I 21 (A 91) (A 92) (A 93) (A 94) (A 95) (A 96) (A 97) (A 87 3) (A 87 5) (A 87 12) (A 87 13) (A 87 14) (A 87 15) (A 87 16) (A 87 17) n m) (h1 : ∀ x, x < 48 → I 100 x = imf A x) (h2 : ∀ x, x < 128 → I 100 (48 + x) = A 97 x) (h3 : I 100 176 = A 87 3 ∧ I 100 177 = A 87 5 ∧ I 100 178 = A 87 12 ∧ I 100 179 = A 87 13 ∧ I 100 180 = A 87 14 ∧ I 100 181 = A 87 15 ∧ I 100 182 = A 87 16 ∧ I 100 183 = A 87 17) : RO I n m := by
  unfold RO
  obtain ⟨t0, t1, t2, t3, t4, t5, t6, t7⟩ := h3
  rw [t0, t1, t2, t3, t4, t5, t6, t7]
  refine RS_fun h (fun j hj => ?_) h2
  obtain ⟨u0, u1, u2, u3, u4, u5⟩ := imf_at A hj
  exact ⟨(h1 j (by omega)).trans u0, (h1 (8 + j) (by omega)).trans u1, (h1 (16 + j) (by omega)).trans u2, (h1 (24 + j) (by omega)).trans u3, (h1 (32 + j) (by omega)).trans u4, (h1 (40 + j) (by omega)).trans u5⟩
theorem sim_image : Sim M_X6_image 4 M_X7_image 1 [] := by
  rintro l g I L ⟨n, m, h⟩
  obtain ⟨hW, hN, hn, hm, e2, e2', e3, e3', e4, e5, e6, hf⟩ := Rn_wx h
  refine m_X6_image ?_
  refine c_streetAll (p := 21) (q := 2) (by decide) (by decide) (by decide) h.1 (fun I1 g1 g2 => ⟨rfl, ?_⟩)
  rintro I2 rfl
  have q : ∀ a, a ≠ 1 → (a < 21 ∨ 39 < a) → zs I1 1 8 1 a = I a := fun a h1 h2 => by rw [zs_nec h1]; exact g1 a (by omega)
  rw [q 2 (by decide) (by decide), e3]
  refine ⟨_, rfl, m_imageAll (fun B k1 k2 k3 k4 k5 k6 => ⟨_, rfl, ?_, n, m, ?_⟩)⟩
  · rw [q 87 (by decide) (by decide), e3']
  rw [q 87 (by decide) (by decide)] at k2 k6
  have ei : ∀ x, imf (zs I1 1 8 1) x = imf I x := fun x => by
    unfold imf
    rw [q 91 (by decide) (by decide), q 92 (by decide) (by decide), q 93 (by decide) (by decide), q 94 (by decide) (by decide), q 95 (by decide) (by decide), q 96 (by decide) (by decide)]
  have r : ∀ a, a ≠ 1 → (a < 21 ∨ 39 < a) → a ≠ 87 → a ≠ 100 → B a = I a := fun a h1 h2 h3 h4 => (k1 a h3 h4).trans (q a h1 h2)
  obtain ⟨a1, a2, a3, a4, a5, a6⟩ := h
  refine ⟨?_, ⟨?_, Or.inr ⟨?_, n, m, ?_⟩⟩, fun s hs => ?_, ?_, ?_, ?_⟩
  · unfold RC at *
    rw [r 91 (by decide) (by decide) (by decide) (by decide), r 92 (by decide) (by decide) (by decide) (by decide), r 93 (by decide) (by decide) (by decide) (by decide), r 94 (by decide) (by decide) (by decide) (by decide), r 95 (by decide) (by decide) (by decide) (by decide), r 96 (by decide) (by decide) (by decide) (by decide), r 97 (by decide) (by decide) (by decide) (by decide), k2 3 (by decide), k2 5 (by decide), k2 12 (by decide), k2 13 (by decide), k2 14 (by decide), k2 15 (by decide), k2 16 (by decide), k2 17 (by decide)]
    exact RS_cong (fun a ha hb => r a (by omega) (by omega) (by omega) (by omega)) a1
  · rw [k1 1 (by decide) (by decide), zs_same, k3]
  · rw [k1 1 (by decide) (by decide), zs_same]
  · refine RO_of (A := I) (RS_cong (fun a ha hb => by rw [k1 a (by omega) (by omega), zs_nec (by omega)]) g2) (fun x hx => (k4 x hx).trans (ei x)) (fun x hx => by rw [k5 x hx, q 97 (by decide) (by decide)]) k6
  · have := a3 s hs
    unfold RSh v_X3_lowestBits at *
    rw [r (66 + 2 * s) (by omega) (by omega) (by omega) (by omega), r 88 (by decide) (by decide) (by decide) (by decide), r 89 (by decide) (by decide) (by decide) (by decide)]
    exact this
  · unfold RF at *
    rw [r 86 (by decide) (by decide) (by decide) (by decide), r 98 (by decide) (by decide) (by decide) (by decide)]
    exact a4
  · rw [r 82 (by decide) (by decide) (by decide) (by decide), k2 18 (by decide)]
    exact a5
  · unfold RA at *
    rw [r 84 (by decide) (by decide) (by decide) (by decide), k2 20 (by decide), r 85 (by decide) (by decide) (by decide) (by decide), r 99 (by decide) (by decide) (by decide) (by decide)]
    exact a6
