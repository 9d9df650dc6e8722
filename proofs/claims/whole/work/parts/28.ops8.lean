/-! OPERATIONS: room, hang, form, pane, scratch -/
/-- a change of one pane -/
theorem Rn_one {I I' : zI} {L : zL} {n m i : Nat} (h : Rn I L n m) (hi : i < m) (hI : ∀ a, ¬ scr a → a ≠ 5 + 2 * i → a ≠ 6 + 2 * i → (a < 92 ∨ 97 < a) → I' a = I a) (hj : ∀ j, j < 8 → j ≠ i → I' 92 j = I 92 j ∧ I' 93 j = I 93 j ∧ I' 94 j = I 94 j ∧ I' 95 j = I 95 j ∧ I' 96 j = I 96 j) (ht : ∀ x, (x < 16 * i ∨ 16 * i + 16 ≤ x) → I' 97 x = I 97 x) (hp : RPn I' (5 + 2 * i) (I' 92 i) (I' 93 i) (I' 94 i) (I' 95 i) (I' 96 i) (fun c => I' 97 (16 * i + c)) n) : Rn I' L n m := by
  have hm : m ≤ 8 := h.1.2.1
  have e87 : I' 87 = I 87 := hI 87 s87 (by omega) (by omega) (by omega)
  refine Rn_street h (fun a h1 h2 h3 h4 => hI a h2 (by omega) (by omega) (by omega)) (hI 1 (by unfold scr; omega) (by omega) (by omega) (by omega)) (fun j _ => by rw [e87]) (Nat.le_refl _) ?_
  obtain ⟨h1, h2, h3, h4, h5, h6, h7, h8, h9, h10, h11, h12⟩ := h.1
  have e2 : I' 2 = I 2 := hI 2 (by unfold scr; omega) (by omega) (by omega) (by omega)
  have e3 : I' (2 + 1) = I (2 + 1) := hI 3 (by unfold scr; omega) (by omega) (by omega) (by omega)
  have e91 : I' 91 = I 91 := hI 91 (by unfold scr; omega) (by omega) (by omega) (by omega)
  unfold RC RS
  rw [e2, e3, e87, e91]
  refine ⟨h1, h2, h3, h4, h5, h6, h7, h8, h9, h10, h11, fun j hjm => ?_⟩
  by_cases e : j = i
  · subst e
    exact hp
  · obtain ⟨q1, q2, q3, q4, q5⟩ := hj j (by omega) e
    have := h12 j hjm
    rw [show 2 + 3 + 2 * j = 5 + 2 * j by omega] at this ⊢
    unfold RPn at *
    rw [hI (5 + 2 * j) (by unfold scr; omega) (by omega) (by omega) (by omega), hI (5 + 2 * j + 1) (by unfold scr; omega) (by omega) (by omega) (by omega), q1, q2, q3, q4, q5]
    refine ⟨this.1, this.2.1, this.2.2.1, this.2.2.2.1, this.2.2.2.2.1, fun c hc => ?_⟩
    dsimp only
    rw [ht (16 * j + c) (by omega)]
    exact this.2.2.2.2.2 c hc
theorem Rn_RPn {I : zI} {L : zL} {n m i : Nat} (h : Rn I L n m) (hi : i < m) : RPn I (5 + 2 * i) (I 92 i) (I 93 i) (I 94 i) (I 95 i) (I 96 i) (fun c => I 97 (16 * i + c)) n := by
  have := h.1.2.2.2.2.2.2.2.2.2.2.2 i hi
  rw [show 2 + 3 + 2 * i = 5 + 2 * i by omega] at this
  exact this
theorem sim_room (a1 a2 : Int32) : Sim M_X6_room 2 M_X7_room 3 [vI a1, vI a2] := by
  rintro l g I L ⟨n, m, h⟩
  obtain ⟨hW, hN, hn, hm, e2, e2', e3, e3', e4, e5, e6, hf⟩ := Rn_wx h
  refine m_X6_room ?_
  rcases pane_cases hm e3 e3' a1 with ⟨c1, c2⟩ | ⟨i, hi, rfl, c1, c2⟩
  · rw [if_pos c1]
    exact both_no (k := 1) (by decide) rfl h (fun Q hq => m_X7_room (by rw [if_pos (show v_X7_isPane (rf1 I 1) a1 = 0 from c2)]; exact hq))
  rw [if_neg (by rw [c1]; omega), c1]
  rcases may_cases a2 9 (by decide) with ⟨w, w2⟩ | ⟨hz, w1, w2, w4⟩
  · have key : Call l g 1 M_X6_refuse [vR 1, vI (-6)] I L (zi fun r2 I2 L2 => SimQ l g M_X7_room 3 [vR 87, vI (nI i), vI a2] (some (vI r2)) I2 L2) := both_no (k := 6) (by decide) rfl h (fun Q hq => m_X7_room (by rw [if_neg (show ¬ v_X7_isPane (rf1 I 6) (nI i) = 0 from ne0 c2), if_pos (show v_X7_within a2 0 9 = 0 from w2)]; exact hq))
    rcases w with w | ⟨w, w'⟩
    · rw [if_pos w]; exact key
    · rw [if_neg w, if_pos (show 9 < a2 from w')]; exact key
  · rw [if_neg w1, if_neg (show ¬ 9 < a2 from w2)]
    obtain ⟨⟨i8, z0, z1, z2⟩, p0, p1, p2, p3, p4, p5, p6⟩ := Rn_pane h hi
    refine ⟨_, rfl, m_X7_room ?_⟩
    rw [if_neg (by rw [tP (I := I) (zs_nec (by omega))]; exact ne0 c2), if_neg (show ¬ v_X7_within a2 0 9 = 0 from ne0 w4), zcl (by omega), zs_nec (by omega)]
    refine ⟨zvin i8 (by decide), _, rfl, p1, n, m, Rn_one h hi (fun a h1 h2 h3 h4 => by rw [zs_nec (by omega), zs_nec h2]) (fun j hj hji => ?_) (fun x _ => by rw [zs_nec (by omega), zs_nec (by omega)]) ?_⟩
    · rw [zs_nec (by omega), zs_nec (by omega), zs_ne (fun z => hji z.2), zs_nec (by omega), zs_nec (by omega), zs_nec (by omega), zs_nec (by omega), zs_nec (by omega), zs_nec (by omega), zs_nec (by omega)]
      exact ⟨rfl, rfl, rfl, rfl, rfl⟩
    · obtain ⟨q0, q1, q2, q3, q4, q5⟩ := Rn_RPn h hi
      unfold RPn
      rw [zs_nec (show 5 + 2 * i ≠ 93 by omega), zs_nec (show 5 + 2 * i + 1 ≠ 93 by omega), zs_nec (show 5 + 2 * i + 1 ≠ 5 + 2 * i by omega), zs_same (M := zs I (5 + 2 * i) 1 a2), zs_same, zs_ne (M := I) (k := 1) (j := 0) (fun z => by omega), zs_ne (M := I) (k := 1) (j := 2) (fun z => by omega), zs_ne (M := I) (k := 1) (j := 3) (fun z => by omega), zs_ne (M := I) (k := 1) (j := 4) (fun z => by omega), zs_nec (show 92 ≠ 93 by omega), zs_nec (show 92 ≠ 5 + 2 * i by omega), zs_nec (show 94 ≠ 93 by omega), zs_nec (show 94 ≠ 5 + 2 * i by omega), zs_nec (show 95 ≠ 93 by omega), zs_nec (show 95 ≠ 5 + 2 * i by omega), zs_nec (show 96 ≠ 93 by omega), zs_nec (show 96 ≠ 5 + 2 * i by omega), zs_nec (show 97 ≠ 93 by omega), zs_nec (show 97 ≠ 5 + 2 * i by omega)]
      exact ⟨q0, ⟨rfl, hz⟩, q2, q3, q4, q5⟩
theorem sim_hang (a1 a2 : Int32) : Sim M_X6_hang 3 M_X7_hang 3 [vI a1, vI a2] := by
  rintro l g I L ⟨n, m, h⟩
  obtain ⟨hW, hN, hn, hm, e2, e2', e3, e3', e4, e5, e6, hf⟩ := Rn_wx h
  refine m_X6_hang ?_
  rcases pane_cases hm e3 e3' a1 with ⟨c1, c2⟩ | ⟨i, hi, rfl, c1, c2⟩
  · rw [if_pos c1]
    exact both_no (k := 1) (by decide) rfl h (fun Q hq => m_X7_hang (by rw [if_pos (show v_X7_isPane (rf1 I 1) a1 = 0 from c2)]; exact hq))
  rw [if_neg (by rw [c1]; omega), c1]
  rcases letN_cases hn e2 e2' hf a2 with ⟨d1, d2⟩ | ⟨hl, d1, d2, d3⟩
  · rw [if_pos d1]
    refine both_no (k := 1) (by decide) rfl h (fun Q hq => m_X7_hang ?_)
    have hne : ¬ a2 = -1 := fun e => by rw [e] at d2; exact absurd d2 (by unfold v_X7_isLetterOrNone; rw [if_pos rfl]; decide)
    have hl : v_X7_isLetter (rf1 I 1) a2 = 0 := by
      unfold v_X7_isLetterOrNone at d2
      rw [if_neg hne] at d2
      by_cases c : v_X7_isLetter I a2 = 0
      · exact c
      · rw [if_neg c] at d2; exact absurd d2 (by decide)
    rw [if_neg (show ¬ v_X7_isPane (rf1 I 1) (nI i) = 0 from ne0 c2), if_neg hne, if_pos hl]
    exact hq
  rw [if_neg (ne0 d1)]
  rintro I4 rfl
  obtain ⟨⟨i8, z0, z1, z2⟩, p0, p1, p2, p3, p4, p5, p6⟩ := Rn_pane h hi
  have h87 : zs I (5 + 2 * i) 3 a2 87 = I 87 := zs_nec (by omega)
  have fin : zi (fun r2 I2 L2 => (if a2 = -1 then 0 else (1 : Int32)) = r2 ∧ R I2 L2) (some (vI (if a2 = -1 then 0 else (1 : Int32)))) (zs (zs I (5 + 2 * i) 3 a2) 95 i a2) L := by
    refine ⟨_, rfl, rfl, n, m, Rn_one h hi (fun a h1 h2 h3 h4 => by rw [zs_nec (by omega), zs_nec h2]) (fun j hj hji => ?_) (fun x _ => by rw [zs_nec (by omega), zs_nec (by omega)]) ?_⟩
    · rw [zs_nec (show 92 ≠ 95 by omega), zs_nec (show 92 ≠ 5 + 2 * i by omega), zs_nec (show 93 ≠ 95 by omega), zs_nec (show 93 ≠ 5 + 2 * i by omega), zs_nec (show 94 ≠ 95 by omega), zs_nec (show 94 ≠ 5 + 2 * i by omega), zs_ne (M := zs I (5 + 2 * i) 3 a2) (fun z => hji z.2), zs_nec (show 95 ≠ 5 + 2 * i by omega), zs_nec (show 96 ≠ 95 by omega), zs_nec (show 96 ≠ 5 + 2 * i by omega)]
      exact ⟨rfl, rfl, rfl, rfl, rfl⟩
    · obtain ⟨q0, q1, q2, q3, q4, q5⟩ := Rn_RPn h hi
      unfold RPn
      rw [zs_nec (show 5 + 2 * i ≠ 95 by omega), zs_nec (show 5 + 2 * i + 1 ≠ 95 by omega), zs_nec (show 5 + 2 * i + 1 ≠ 5 + 2 * i by omega), zs_same (M := zs I (5 + 2 * i) 3 a2), zs_same, zs_ne (M := I) (k := 3) (j := 0) (fun z => by omega), zs_ne (M := I) (k := 3) (j := 1) (fun z => by omega), zs_ne (M := I) (k := 3) (j := 2) (fun z => by omega), zs_ne (M := I) (k := 3) (j := 4) (fun z => by omega), zs_nec (show 92 ≠ 95 by omega), zs_nec (show 92 ≠ 5 + 2 * i by omega), zs_nec (show 93 ≠ 95 by omega), zs_nec (show 93 ≠ 5 + 2 * i by omega), zs_nec (show 94 ≠ 95 by omega), zs_nec (show 94 ≠ 5 + 2 * i by omega), zs_nec (show 96 ≠ 95 by omega), zs_nec (show 96 ≠ 5 + 2 * i by omega), zs_nec (show 97 ≠ 95 by omega), zs_nec (show 97 ≠ 5 + 2 * i by omega)]
      exact ⟨q0, q1, q2, ⟨rfl, hl⟩, q4, q5⟩
  refine ⟨_, rfl, m_X7_hang ?_⟩
  rw [if_neg (by rw [tP h87]; exact ne0 c2), zcl (by omega)]
  by_cases hb : a2 = -1
  · rw [if_pos hb]
    refine ⟨zvin i8 (by decide), ?_⟩
    rintro I5 rfl
    exact fin
  · rw [if_neg hb, if_neg]
    · refine ⟨zvin i8 (by decide), ?_⟩
      rintro I5 rfl
      exact fin
    · rw [tL h87]
      rcases hl with e | ⟨j, hj, rfl⟩
      · exact absurd e hb
      · rcases let_cases hn e2 e2' (nI j) with ⟨w1, w2⟩ | ⟨i', _, _, _, w2⟩
        · rw [isl e2 hn hj] at w1; exact absurd w1 (by decide)
        · exact ne0 w2
theorem sim_form (a1 : Int32) : Sim M_X6_form 3 M_X7_form 2 [vI a1] := by
  rintro l g I L ⟨n, m, h⟩
  obtain ⟨hW, hN, hn, hm, e2, e2', e3, e3', e4, e5, e6, hf⟩ := Rn_wx h
  refine m_X6_form ?_
  rcases shape_cases a1 with ⟨c1, c2⟩ | ⟨k, hk, rfl, c1, c2⟩
  · rw [if_pos c1]
    exact both_no (k := 6) (by decide) rfl h (fun Q hq => m_X7_form (by rw [if_pos c2]; exact hq))
  rw [if_neg (ne0 c1)]
  by_cases h8 : n = 8
  · subst h8
    rw [if_pos (show v_X4_hasLetterRoom I 2 = 0 from by unfold v_X4_hasLetterRoom; rw [e2]; decide)]
    exact both_no (k := 7) (by decide) rfl h (fun Q hq => m_X7_form (by rw [if_neg (ne0 c2), if_pos (show rf1 I 7 87 3 = 8 from e2')]; exact hq))
  have hlt : n < 8 := by omega
  have hr : ¬ v_X4_hasLetterRoom I 2 = 0 := by
    unfold v_X4_hasLetterRoom
    rw [e2, if_neg (nI_pos (by omega)), if_pos (n8 hlt)]
    decide
  rw [if_neg hr]
  refine m_X4_addLetter rfl ?_
  rw [if_neg hr, e2, zcl (by omega)]
  rintro I2 rfl I3 rfl
  have v2 : zs I (2 + 1) n (nI k) 2 2 = nI n := by rw [zs_nec (by decide)]; exact e2
  rw [v2, zs_same, ← nI_succ, nI_m1]
  refine ⟨_, rfl, _, rfl, m_X7_form ?_⟩
  have w87 : zs (zs I (2 + 1) n (nI k)) 2 2 (nI (n + 1)) 87 = I 87 := by rw [zs_nec (by decide), zs_nec (by decide)]
  rw [if_neg (ne0 c2), w87, e2', if_neg (show ¬ nI n = 8 from by rw [show (8 : Int32) = nI 8 from rfl, n_eq (by omega) (by decide)]; omega), zcl (by omega)]
  refine ⟨zvin hlt (by decide), ?_⟩
  rintro I4 rfl
  have w : zs (zs (zs I (2 + 1) n (nI k)) 2 2 (nI (n + 1))) 91 n (nI k) 87 3 = nI n := by rw [zs_nec (by decide), w87]; exact e2'
  rw [w, ← nI_succ]
  refine ⟨_, rfl, rfl, n + 1, m, Rn_street h (fun a h1 h2 h3 h4 => by rw [zs_nec h3, zs_nec (by omega), zs_nec (by omega), zs_nec (by omega)]) (by rw [zs_nec (by decide), zs_nec (by decide), zs_nec (by decide), zs_nec (by decide)]) (fun j hj => by rw [zs_ne (by omega), zs_nec (by decide), zs_nec (by decide), zs_nec (by decide)]) (Nat.le_refl _) ?_⟩
  obtain ⟨h1, h2, h3, h4, h5, h6, h7, h8, h9, h10, h11, h12⟩ := h.1
  unfold RC RS
  have q2 : ∀ j, j ≠ 2 → zs (zs (zs (zs I (2 + 1) n (nI k)) 2 2 (nI (n + 1))) 91 n (nI k)) 87 3 (nI (n + 1)) 2 j = I 2 j := fun j hj => by rw [zs_nec (by decide), zs_nec (by decide), zs_ne (fun z => hj z.2), zs_nec (by decide)]
  have q87 : ∀ j, j ≠ 3 → zs (zs (zs (zs I (2 + 1) n (nI k)) 2 2 (nI (n + 1))) 91 n (nI k)) 87 3 (nI (n + 1)) 87 j = I 87 j := fun j hj => by rw [zs_ne (fun z => hj z.2), zs_nec (by decide), zs_nec (by decide), zs_nec (by decide)]
  refine ⟨by omega, h2, ⟨by rw [zs_nec (by decide), zs_nec (by decide), zs_same], by rw [zs_same]⟩, by rw [q2 3 (by decide), q87 5 (by decide)]; exact h4, by rw [q2 4 (by decide), q87 12 (by decide)]; exact h5, by rw [q2 5 (by decide), q87 13 (by decide)]; exact h6, by rw [q2 6 (by decide), q87 14 (by decide)]; exact h7, by rw [q2 7 (by decide), q87 15 (by decide)]; exact h8, by rw [q2 8 (by decide), q87 16 (by decide)]; exact h9, by rw [q2 9 (by decide), q87 17 (by decide)]; exact h10, fun j hj => ?_, fun i hi => ?_⟩
  · have s1 : zs (zs (zs (zs I (2 + 1) n (nI k)) 2 2 (nI (n + 1))) 91 n (nI k)) 87 3 (nI (n + 1)) (2 + 1) j = if j = n then nI k else I 3 j := by
      rw [zs_nec (by decide), zs_nec (by decide), zs_nec (by decide)]
      by_cases e : j = n
      · rw [if_pos e, e, zs_same]
      · rw [if_neg e, zs_ne (fun z => e z.2)]
    have s2 : zs (zs (zs (zs I (2 + 1) n (nI k)) 2 2 (nI (n + 1))) 91 n (nI k)) 87 3 (nI (n + 1)) 91 j = if j = n then nI k else I 91 j := by
      rw [zs_nec (by decide)]
      by_cases e : j = n
      · rw [if_pos e, e, zs_same]
      · rw [if_neg e, zs_ne (fun z => e z.2), zs_nec (by decide), zs_nec (by decide)]
    rw [s1, s2]
    by_cases e : j = n
    · rw [if_pos e, if_pos e]
      exact ⟨rfl, k, hk, rfl⟩
    · rw [if_neg e, if_neg e]
      exact h11 j (by omega)
  · have := h12 i hi
    unfold RPn at *
    rw [zs_nec (show 2 + 3 + 2 * i ≠ 87 by omega), zs_nec (show 2 + 3 + 2 * i ≠ 91 by omega), zs_nec (show 2 + 3 + 2 * i ≠ 2 by omega), zs_nec (show 2 + 3 + 2 * i ≠ 2 + 1 by omega), zs_nec (show 2 + 3 + 2 * i + 1 ≠ 87 by omega), zs_nec (show 2 + 3 + 2 * i + 1 ≠ 91 by omega), zs_nec (show 2 + 3 + 2 * i + 1 ≠ 2 by omega), zs_nec (show 2 + 3 + 2 * i + 1 ≠ 2 + 1 by omega)]
    exact ⟨this.1, this.2.1, this.2.2.1, ⟨this.2.2.2.1.1, this.2.2.2.1.2.imp id (fun ⟨q, hq, e⟩ => ⟨q, by omega, e⟩)⟩, this.2.2.2.2.1, this.2.2.2.2.2⟩
theorem sim_scratch (a1 a2 : Int32) : Sim M_X6_scratch 3 M_X7_scratch 3 [vI a1, vI a2] := by
  rintro l g I L ⟨n, m, h⟩
  obtain ⟨hW, hN, hn, hm, e2, e2', e3, e3', e4, e5, e6, hf⟩ := Rn_wx h
  refine m_X6_scratch ?_
  rcases pane_cases hm e3 e3' a1 with ⟨c1, c2⟩ | ⟨i, hi, rfl, c1, c2⟩
  · rw [if_pos c1]
    exact both_no (k := 1) (by decide) rfl h (fun Q hq => m_X7_scratch (by rw [if_pos (show v_X7_isPane (rf1 I 1) a1 = 0 from c2)]; exact hq))
  rw [if_neg (by rw [c1]; omega), c1]
  rcases cell_cases a2 with ⟨b1, b2⟩ | ⟨c, hc, rfl, b1, b2⟩
  · rw [if_pos b1]
    exact both_no (k := 5) (by decide) rfl h (fun Q hq => m_X7_scratch (by rw [if_neg (show ¬ v_X7_isPane (rf1 I 5) (nI i) = 0 from ne0 c2), if_pos b2]; exact hq))
  rw [if_neg (ne0 b1)]
  obtain ⟨⟨i8, z0, z1, z2⟩, p0, p1, p2, p3, p4, p5, p6⟩ := Rn_pane h hi
  have hbit : v_X1_isScratched I (5 + 2 * i) (nI c) = if bt (I 96 i) c then 1 else 0 := by
    unfold v_X1_isScratched
    rw [p4, hasCell_bit (show c < 32 by omega) rfl]
  have hbit2 : (jshr (I 96 i) (nI c)) &&& 1 = if bt (I 96 i) c then 1 else 0 := cellbit (show c < 32 by omega) rfl
  cases hb : bt (I 96 i) c
  · rw [hb] at hbit hbit2
    rw [if_pos (show v_X1_isScratched I (5 + 2 * i) (nI c) = 0 from hbit)]
    refine m_X1_scratchOff (zshP i i8) ?_
    rintro I1 rfl
    rw [if_neg (nI_pos (by omega)), if_pos (n16 hc), zcl (by omega)]
    refine ⟨_, rfl, _, rfl, m_X7_scratch ?_⟩
    have w : ∀ a, a ≠ 5 + 2 * i → a ≠ 5 + 2 * i + 1 → zs (zs I (5 + 2 * i) 4 (I (5 + 2 * i) 4 ||| jshl 1 (nI c))) (5 + 2 * i + 1) c 0 a = I a := fun a h1 h2 => by rw [zs_nec h2, zs_nec h1]
    have e1 : 16 * nI i + nI c = nI (16 * i + c) := by rw [show (16 : Int32) = nI 16 from rfl, pk_mul, nI_add]
    rw [if_neg (by rw [tP (w 87 (by omega) (by omega))]; exact ne0 c2), if_neg (ne0 b2), zcl (by omega), w 96 (by omega) (by omega), hbit2, if_neg (by decide), e1, zcl (by omega)]
    refine ⟨zvin i8 (by decide), ?_⟩
    rintro I5 rfl
    refine ⟨zvin (by omega) (by decide), _, rfl, ?_, n, m, Rn_one h hi (fun a q1 q2 q3 q4 => by rw [zs_nec (by omega), zs_nec (by omega), w a q2 (by omega)]) (fun j hj hji => ?_) (fun x hx => ?_) ?_⟩
    · unfold v_X1_iceOn
      rw [if_neg (nI_pos (by omega)), if_pos (n16 hc), zcl (by omega), zs_nec (by decide), w 97 (by omega) (by omega), show 5 + 2 * i + 1 = 6 + 2 * i by omega]
      exact (p6 c hc).1
    · rw [zs_nec (show 92 ≠ 97 by omega), zs_nec (show 92 ≠ 96 by omega), w 92 (by omega) (by omega), zs_nec (show 93 ≠ 97 by omega), zs_nec (show 93 ≠ 96 by omega), w 93 (by omega) (by omega), zs_nec (show 94 ≠ 97 by omega), zs_nec (show 94 ≠ 96 by omega), w 94 (by omega) (by omega), zs_nec (show 95 ≠ 97 by omega), zs_nec (show 95 ≠ 96 by omega), w 95 (by omega) (by omega), zs_nec (show 96 ≠ 97 by omega), zs_ne (fun z => hji z.2), w 96 (by omega) (by omega)]
      exact ⟨rfl, rfl, rfl, rfl, rfl⟩
    · rw [zs_ne (fun z => by omega), zs_nec (by decide), w 97 (by omega) (by omega)]
    · obtain ⟨q0, q1, q2, q3, q4, q5⟩ := Rn_RPn h hi
      unfold RPn
      rw [zs_nec (show 5 + 2 * i ≠ 97 by omega), zs_nec (show 5 + 2 * i ≠ 96 by omega), zs_nec (show 5 + 2 * i ≠ 5 + 2 * i + 1 by omega), zs_nec (show 5 + 2 * i + 1 ≠ 97 by omega), zs_nec (show 5 + 2 * i + 1 ≠ 96 by omega), zs_ne (M := I) (k := 4) (j := 0) (fun z => by omega), zs_ne (M := I) (k := 4) (j := 1) (fun z => by omega), zs_ne (M := I) (k := 4) (j := 2) (fun z => by omega), zs_ne (M := I) (k := 4) (j := 3) (fun z => by omega), zs_same (M := I), zs_nec (show 92 ≠ 97 by omega), zs_nec (show 92 ≠ 96 by omega), w 92 (by omega) (by omega), zs_nec (show 93 ≠ 97 by omega), zs_nec (show 93 ≠ 96 by omega), w 93 (by omega) (by omega), zs_nec (show 94 ≠ 97 by omega), zs_nec (show 94 ≠ 96 by omega), w 94 (by omega) (by omega), zs_nec (show 95 ≠ 97 by omega), zs_nec (show 95 ≠ 96 by omega), w 95 (by omega) (by omega), zs_nec (show 96 ≠ 97 by omega), zs_same]
      refine ⟨q0, q1, q2, q3, by rw [q4], fun x hx => ?_⟩
      dsimp only
      by_cases e : x = c
      · subst e
        rw [zs_same, zs_same]
        exact ⟨rfl, 0, by decide, rfl⟩
      · rw [zs_ne (fun z => e z.2), zs_nec (by omega), zs_ne (fun z => by omega), zs_nec (by decide), w 97 (by omega) (by omega)]
        exact q5 x hx
  · rw [hb] at hbit hbit2
    rw [if_neg (by rw [hbit]; decide)]
    exact both_no (k := 6) (by decide) rfl h (fun Q hq => m_X7_scratch (by rw [if_neg (show ¬ v_X7_isPane (rf1 I 6) (nI i) = 0 from ne0 c2), if_neg (ne0 b2), zcl (by omega)]; exact ⟨zvin i8 (by decide), by rw [if_pos (show (jshr (rf1 I 6 96 i) (nI c)) &&& 1 = 1 from hbit2)]; exact hq⟩))
