/-! OPERATIONS: what would be, further -/
theorem tP {I I1 : zI} (h : I1 87 = I 87) (a : Int32) : v_X7_isPane I1 a = v_X7_isPane I a := by unfold v_X7_isPane; rw [h]
theorem tL {I I1 : zI} (h : I1 87 = I 87) (a : Int32) : v_X7_isLetter I1 a = v_X7_isLetter I a := by unfold v_X7_isLetter; rw [h]
theorem tLN {I I1 : zI} (h : I1 87 = I 87) (a : Int32) : v_X7_isLetterOrNone I1 a = v_X7_isLetterOrNone I a := by unfold v_X7_isLetterOrNone; rw [tL h]
theorem tM {I I1 : zI} (h : I1 91 = I 91) (a : Int32) : mform I1 a = mform I a := by unfold mform; rw [h]
theorem cellsOf_m {I : zI} {n : Nat} (hn : n ≤ 8) (e : I 2 2 = nI n) (hf : ∀ j, j < n → I 3 j = I 91 j) {a : Int32} (h : a = -1 ∨ ∃ j, j < n ∧ a = nI j) : v_X4_cellsOf I 2 a = mform I a := by
  unfold mform
  rcases h with rfl | ⟨j, hj, rfl⟩
  · rw [if_pos rfl]
    unfold v_X4_cellsOf
    rw [if_pos (show v_X4_isLetter I 2 (-1) = 0 from by unfold v_X4_isLetter; rw [if_pos (by decide)])]
  · rw [cellsOf_in e hn hj, if_neg, zcl (by omega)]
    · exact hf j hj
    · intro e1
      exact n_neg (a := -1) (by decide) j (by omega) e1.symm
/-- what the class's and the reference's readings have in common -/
def ob (I : zI) (i : Nat) (x : Int32) (j : Nat) : Int32 := rdH (I 91) (I 87 3).toNatClampNeg (I 92 i) (I 93 i) (I 94 i) (I 96 i) (mform I x) (I 87 12) (I 87 13) (I 87 14) j
theorem ob_c {I : zI} {L : zL} {n m i : Nat} (h : Rn I L n m) (hi : i < m) {x : Int32} (hx : x = -1 ∨ ∃ j, j < n ∧ x = nI j) (j : Nat) : rdH (I 3) (I 2 2).toNatClampNeg (I (5 + 2 * i) 0) (I (5 + 2 * i) 1) (I (5 + 2 * i) 2) (I (5 + 2 * i) 4) (v_X4_cellsOf I 2 x) (I 2 4) (I 2 5) (I 2 6) j = ob I i x j := by
  obtain ⟨hW, hN, hn, hm, e2, e2', e3, e3', e4, e5, e6, hf⟩ := Rn_wx h
  obtain ⟨hP, p0, p1, p2, p3, p4, -, -⟩ := Rn_pane h hi
  unfold ob
  rw [p0, p1, p2, p4, e4, e5, e6, e2, e2', cellsOf_m hn e2 hf hx, zcl (by omega)]
  exact rdH_cong hf
theorem ob_t {I I1 : zI} (h : ∀ a, ¬ scr a → I1 a = I a) (i : Nat) (x : Int32) (j : Nat) : ob I1 i x j = ob I i x j := by
  unfold ob
  rw [h 91 (by unfold scr; omega), h 87 (by unfold scr; omega), h 92 (by unfold scr; omega), h 93 (by unfold scr; omega), h 94 (by unfold scr; omega), h 96 (by unfold scr; omega), tM (h 91 (by unfold scr; omega))]
section ZO3
variable {l : Launch} {g : zG} {Q : Option zv → zI → zL → Prop} {I : zI} {L : zL} {n m i : Nat} {x : Int32}
/-- the reference's reading, under the relation -/
theorem R_readAt {j : Nat} (h : Rn I L n m) (hi : i < m) (hx : x = -1 ∨ ∃ j, j < n ∧ x = nI j) (hj : j ≤ 24) (hQ : ∀ I' : zI, (∀ a, a ≠ 101 → a ≠ 102 → I' a = I a) → Q (some (vI (ob I i x j))) I' L) : Call l g 4 M_X7_readAt [vR 87, vI (nI i), vI x, vI (nI j)] I L Q := by
  obtain ⟨hW, hN, hn, hm, e2, e2', e3, e3', e4, e5, e6, hf⟩ := Rn_wx h
  exact m_readAt hj (Rn_pane h hi).1 hW (okL_of hn hx) hN hQ
/-- the class's readings at all hours, under the relation -/
theorem R_readAll (h : Rn I L n m) (hi : i < m) (hx : x = -1 ∨ ∃ j, j < n ∧ x = nI j) (hQ : ∀ I' : zI, (∀ a, a ≠ 60 → a ≠ 61 → a ≠ 62 → I' a = I a) → (∀ j, j < 25 → I' 62 j = ob I i x j) → Q none I' L) : Call l g 4 M_X5_readAllHours [vR 59, vR (5 + 2 * i), vI x] I L Q := by
  obtain ⟨hW, hN, hn, hm, e2, e2', e3, e3', e4, e5, e6, hf⟩ := Rn_wx h
  refine c_readAllHours (zshP i (by omega)) (by omega) ⟨n, hn, e2⟩ (fun I' g1 g2 => hQ I' g1 (fun j hj => ?_))
  rw [g2 j hj]
  exact ob_c h hi hx j
/-- the class's shape at an hour, read -/
theorem R_shapeAt {j : Nat} (h : Rn I L n m) (hi : i < m) (hx : x = -1 ∨ ∃ j, j < n ∧ x = nI j) (hj : j ≤ 24) (hQ : ∀ (sh : Int32) (I' : zI), (∀ a, a ≠ 60 → a ≠ 61 → I' a = I a) → sh = shpH (I 92 i) (I 93 i) (I 94 i) (I 96 i) (mform I x) (I 87 12) (I 87 13) (I 87 14) j → v_X4_readingOf I' 2 sh = ob I i x j → k_X4_readingOf I' 2 sh → (∀ c, c < 16 → I' 61 c = iceH (I 92 i) (I 93 i) (I 94 i) (I 96 i) (mform I x) (I 87 12) (I 87 13) (I 87 14) j c) → Q (some (vI sh)) I' L) : Call l g 5 M_X5_shapeAt [vR 59, vR (5 + 2 * i), vI x, vI (nI j)] I L Q := by
  obtain ⟨hW, hN, hn, hm, e2, e2', e3, e3', e4, e5, e6, hf⟩ := Rn_wx h
  obtain ⟨hP, p0, p1, p2, p3, p4, -, -⟩ := Rn_pane h hi
  refine c_shapeAt hj (zshP i (by omega)) (by omega) (fun I1 g1 g2 => ?_)
  have f2 : I1 2 = I 2 := g1 2 (by decide) (by decide)
  have f3 : I1 3 = I 3 := g1 3 (by decide) (by decide)
  rw [p0, p1, p2, p4, e4, e5, e6, cellsOf_m hn e2 hf hx] at g2 ⊢
  refine hQ _ I1 g1 rfl ?_ ⟨n, hn, by rw [f2]; exact e2⟩ g2
  unfold v_X4_readingOf ob rdH
  rw [f2, f3, e2, e2', zcl (by omega), rdg_cong hf]
end ZO3
theorem sc2 {I I1 : zI} (h : ∀ a, a ≠ 101 → a ≠ 102 → I1 a = I a) : ∀ a, ¬ scr a → I1 a = I a := fun a ha => h a (scr_60 ha).2.2.2.1 (scr_60 ha).2.2.2.2
theorem sc3 {I I1 : zI} (h : ∀ a, a ≠ 60 → a ≠ 61 → a ≠ 62 → I1 a = I a) : ∀ a, ¬ scr a → I1 a = I a := fun a ha => h a (scr_60 ha).1 (scr_60 ha).2.1 (scr_60 ha).2.2.1
theorem sc4 {I I1 : zI} (h : ∀ a, a ≠ 60 → a ≠ 61 → I1 a = I a) : ∀ a, ¬ scr a → I1 a = I a := fun a ha => h a (scr_60 ha).1 (scr_60 ha).2.1
theorem s87 : ¬ scr 87 := by unfold scr; omega
theorem s95 : ¬ scr 95 := by unfold scr; omega
theorem sim_ice (a1 a2 a3 a4 : Int32) : Sim M_X6_ice 7 M_X7_ice 4 [vI a1, vI a2, vI a3, vI a4] := by
  rintro l g I L ⟨n, m, h⟩
  obtain ⟨hW, hN, hn, hm, e2, e2', e3, e3', e4, e5, e6, hf⟩ := Rn_wx h
  refine m_X6_ice ?_
  rcases pane_cases hm e3 e3' a1 with ⟨c1, c2⟩ | ⟨i, hi, rfl, c1, c2⟩
  · rw [if_pos c1]
    exact both_no (k := 1) (by decide) rfl h (fun Q hq => m_X7_ice (by rw [if_pos (show v_X7_isPane (rf1 I 1) a1 = 0 from c2)]; exact hq))
  rw [if_neg (by rw [c1]; omega), c1]
  rcases letN_cases hn e2 e2' hf a2 with ⟨d1, d2⟩ | ⟨hl, d1, d2, d3⟩
  · rw [if_pos d1]
    exact both_no (k := 1) (by decide) rfl h (fun Q hq => m_X7_ice (by rw [if_neg (show ¬ v_X7_isPane (rf1 I 1) (nI i) = 0 from ne0 c2), if_pos (show v_X7_isLetterOrNone (rf1 I 1) a2 = 0 from d2)]; exact hq))
  rw [if_neg (ne0 d1)]
  rcases cell_cases a4 with ⟨b1, b2⟩ | ⟨cc, hcc, rfl, b1, b2⟩
  · rw [if_pos b1]
    exact both_no (k := 5) (by decide) rfl h (fun Q hq => m_X7_ice (by rw [if_neg (show ¬ v_X7_isPane (rf1 I 5) (nI i) = 0 from ne0 c2), if_neg (show ¬ v_X7_isLetterOrNone (rf1 I 5) a2 = 0 from ne0 d2), if_pos b2]; exact hq))
  rw [if_neg (ne0 b1)]
  rcases hour_cases a3 with ⟨f1, f2⟩ | ⟨hh, hhh, rfl, f1, f2⟩
  · rw [if_pos f1]
    exact both_no (k := 6) (by decide) rfl h (fun Q hq => m_X7_ice (by rw [if_neg (show ¬ v_X7_isPane (rf1 I 6) (nI i) = 0 from ne0 c2), if_neg (show ¬ v_X7_isLetterOrNone (rf1 I 6) a2 = 0 from ne0 d2), if_neg (ne0 b2), if_pos f2]; exact hq))
  rw [if_neg (ne0 f1)]
  refine m_X5_iceAt ?_
  refine R_shapeAt h hi hl hhh (fun sh I1 g1 _ _ _ g5 => ⟨_, rfl, _, rfl, _, rfl, m_X7_ice ?_⟩)
  have t87 := sc4 g1 87 s87
  have h1 : Rn I1 L n m := R_scr (sc4 g1) h
  rw [if_neg (by rw [tP t87]; exact ne0 c2), if_neg (by rw [tLN t87]; exact ne0 d2), if_neg (ne0 b2), if_neg (ne0 f2)]
  refine m_shapeAt hhh (Rn_pane h1 hi).1 (Rn_wx h1).1 (okL_of hn hl) (fun I2 k1 k2 => ⟨_, rfl, _, rfl, ?_, n, m, R_scr (sc2 k1) h1⟩)
  rw [zcl (by omega), k2 cc hcc, tM (g1 91 (by decide) (by decide)), g1 87 (by decide) (by decide), g1 92 (by decide) (by decide), g1 93 (by decide) (by decide), g1 94 (by decide) (by decide), g1 96 (by decide) (by decide)]
  unfold v_X1_iceOn
  rw [if_neg (nI_pos (by omega)), if_pos (n16 hcc), zcl (by omega)]
  exact g5 cc hcc
theorem sim_readsAs (a1 a2 a3 : Int32) : Sim M_X6_readsAs 6 M_X7_readsAs 5 [vI a1, vI a2, vI a3] := by
  rintro l g I L ⟨n, m, h⟩
  obtain ⟨hW, hN, hn, hm, e2, e2', e3, e3', e4, e5, e6, hf⟩ := Rn_wx h
  refine m_X6_readsAs ?_
  rcases pane_cases hm e3 e3' a1 with ⟨c1, c2⟩ | ⟨i, hi, rfl, c1, c2⟩
  · rw [if_pos c1]
    exact both_no1 h (fun Q hq => m_X7_readsAs (by rw [if_pos (show v_X7_isPane (rf1 I 1) a1 = 0 from c2)]; exact hq))
  rw [if_neg (by rw [c1]; omega), c1]
  rcases letN_cases hn e2 e2' hf a2 with ⟨d1, d2⟩ | ⟨hl, d1, d2, d3⟩
  · rw [if_pos d1]
    exact both_no1 h (fun Q hq => m_X7_readsAs (by rw [if_neg (show ¬ v_X7_isPane (rf1 I 1) (nI i) = 0 from ne0 c2), if_pos (show v_X7_isLetterOrNone (rf1 I 1) a2 = 0 from d2)]; exact hq))
  rw [if_neg (ne0 d1)]
  rcases hour_cases a3 with ⟨f1, f2⟩ | ⟨hh, hhh, rfl, f1, f2⟩
  · rw [if_pos f1]
    exact both_no6 h (fun Q hq => m_X7_readsAs (by rw [if_neg (show ¬ v_X7_isPane (rf1 I 6) (nI i) = 0 from ne0 c2), if_neg (show ¬ v_X7_isLetterOrNone (rf1 I 6) a2 = 0 from ne0 d2), if_pos f2]; exact hq))
  rw [if_neg (ne0 f1)]
  refine R_shapeAt h hi hl hhh (fun sh I1 g1 _ g3 g4 _ => ⟨_, rfl, g4, _, rfl, m_X7_readsAs ?_⟩)
  have t87 := sc4 g1 87 s87
  have h1 : Rn I1 L n m := R_scr (sc4 g1) h
  rw [if_neg (by rw [tP t87]; exact ne0 c2), if_neg (by rw [tLN t87]; exact ne0 d2), if_neg (ne0 f2)]
  refine R_readAt h1 hi hl hhh (fun I2 k1 => ⟨_, rfl, _, rfl, ?_, n, m, R_scr (sc2 k1) h1⟩)
  rw [ob_t (sc4 g1)]
  exact g3
/-- how long the first hours read as x -/
def fst0 (f : Nat → Int32) (x : Int32) : Nat → Nat → Nat
  | 0, c => c
  | k + 1, c => if f c = x then fst0 f x k (c + 1) else c
theorem nI_m1 (c : Nat) : nI (c + 1) - 1 = nI c := nI_pred c
theorem sim_lasts (a1 a2 : Int32) : Sim M_X6_lasts 6 M_X7_lasts 5 [vI a1, vI a2] := by
  rintro l g I L ⟨n, m, h⟩
  obtain ⟨hW, hN, hn, hm, e2, e2', e3, e3', e4, e5, e6, hf⟩ := Rn_wx h
  refine m_X6_lasts ?_
  rcases pane_cases hm e3 e3' a1 with ⟨c1, c2⟩ | ⟨i, hi, rfl, c1, c2⟩
  · rw [if_pos c1]
    exact both_no1 h (fun Q hq => m_X7_lasts (fun k hk X E => by rw [if_pos (show v_X7_isPane (rf1 I 1) a1 = 0 from c2), hk]; exact hq))
  rw [if_neg (by rw [c1]; omega), c1]
  rcases let_cases hn e2 e2' a2 with ⟨d1, d2⟩ | ⟨j, hj, rfl, d1, d2⟩
  · rw [if_pos d1]
    exact both_no1 h (fun Q hq => m_X7_lasts (fun k hk X E => by rw [if_neg (show ¬ v_X7_isPane (rf1 I 1) (nI i) = 0 from ne0 c2), if_pos (show v_X7_isLetter (rf1 I 1) a2 = 0 from d2), hk]; exact hq))
  rw [if_neg (ne0 d1)]
  have hl : nI j = -1 ∨ ∃ q, q < n ∧ nI j = nI q := Or.inr ⟨j, hj, rfl⟩
  refine m_X5_lastHour (fun k hk X E => ?_)
  refine R_readAll h hi hl (fun I1 g1 g2 => ⟨rfl, ?_⟩)
  have h1 : Rn I1 L n m := R_scr (sc3 g1) h
  have t87 := sc3 g1 87 s87
  have key : ∀ r c, c + r = 25 → AW k g 5 I1 L 11 [(0, vR 59), (2, vI (nI j)), (3, vI (nI c - 1)), (4, vI (nI c))] [] ∨ True := fun _ _ _ => Or.inr trivial
  have fin : zi (fun r4 I4 L4 => SimQ l g M_X7_lasts 5 [vR 87, vI (nI i), vI (nI j)] (some (vI r4)) I4 L4) (some (vI (nI (fst0 (ob I i (nI j)) (nI j) 25 0) - 1))) I1 L := by
    refine ⟨_, rfl, _, rfl, m_X7_lasts (fun k2 hk2 X2 E2 => ?_)⟩
    rw [if_neg (by rw [tP t87]; exact ne0 c2), if_neg (by rw [tL t87]; exact ne0 d2)]
    have lp : ∀ r c, c + r = 25 → fst0 (ob I i (nI j)) (nI j) r c = fst0 (ob I i (nI j)) (nI j) 25 0 → ∀ I2 : zI, (∀ a, ¬ scr a → I2 a = I a) → AW k2 g 4 I2 L 24 [(0, vR 87), (1, vI (nI i)), (2, vI (nI j)), (3, vI (nI c))] [] := by
      intro r
      induction r with
      | zero =>
        intro c hc he I2 k1
        refine s_X7_lasts_24 X2 E2 ?_
        obtain rfl : c = 25 := by omega
        rw [if_neg (show ¬ nI 25 < 25 by decide)]
        exact ⟨_, rfl, by rw [← he]; rfl, n, m, R_scr k1 h⟩
      | succ r ih =>
        intro c hc he I2 k1
        refine s_X7_lasts_24 X2 E2 ?_
        rw [if_pos (n25 (show c < 25 by omega))]
        have h2 : Rn I2 L n m := R_scr k1 h
        refine R_readAt h2 hi hl (show c ≤ 24 by omega) (fun I3 b1 => ⟨_, rfl, ?_⟩)
        rw [ob_t k1]
        dsimp only
        have k3 : ∀ a, ¬ scr a → I3 a = I a := fun a ha => (sc2 b1 a ha).trans (k1 a ha)
        by_cases hr : ob I i (nI j) c = nI j
        · rw [if_pos hr, ← nI_succ]
          refine ih (c + 1) (by omega) ?_ I3 k3
          rw [← he]
          show _ = if ob I i (nI j) c = nI j then _ else c
          rw [if_pos hr]
        · rw [if_neg hr]
          refine ⟨_, rfl, ?_, n, m, R_scr k3 h⟩
          rw [← he]
          show nI (if ob I i (nI j) c = nI j then _ else c) - 1 = _
          rw [if_neg hr]
    exact lp 25 0 rfl rfl I1 (sc3 g1)
  have lp : ∀ r c, c + r = 25 → fst0 (ob I i (nI j)) (nI j) r c = fst0 (ob I i (nI j)) (nI j) 25 0 → AW k g 5 I1 L 11 [(0, vR 59), (2, vI (nI j)), (3, vI (nI c - 1)), (4, vI (nI c))] [] := by
    intro r
    induction r with
    | zero =>
      intro c hc he
      refine s_X5_lastHour_11 X E ?_
      obtain rfl : c = 25 := by omega
      rw [if_neg (show ¬ nI 25 < 25 by decide)]
      rw [← he] at fin
      exact fin
    | succ r ih =>
      intro c hc he
      refine s_X5_lastHour_11 X E ?_
      rw [if_pos (n25 (show c < 25 by omega)), zcl (by omega), g2 c (by omega)]
      refine ⟨zvin (by omega) (by decide), ?_⟩
      by_cases hr : ob I i (nI j) c = nI j
      · rw [if_pos hr, ← nI_succ]
        have e := ih (c + 1) (by omega) (by
          rw [← he]
          show _ = if ob I i (nI j) c = nI j then _ else c
          rw [if_pos hr])
        rw [nI_m1] at e
        exact e
      · rw [if_neg hr]
        have e : nI (fst0 (ob I i (nI j)) (nI j) 25 0) = nI c := by
          rw [← he]
          show nI (if ob I i (nI j) c = nI j then _ else c) = _
          rw [if_neg hr]
        rw [e] at fin
        exact fin
  exact lp 25 0 rfl rfl
/-- the first hour that reads as x, or -1 -/
def fnd (f : Nat → Int32) (x : Int32) : Nat → Nat → Int32
  | 0, _ => -1
  | k + 1, c => if f c = x then nI c else fnd f x k (c + 1)
theorem sim_turns (a1 a2 a3 : Int32) : Sim M_X6_turns 6 M_X7_turns 5 [vI a1, vI a2, vI a3] := by
  rintro l g I L ⟨n, m, h⟩
  obtain ⟨hW, hN, hn, hm, e2, e2', e3, e3', e4, e5, e6, hf⟩ := Rn_wx h
  refine m_X6_turns ?_
  rcases pane_cases hm e3 e3' a1 with ⟨c1, c2⟩ | ⟨i, hi, rfl, c1, c2⟩
  · rw [if_pos c1]
    exact both_no1 h (fun Q hq => m_X7_turns (fun k hk X E => by rw [if_pos (show v_X7_isPane (rf1 I 1) a1 = 0 from c2), hk]; exact hq))
  rw [if_neg (by rw [c1]; omega), c1]
  rcases let_cases hn e2 e2' a2 with ⟨d1, d2⟩ | ⟨j, hj, rfl, d1, d2⟩
  · rw [if_pos d1]
    exact both_no1 h (fun Q hq => m_X7_turns (fun k hk X E => by rw [if_neg (show ¬ v_X7_isPane (rf1 I 1) (nI i) = 0 from ne0 c2), if_pos (show v_X7_isLetter (rf1 I 1) a2 = 0 from d2), hk]; exact hq))
  rw [if_neg (ne0 d1)]
  rcases let_cases hn e2 e2' a3 with ⟨b1, b2⟩ | ⟨w, hw, rfl, b1, b2⟩
  · rw [if_pos b1]
    exact both_no1 h (fun Q hq => m_X7_turns (fun k hk X E => by rw [if_neg (show ¬ v_X7_isPane (rf1 I 1) (nI i) = 0 from ne0 c2), if_neg (show ¬ v_X7_isLetter (rf1 I 1) (nI j) = 0 from ne0 d2), if_pos (show v_X7_isLetter (rf1 I 1) a3 = 0 from b2), hk]; exact hq))
  rw [if_neg (ne0 b1)]
  have hl : nI j = -1 ∨ ∃ q, q < n ∧ nI j = nI q := Or.inr ⟨j, hj, rfl⟩
  refine m_X5_firstHourAs (fun k hk X E => ?_)
  refine R_readAll h hi hl (fun I1 g1 g2 => ⟨rfl, ?_⟩)
  have t87 := sc3 g1 87 s87
  have fin : zi (fun r4 I4 L4 => SimQ l g M_X7_turns 5 [vR 87, vI (nI i), vI (nI j), vI (nI w)] (some (vI r4)) I4 L4) (some (vI (fnd (ob I i (nI j)) (nI w) 25 0))) I1 L := by
    refine ⟨_, rfl, _, rfl, m_X7_turns (fun k2 hk2 X2 E2 => ?_)⟩
    rw [if_neg (by rw [tP t87]; exact ne0 c2), if_neg (by rw [tL t87]; exact ne0 d2), if_neg (by rw [tL t87]; exact ne0 b2)]
    have lp : ∀ r c, c + r = 25 → fnd (ob I i (nI j)) (nI w) r c = fnd (ob I i (nI j)) (nI w) 25 0 → ∀ I2 : zI, (∀ a, ¬ scr a → I2 a = I a) → AW k2 g 5 I2 L 33 [(0, vR 87), (1, vI (nI i)), (2, vI (nI j)), (3, vI (nI w)), (4, vI (nI c))] [] := by
      intro r
      induction r with
      | zero =>
        intro c hc he I2 k1
        refine s_X7_turns_33 X2 E2 ?_
        obtain rfl : c = 25 := by omega
        rw [if_neg (show ¬ nI 25 < 25 by decide)]
        exact ⟨_, rfl, by rw [← he]; rfl, n, m, R_scr k1 h⟩
      | succ r ih =>
        intro c hc he I2 k1
        refine s_X7_turns_33 X2 E2 ?_
        rw [if_pos (n25 (show c < 25 by omega))]
        have h2 : Rn I2 L n m := R_scr k1 h
        refine R_readAt h2 hi hl (show c ≤ 24 by omega) (fun I3 b1 => ⟨_, rfl, ?_⟩)
        rw [ob_t k1]
        dsimp only
        have k3 : ∀ a, ¬ scr a → I3 a = I a := fun a ha => (sc2 b1 a ha).trans (k1 a ha)
        by_cases hr : ob I i (nI j) c = nI w
        · rw [if_pos hr]
          refine ⟨_, rfl, ?_, n, m, R_scr k3 h⟩
          rw [← he]
          show (if ob I i (nI j) c = nI w then nI c else _) = _
          rw [if_pos hr]
        · rw [if_neg hr, ← nI_succ]
          refine ih (c + 1) (by omega) ?_ I3 k3
          rw [← he]
          show _ = if ob I i (nI j) c = nI w then nI c else _
          rw [if_neg hr]
    exact lp 25 0 rfl rfl I1 (sc3 g1)
  have lp : ∀ r c, c + r = 25 → fnd (ob I i (nI j)) (nI w) r c = fnd (ob I i (nI j)) (nI w) 25 0 → AW k g 5 I1 L 9 [(0, vR 59), (3, vI (nI w)), (4, vI (nI c))] [] := by
    intro r
    induction r with
    | zero =>
      intro c hc he
      refine s_X5_firstHourAs_9 X E ?_
      obtain rfl : c = 25 := by omega
      rw [if_neg (show ¬ nI 25 < 25 by decide)]
      rw [← he] at fin
      exact fin
    | succ r ih =>
      intro c hc he
      refine s_X5_firstHourAs_9 X E ?_
      rw [if_pos (n25 (show c < 25 by omega)), zcl (by omega), g2 c (by omega)]
      refine ⟨zvin (by omega) (by decide), ?_⟩
      by_cases hr : ob I i (nI j) c = nI w
      · rw [if_pos hr]
        rw [← he] at fin
        rw [show fnd (ob I i (nI j)) (nI w) (r + 1) c = nI c from by show (if ob I i (nI j) c = nI w then nI c else _) = _; rw [if_pos hr]] at fin
        exact fin
      · rw [if_neg hr, ← nI_succ]
        refine ih (c + 1) (by omega) ?_
        rw [← he]
        show _ = if ob I i (nI j) c = nI w then nI c else _
        rw [if_neg hr]
  exact lp 25 0 rfl rfl
