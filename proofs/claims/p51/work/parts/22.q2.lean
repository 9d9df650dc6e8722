/-! WHAT IS ASKED over the glass: what would be -/
section ZQ2
variable {l : Launch} {g : zG} {Q : Option zv → zI → zL → Prop} {I V : zI} {L : zL} {n m q i j : Nat} {a1 a2 x : Int32}
theorem c_readAllHours (hq : zsh q = (11, 6)) (h60 : q ≠ 60) (hN : zle 8 (I 2 2)) (h : ∀ I' : zI, (∀ a, a ≠ 60 → a ≠ 61 → a ≠ 62 → I' a = I a) → (∀ j, j < 25 → I' 62 j = rdH (I 3) (I 2 2).toNatClampNeg (I q 0) (I q 1) (I q 2) (I q 4) (v_X4_cellsOf I 2 a1) (I 2 4) (I 2 5) (I 2 6) j) → Q none I' L) : Call l g 4 M_X5_readAllHours [vR 59, vR q, vI a1] I L Q := by
  refine m_X5_readAllHours (fun k hk X E => ?_)
  refine c_takeGlass (p := 60) rfl hq (fun e => h60 e.symm) (fun I1 g1 g2 => ⟨rfl, ?_⟩)
  have e2 : I1 2 = I 2 := g1 2 (by decide)
  have e3 : I1 3 = I 3 := g1 3 (by decide)
  have ec : v_X4_cellsOf I1 2 a1 = v_X4_cellsOf I 2 a1 := by unfold v_X4_cellsOf v_X4_isLetter; rw [e2, e3]
  refine c_freezeWith (p := 60) rfl (fun I2 f1 f2 => ⟨rfl, ?_⟩)
  have f60 : I2 60 = I1 60 := f1 60 (by decide)
  refine zdown (N := 25) (P := fun c => ∀ I3 : zI, (∀ a, a ≠ 60 → a ≠ 61 → a ≠ 62 → I3 a = I a) → I3 60 = I1 60 → (∀ x, x < 16 → I3 61 x = iceH (I q 0) (I q 1) (I q 2) (I q 4) (v_X4_cellsOf I 2 a1) (I 2 4) (I 2 5) (I 2 6) c x) → (∀ j, j < c → I3 62 j = rdH (I 3) (I 2 2).toNatClampNeg (I q 0) (I q 1) (I q 2) (I q 4) (v_X4_cellsOf I 2 a1) (I 2 4) (I 2 5) (I 2 6) j) → AW k g 5 I3 L 56 [(0, vR 59), (4, vI (nI c))] []) (fun I3 b1 b2 b3 b4 => ?_) (fun c hc ih I3 b1 b2 b3 b4 => ?_) (c := 0) (by omega) I2 (fun a h1 h2 _ => (f1 a h2).trans (g1 a h1)) f60 (fun x hx => ?_) (fun _ hh => absurd hh (Nat.not_lt_zero _))
  · refine s_X5_readAllHours_56 X E ?_
    rw [if_neg (show ¬ nI 25 < 25 by decide)]
    exact h I3 b1 b4
  · refine s_X5_readAllHours_56 X E ?_
    rw [if_pos (n25 hc), zcl (by omega), ← nI_succ]
    have q2 : I3 2 = I 2 := b1 2 (by decide) (by decide) (by decide)
    have q3 : I3 3 = I 3 := b1 3 (by decide) (by decide) (by decide)
    refine ⟨by unfold k_X4_readingOf; rw [q2]; exact hN, zvin hc (by decide), ?_⟩
    intro I4 e4
    have er : v_X4_readingOf I3 2 (v_X1_frosted I3 60) = rdH (I 3) (I 2 2).toNatClampNeg (I q 0) (I q 1) (I q 2) (I q 4) (v_X4_cellsOf I 2 a1) (I 2 4) (I 2 5) (I 2 6) c := by
      unfold v_X4_readingOf rdH
      rw [q2, q3, show v_X1_frosted I3 60 = shpH (I q 0) (I q 1) (I q 2) (I q 4) (v_X4_cellsOf I 2 a1) (I 2 4) (I 2 5) (I 2 6) c from frost_cong b3]
    rw [er] at e4
    have r60 : I4 60 = I1 60 := by rw [e4, zs_nec (by decide)]; exact b2
    have r61 : I4 61 = I3 61 := by rw [e4, zs_nec (by decide)]
    have r2 : I4 2 = I 2 := by rw [e4, zs_nec (by decide)]; exact q2
    refine c_meltBy (p := 60) rfl (fun I5 d1 d2 => ⟨rfl, ?_⟩)
    refine ih I5 (fun a h1 h2 h3 => by rw [d1 a h2, e4, zs_nec h3]; exact b1 a h1 h2 h3) ((d1 60 (by decide)).trans r60) (fun x hx => ?_) (fun j hj => ?_)
    · rw [d2 x hx, c_me, r60, r2, r61, g2 0 (by decide), g2 1 (by decide), g2 2 (by decide)]
      show _ = mel (fMe (I q 0) (I q 1) (I q 2) (nI (0 + c)) (I 2 6)) (iceH (I q 0) (I q 1) (I q 2) (I q 4) (v_X4_cellsOf I 2 a1) (I 2 4) (I 2 5) (I 2 6) c) x
      rw [Nat.zero_add]
      exact mel_cong b3 hx
    · rw [d1 62 (by decide), e4]
      by_cases e : j = c
      · rw [e, zs_same]
      · rw [zs_ne (fun z => e z.2)]
        exact b4 j (by omega)
  · rw [f2 x hx, c_sh, e2, ec, g2 0 (by decide), g2 2 (by decide), g2 4 (by decide)]
    rfl
/-- the readings at all hours -/
theorem R_readAll (h : RC I V n m) (hi : i < m) (hx : okN n x) (hQ : ∀ I' : zI, Gf I I' → (∀ j, j < 25 → I' 62 j = ob V i x j) → Q none I' L) : Call l g 4 M_X5_readAllHours [vR 59, vR (5 + 2 * i), vI x] I L Q := by
  obtain ⟨hW, hN, hn, hm, e2, e2', e3, e3', e4, e5, e6, hf⟩ := RC_wx h
  refine c_readAllHours (zshP i (by omega)) (by omega) ⟨n, hn, e2⟩ (fun I' g1 g2 => hQ I' (fun a ha => g1 a (by unfold gl at ha; omega) (by unfold gl at ha; omega) (by unfold gl at ha; omega)) (fun j hj => ?_))
  rw [g2 j hj]
  exact ob_c h hi hx j
/-- the shape at an hour, read -/
theorem R_shapeAt (h : RC I V n m) (hi : i < m) (hx : okN n x) (hj : j ≤ 24) (hQ : ∀ I' : zI, Gf I I' → v_X4_readingOf I' 2 (obS V i x j) = ob V i x j → k_X4_readingOf I' 2 (obS V i x j) → (∀ c, c < 16 → I' 61 c = obI V i x j c) → Q (some (vI (obS V i x j))) I' L) : Call l g 5 M_X5_shapeAt [vR 59, vR (5 + 2 * i), vI x, vI (nI j)] I L Q := by
  obtain ⟨hW, hN, hn, hm, e2, e2', e3, e3', e4, e5, e6, hf⟩ := RC_wx h
  obtain ⟨hP, p0, p1, p2, p3, p4, -, -⟩ := RC_pane h hi
  refine c_shapeAt hj (zshP i (by omega)) (by omega) (fun I1 g1 g2 => ?_)
  have f2 : I1 2 = I 2 := g1 2 (by decide) (by decide)
  have f3 : I1 3 = I 3 := g1 3 (by decide) (by decide)
  rw [p0, p1, p2, p4, e4, e5, e6, cellsOf_m hn e2 hf hx] at g2 ⊢
  refine hQ I1 (fun a ha => g1 a (by unfold gl at ha; omega) (by unfold gl at ha; omega)) ?_ ⟨n, hn, by rw [f2]; exact e2⟩ g2
  unfold v_X4_readingOf ob rdH obS
  rw [f2, f3, e2, e2', zcl (by omega), rdg_cong hf]
theorem q_shape (h : RC I V n m) (hi : i < m) (hx : okN n x) (hj : j ≤ 24) (hQ : ∀ I' : zI, Gf I I' → Q (some (vI (obS V i x j))) I' L) : Call l g 6 M_X6_shape [vR 1, vI (nI i), vI x, vI (nI j)] I L Q := by
  obtain ⟨hW, hN, hn, hm, e2, e2', e3, e3', e4, e5, e6, hf⟩ := RC_wx h
  refine m_X6_shape ?_
  rw [paneAt_in hm e3 hi, if_neg (by omega), if_neg (by rw [letN_in hn e2 hx]; decide), if_neg (by rw [hour_in hj]; decide)]
  exact R_shapeAt h hi hx hj (fun I1 g1 _ _ _ => ⟨_, rfl, hQ I1 g1⟩)
theorem q_ice {c : Nat} (h : RC I V n m) (hi : i < m) (hx : okN n x) (hj : j ≤ 24) (hc : c < 16) (hQ : ∀ I' : zI, Gf I I' → Q (some (vI (obI V i x j c))) I' L) : Call l g 7 M_X6_ice [vR 1, vI (nI i), vI x, vI (nI j), vI (nI c)] I L Q := by
  obtain ⟨hW, hN, hn, hm, e2, e2', e3, e3', e4, e5, e6, hf⟩ := RC_wx h
  refine m_X6_ice ?_
  rw [paneAt_in hm e3 hi, if_neg (by omega), if_neg (by rw [letN_in hn e2 hx]; decide), if_neg (by rw [cell_in hc]; decide), if_neg (by rw [hour_in hj]; decide)]
  refine m_X5_iceAt ?_
  refine R_shapeAt h hi hx hj (fun I1 g1 _ _ g5 => ⟨_, rfl, _, rfl, ?_⟩)
  rw [show v_X1_iceOn I1 60 (nI c) = obI V i x j c from by
    unfold v_X1_iceOn
    rw [if_neg (nI_pos (by omega)), if_pos (n16 hc), zcl (by omega)]
    exact g5 c hc]
  exact hQ I1 g1
theorem q_readsAs (h : RC I V n m) (hi : i < m) (hx : okN n x) (hj : j ≤ 24) (hQ : ∀ I' : zI, Gf I I' → Q (some (vI (ob V i x j))) I' L) : Call l g 6 M_X6_readsAs [vR 1, vI (nI i), vI x, vI (nI j)] I L Q := by
  obtain ⟨hW, hN, hn, hm, e2, e2', e3, e3', e4, e5, e6, hf⟩ := RC_wx h
  refine m_X6_readsAs ?_
  rw [paneAt_in hm e3 hi, if_neg (by omega), if_neg (by rw [letN_in hn e2 hx]; decide), if_neg (by rw [hour_in hj]; decide)]
  refine R_shapeAt h hi hx hj (fun I1 g1 g3 g4 _ => ⟨_, rfl, g4, ?_⟩)
  rw [g3]
  exact hQ I1 g1
end ZQ2
/-- how long the first hours read as x -/
def fst0 (f : Nat → Int32) (x : Int32) : Nat → Nat → Nat
  | 0, c => c
  | k + 1, c => if f c = x then fst0 f x k (c + 1) else c
/-- the first hour that reads as x, or -1 -/
def fnd (f : Nat → Int32) (x : Int32) : Nat → Nat → Int32
  | 0, _ => -1
  | k + 1, c => if f c = x then nI c else fnd f x k (c + 1)
section ZQ3
variable {l : Launch} {g : zG} {Q : Option zv → zI → zL → Prop} {I V : zI} {L : zL} {n m i j w : Nat}
theorem q_lasts (h : RC I V n m) (hi : i < m) (hj : j < n) (hQ : ∀ I' : zI, Gf I I' → Q (some (vI (nI (fst0 (ob V i (nI j)) (nI j) 25 0) - 1))) I' L) : Call l g 6 M_X6_lasts [vR 1, vI (nI i), vI (nI j)] I L Q := by
  obtain ⟨hW, hN, hn, hm, e2, e2', e3, e3', e4, e5, e6, hf⟩ := RC_wx h
  refine m_X6_lasts ?_
  rw [paneAt_in hm e3 hi, if_neg (by omega), if_neg (by rw [isl e2 hn hj]; decide)]
  refine m_X5_lastHour (fun k hk X E => ?_)
  refine R_readAll h hi (Or.inr ⟨j, hj, rfl⟩) (fun I1 g1 g2 => ⟨rfl, ?_⟩)
  have fin := hQ I1 g1
  have lp : ∀ r c, c + r = 25 → fst0 (ob V i (nI j)) (nI j) r c = fst0 (ob V i (nI j)) (nI j) 25 0 → AW k g 5 I1 L 11 [(0, vR 59), (2, vI (nI j)), (3, vI (nI c - 1)), (4, vI (nI c))] [] := by
    intro r
    induction r with
    | zero =>
      intro c hc he
      refine s_X5_lastHour_11 X E ?_
      obtain rfl : c = 25 := by omega
      rw [if_neg (show ¬ nI 25 < 25 by decide)]
      rw [← he] at fin
      exact ⟨_, rfl, fin⟩
    | succ r ih =>
      intro c hc he
      refine s_X5_lastHour_11 X E ?_
      rw [if_pos (n25 (show c < 25 by omega)), zcl (by omega), g2 c (by omega)]
      refine ⟨zvin (by omega) (by decide), ?_⟩
      by_cases hr : ob V i (nI j) c = nI j
      · rw [if_pos hr, ← nI_succ]
        have e := ih (c + 1) (by omega) (by
          rw [← he]
          show _ = if ob V i (nI j) c = nI j then _ else c
          rw [if_pos hr])
        rw [nI_m1] at e
        exact e
      · rw [if_neg hr]
        have e : nI (fst0 (ob V i (nI j)) (nI j) 25 0) = nI c := by
          rw [← he]
          show nI (if ob V i (nI j) c = nI j then _ else c) = _
          rw [if_neg hr]
        rw [e] at fin
        exact ⟨_, rfl, fin⟩
  exact lp 25 0 rfl rfl
theorem q_turns (h : RC I V n m) (hi : i < m) (hj : j < n) (hw : w < n) (hQ : ∀ I' : zI, Gf I I' → Q (some (vI (fnd (ob V i (nI j)) (nI w) 25 0))) I' L) : Call l g 6 M_X6_turns [vR 1, vI (nI i), vI (nI j), vI (nI w)] I L Q := by
  obtain ⟨hW, hN, hn, hm, e2, e2', e3, e3', e4, e5, e6, hf⟩ := RC_wx h
  refine m_X6_turns ?_
  rw [paneAt_in hm e3 hi, if_neg (by omega), if_neg (by rw [isl e2 hn hj]; decide), if_neg (by rw [isl e2 hn hw]; decide)]
  refine m_X5_firstHourAs (fun k hk X E => ?_)
  refine R_readAll h hi (Or.inr ⟨j, hj, rfl⟩) (fun I1 g1 g2 => ⟨rfl, ?_⟩)
  have fin := hQ I1 g1
  have lp : ∀ r c, c + r = 25 → fnd (ob V i (nI j)) (nI w) r c = fnd (ob V i (nI j)) (nI w) 25 0 → AW k g 5 I1 L 9 [(0, vR 59), (3, vI (nI w)), (4, vI (nI c))] [] := by
    intro r
    induction r with
    | zero =>
      intro c hc he
      refine s_X5_firstHourAs_9 X E ?_
      obtain rfl : c = 25 := by omega
      rw [if_neg (show ¬ nI 25 < 25 by decide)]
      rw [← he] at fin
      exact ⟨_, rfl, fin⟩
    | succ r ih =>
      intro c hc he
      refine s_X5_firstHourAs_9 X E ?_
      rw [if_pos (n25 (show c < 25 by omega)), zcl (by omega), g2 c (by omega)]
      refine ⟨zvin (by omega) (by decide), ?_⟩
      by_cases hr : ob V i (nI j) c = nI w
      · rw [if_pos hr]
        rw [← he] at fin
        rw [show fnd (ob V i (nI j)) (nI w) (r + 1) c = nI c from by show (if ob V i (nI j) c = nI w then nI c else _) = _; rw [if_pos hr]] at fin
        exact ⟨_, rfl, fin⟩
      · rw [if_neg hr, ← nI_succ]
        refine ih (c + 1) (by omega) ?_
        rw [← he]
        show _ = if ob V i (nI j) c = nI w then nI c else _
        rw [if_neg hr]
  exact lp 25 0 rfl rfl
end ZQ3
