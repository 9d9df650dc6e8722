/-! OPERATIONS: stove, chill, closest, mend -/
/-- the warmest room from r down; -1 if none -/
def wrm (f : Nat → Int32) (x : Int32) : Nat → Int32
  | 0 => -1
  | r + 1 => if f r = x then nI r else wrm f x r
def obR (I : zI) (i : Nat) (x : Int32) (j r : Nat) : Int32 := rdH (I 91) (I 87 3).toNatClampNeg (I 92 i) (nI r) (I 94 i) (I 96 i) (mform I x) (I 87 12) (I 87 13) (I 87 14) j
def obC (I : zI) (i : Nat) (x : Int32) (j c : Nat) : Int32 := rdH (I 91) (I 87 3).toNatClampNeg (I 92 i) (I 93 i) (I 94 i) (I 96 i) (mform I x) (nI c) (I 87 13) (I 87 14) j
theorem m1_neg : (-1 : Int32) < 0 := by decide
theorem nI_sub1 (r : Nat) : nI (r + 1) + -1 = nI r := pk_m1 r
theorem zs_back {M : zI} {c k : Nat} {I : zI} (h1 : ∀ j, j ≠ k → M c j = I c j) (h2 : ∀ a, a ≠ c → M a = I a) : ∀ a, zs M c k (I c k) a = I a := by
  intro a
  by_cases e : a = c
  · subst e
    funext j
    by_cases e2 : j = k
    · rw [e2, zs_same]
    · rw [zs_ne (fun z => e2 z.2)]
      exact h1 j e2
  · rw [zs_nec e]
    exact h2 a e
theorem sim_stove (a1 a2 a3 : Int32) : Sim M_X6_stove 6 M_X7_stove 5 [vI a1, vI a2, vI a3] := by
  rintro l g I L ⟨n, m, h⟩
  obtain ⟨hW, hN, hn, hm, e2, e2', e3, e3', e4, e5, e6, hf⟩ := Rn_wx h
  refine m_X6_stove ?_
  rcases pane_cases hm e3 e3' a1 with ⟨c1, c2⟩ | ⟨i, hi, rfl, c1, c2⟩
  · rw [if_pos c1]
    exact both_no1 h (fun Q hq => m_X7_stove (fun k hk X E => by rw [if_pos (show v_X7_isPane (rf1 I 1) a1 = 0 from c2), hk]; exact hq))
  rw [if_neg (by rw [c1]; omega), c1]
  rcases let_cases hn e2 e2' a2 with ⟨d1, d2⟩ | ⟨x, hx, rfl, d1, d2⟩
  · rw [if_pos d1]
    exact both_no1 h (fun Q hq => m_X7_stove (fun k hk X E => by rw [if_neg (show ¬ v_X7_isPane (rf1 I 1) (nI i) = 0 from ne0 c2), if_pos (show v_X7_isLetter (rf1 I 1) a2 = 0 from d2), hk]; exact hq))
  rw [if_neg (ne0 d1)]
  rcases hour_cases a3 with ⟨f1, f2⟩ | ⟨hh, hhh, rfl, f1, f2⟩
  · rw [if_pos f1]
    exact both_no6 h (fun Q hq => m_X7_stove (fun k hk X E => by rw [if_neg (show ¬ v_X7_isPane (rf1 I 6) (nI i) = 0 from ne0 c2), if_neg (show ¬ v_X7_isLetter (rf1 I 6) (nI x) = 0 from ne0 d2), if_pos f2, hk]; exact hq))
  rw [if_neg (ne0 f1)]
  have hl : nI x = -1 ∨ ∃ q, q < n ∧ nI x = nI q := Or.inr ⟨x, hx, rfl⟩
  obtain ⟨⟨i8, z0, z1, z2⟩, p0, p1, p2, p3, p4, p5, p6⟩ := Rn_pane h hi
  -- the reference, from any memory alike
  have fin : ∀ I1 : zI, (∀ a, ¬ scr a → I1 a = I a) → zi (fun r4 I4 L4 => SimQ l g M_X7_stove 5 [vR 87, vI (nI i), vI (nI x), vI (nI hh)] (some (vI r4)) I4 L4) (some (vI (wrm (obR I i (nI x) hh) (nI x) 10))) I1 L := by
    intro I1 k1
    refine ⟨_, rfl, _, rfl, m_X7_stove (fun kz hkz X2 E2 => ?_)⟩
    rw [if_neg (by rw [tP (k1 87 s87)]; exact ne0 c2), if_neg (by rw [tL (k1 87 s87)]; exact ne0 d2), if_neg (ne0 f2), zcl (by omega)]
    refine ⟨zvin i8 (by decide), ?_⟩
    have t93 : I1 93 = I 93 := k1 93 (by unfold scr; omega)
    have hback : ∀ I2 : zI, (∀ a, ¬ scr a → a ≠ 93 → I2 a = I a) → (∀ j, j ≠ i → I2 93 j = I 93 j) → Rn (zs I2 93 i (I1 93 i)) L n m := by
      intro I2 b1 b2
      refine R_scr (fun a ha => ?_) h
      rw [t93]
      by_cases ea : a = 93
      · subst ea
        funext j
        by_cases e2 : j = i
        · rw [e2, zs_same]
        · rw [zs_ne (fun z => e2 z.2)]
          exact b2 j e2
      · rw [zs_nec ea]
        exact b1 a ha ea
    -- found: the loop ends
    have hend : ∀ (r : Int32) (v : Nat) (I2 : zI), (∀ a, ¬ scr a → a ≠ 93 → I2 a = I a) → (∀ j, j ≠ i → I2 93 j = I 93 j) → v < 10 → wrm (obR I i (nI x) hh) (nI x) 10 = nI v → AW kz g 7 I2 L 54 [(0, vR 87), (1, vI (nI i)), (2, vI (nI x)), (3, vI (nI hh)), (4, vI (I1 93 i)), (5, vI (nI v)), (6, vI r)] [] := by
      intro r v I2 b1 b2 hv he
      refine s_X7_stove_54 X2 E2 ?_
      rw [zcl (by omega)]
      have q : vp_in (nI i) 8 ∧ zi (fun r2 I2 L2 => wrm (obR I i (nI x) hh) (nI x) 10 = r2 ∧ R I2 L2) (some (vI (nI v))) (zs I2 93 i (I1 93 i)) L := ⟨zvin i8 (by decide), _, rfl, he, n, m, hback I2 b1 b2⟩
      by_cases hr : r < 0
      · rw [if_pos hr]; exact q
      · rw [if_neg hr, if_neg (nI_pos (by omega))]; exact q
    have lp : ∀ r, r ≤ 10 → wrm (obR I i (nI x) hh) (nI x) r = wrm (obR I i (nI x) hh) (nI x) 10 → ∀ I2 : zI, (∀ a, ¬ scr a → a ≠ 93 → I2 a = I a) → (∀ j, j ≠ i → I2 93 j = I 93 j) → AW kz g 7 I2 L 54 [(0, vR 87), (1, vI (nI i)), (2, vI (nI x)), (3, vI (nI hh)), (4, vI (I1 93 i)), (5, vI (-1)), (6, vI (nI r + -1))] [] := by
      intro r
      induction r with
      | zero =>
        intro _ he I2 b1 b2
        refine s_X7_stove_54 X2 E2 ?_
        rw [if_pos (by decide), zcl (by omega)]
        exact ⟨zvin i8 (by decide), _, rfl, he.symm, n, m, hback I2 b1 b2⟩
      | succ r ih =>
        intro h10 he I2 b1 b2
        refine s_X7_stove_54 X2 E2 ?_
        rw [nI_sub1, if_neg (nI_pos (by omega)), if_pos m1_neg, zcl (by omega)]
        refine ⟨zvin i8 (by decide), ?_⟩
        intro I3 e3
        have r93 : I3 93 i = nI r := by rw [e3, zs_same]
        have ro : ∀ a, ¬ scr a → a ≠ 93 → I3 a = I a := fun a ha hb => by rw [e3, zs_nec hb]; exact b1 a ha hb
        have rj : ∀ j, j ≠ i → I3 93 j = I 93 j := fun j hj => by rw [e3, zs_ne (fun z => hj z.2)]; exact b2 j hj
        refine m_readAt hhh ⟨i8, by rw [ro 92 (by unfold scr; omega) (by omega)]; exact z0, by rw [r93]; exact ⟨r, by omega, rfl⟩, by rw [ro 94 (by unfold scr; omega) (by omega)]; exact z2⟩ (by unfold okWx; rw [ro 87 s87 (by omega)]; exact hW) (okL_of hn hl) (by rw [ro 87 s87 (by omega)]; exact hN) (fun I4 b4 => ⟨_, rfl, ?_⟩)
        have ev : rdH (I3 91) (I3 87 3).toNatClampNeg (I3 92 i) (I3 93 i) (I3 94 i) (I3 96 i) (mform I3 (nI x)) (I3 87 12) (I3 87 13) (I3 87 14) hh = obR I i (nI x) hh r := by
          unfold obR
          rw [r93, ro 87 s87 (by omega), ro 91 (by unfold scr; omega) (by omega), ro 92 (by unfold scr; omega) (by omega), ro 94 (by unfold scr; omega) (by omega), ro 96 (by unfold scr; omega) (by omega), tM (ro 91 (by unfold scr; omega) (by omega))]
        dsimp only
        rw [ev]
        have ro4 : ∀ a, ¬ scr a → a ≠ 93 → I4 a = I a := fun a ha hb => (sc2 b4 a ha).trans (ro a ha hb)
        have rj4 : ∀ j, j ≠ i → I4 93 j = I 93 j := fun j hj => by rw [b4 93 (by omega) (by omega)]; exact rj j hj
        by_cases hr : obR I i (nI x) hh r = nI x
        · rw [if_pos hr]
          refine hend _ r I4 ro4 rj4 (by omega) ?_
          rw [← he]
          show (if obR I i (nI x) hh r = nI x then nI r else _) = _
          rw [if_pos hr]
        · rw [if_neg hr]
          refine ih (by omega) ?_ I4 ro4 rj4
          rw [← he]
          show _ = if obR I i (nI x) hh r = nI x then nI r else _
          rw [if_neg hr]
    exact lp 10 (Nat.le_refl _) rfl I1 (fun a ha _ => k1 a ha) (fun j _ => by rw [t93])
  refine m_X5_warmestRoom (fun k hk X E => ?_)
  refine c_takeGlass (p := 60) rfl (zshP i (by omega)) (by omega) (fun I1 g1 g2 => ⟨rfl, ?_⟩)
  have lp : ∀ r, r ≤ 10 → wrm (obR I i (nI x) hh) (nI x) r = wrm (obR I i (nI x) hh) (nI x) 10 → ∀ I2 : zI, (∀ a, a ≠ 60 → a ≠ 61 → I2 a = I a) → (∀ j, j < 5 → j ≠ 1 → I2 60 j = I (5 + 2 * i) j) → AW k g 5 I2 L 12 [(0, vR 59), (2, vI (nI x)), (3, vI (nI hh)), (4, vI (nI r + -1))] [] := by
    intro r
    induction r with
    | zero =>
      intro _ he I2 b1 b2
      refine s_X5_warmestRoom_12 X E ?_
      rw [if_pos (by decide)]
      have := fin I2 (sc4 b1)
      rw [← he] at this
      exact this
    | succ r ih =>
      intro h10 he I2 b1 b2
      refine s_X5_warmestRoom_12 X E ?_
      rw [nI_sub1, if_neg (nI_pos (by omega))]
      intro I3 e3
      have r60 : I3 60 1 = nI r := by rw [e3, zs_same]
      have rj : ∀ j, j < 5 → j ≠ 1 → I3 60 j = I (5 + 2 * i) j := fun j hj h1 => by rw [e3, zs_ne (fun z => h1 z.2)]; exact b2 j hj h1
      have ro : ∀ a, a ≠ 60 → a ≠ 61 → I3 a = I a := fun a ha hb => by rw [e3, zs_nec ha]; exact b1 a ha hb
      refine c_shapeOnGlass hhh (fun I4 q1 q2 => ⟨_, rfl, ?_⟩)
      have o2 : I4 2 = I 2 := (q1 2 (by omega)).trans (ro 2 (by omega) (by omega))
      have o3 : I4 3 = I 3 := (q1 3 (by omega)).trans (ro 3 (by omega) (by omega))
      have ec : v_X4_cellsOf I3 2 (nI x) = mform I (nI x) := by
        rw [← cellsOf_m hn e2 hf hl]
        unfold v_X4_cellsOf v_X4_isLetter
        rw [ro 2 (by omega) (by omega), ro 3 (by omega) (by omega)]
      dsimp only
      have er : v_X4_readingOf I4 2 (shpH (I3 60 0) (I3 60 1) (I3 60 2) (I3 60 4) (v_X4_cellsOf I3 2 (nI x)) (I3 2 4) (I3 2 5) (I3 2 6) hh) = obR I i (nI x) hh r := by
        unfold v_X4_readingOf obR rdH
        rw [o2, o3, r60, rj 0 (by omega) (by omega), rj 2 (by omega) (by omega), rj 4 (by omega) (by omega), ec, ro 2 (by omega) (by omega), p0, p2, p4, e4, e5, e6, e2, e2', zcl (by omega), rdg_cong hf]
      rw [er]
      refine ⟨⟨n, hn, by rw [o2]; exact e2⟩, ?_⟩
      have ro4 : ∀ a, a ≠ 60 → a ≠ 61 → I4 a = I a := fun a ha hb => (q1 a hb).trans (ro a ha hb)
      by_cases hr : obR I i (nI x) hh r = nI x
      · rw [if_pos hr]
        have := fin I4 (sc4 ro4)
        rw [← he, show wrm (obR I i (nI x) hh) (nI x) (r + 1) = nI r from by show (if obR I i (nI x) hh r = nI x then nI r else _) = _; rw [if_pos hr]] at this
        exact this
      · rw [if_neg hr]
        refine ih (by omega) ?_ I4 ro4 (fun j hj h1 => by rw [q1 60 (by omega)]; exact rj j hj h1)
        rw [← he]
        show _ = if obR I i (nI x) hh r = nI x then nI r else _
        rw [if_neg hr]
  exact lp 10 (Nat.le_refl _) rfl I1 (fun a ha _ => g1 a ha) (fun j hj _ => g2 j hj)
/-- the least cold from c up -/
def chl (f : Nat → Int32) (x : Int32) : Nat → Nat → Int32
  | 0, _ => -1
  | k + 1, c => if f c = x then nI c else chl f x k (c + 1)
theorem sim_chill (a1 a2 a3 : Int32) : Sim M_X6_chill 6 M_X7_chill 5 [vI a1, vI a2, vI a3] := by
  rintro l g I L ⟨n, m, h⟩
  obtain ⟨hW, hN, hn, hm, e2, e2', e3, e3', e4, e5, e6, hf⟩ := Rn_wx h
  refine m_X6_chill ?_
  rcases pane_cases hm e3 e3' a1 with ⟨c1, c2⟩ | ⟨i, hi, rfl, c1, c2⟩
  · rw [if_pos c1]
    exact both_no1 h (fun Q hq => m_X7_chill (fun k hk X E => by rw [if_pos (show v_X7_isPane (rf1 I 1) a1 = 0 from c2), hk]; exact hq))
  rw [if_neg (by rw [c1]; omega), c1]
  rcases let_cases hn e2 e2' a2 with ⟨d1, d2⟩ | ⟨x, hx, rfl, d1, d2⟩
  · rw [if_pos d1]
    exact both_no1 h (fun Q hq => m_X7_chill (fun k hk X E => by rw [if_neg (show ¬ v_X7_isPane (rf1 I 1) (nI i) = 0 from ne0 c2), if_pos (show v_X7_isLetter (rf1 I 1) a2 = 0 from d2), hk]; exact hq))
  rw [if_neg (ne0 d1)]
  rcases hour_cases a3 with ⟨f1, f2⟩ | ⟨hh, hhh, rfl, f1, f2⟩
  · rw [if_pos f1]
    exact both_no6 h (fun Q hq => m_X7_chill (fun k hk X E => by rw [if_neg (show ¬ v_X7_isPane (rf1 I 6) (nI i) = 0 from ne0 c2), if_neg (show ¬ v_X7_isLetter (rf1 I 6) (nI x) = 0 from ne0 d2), if_pos f2, hk]; exact hq))
  rw [if_neg (ne0 f1)]
  have hl : nI x = -1 ∨ ∃ q, q < n ∧ nI x = nI q := Or.inr ⟨x, hx, rfl⟩
  obtain ⟨⟨i8, z0, z1, z2⟩, p0, p1, p2, p3, p4, p5, p6⟩ := Rn_pane h hi
  have fin : ∀ I1 : zI, (∀ a, ¬ scr a → I1 a = I a) → zi (fun r4 I4 L4 => SimQ l g M_X7_chill 5 [vR 87, vI (nI i), vI (nI x), vI (nI hh)] (some (vI r4)) I4 L4) (some (vI (chl (obC I i (nI x) hh) (nI x) 41 0))) I1 L := by
    intro I1 k1
    refine ⟨_, rfl, _, rfl, m_X7_chill (fun kz hkz X2 E2 => ?_)⟩
    rw [if_neg (by rw [tP (k1 87 s87)]; exact ne0 c2), if_neg (by rw [tL (k1 87 s87)]; exact ne0 d2), if_neg (ne0 f2)]
    have t87 : I1 87 = I 87 := k1 87 s87
    have hback : ∀ I2 : zI, (∀ a, ¬ scr a → a ≠ 87 → I2 a = I a) → (∀ j, j ≠ 12 → I2 87 j = I 87 j) → Rn (zs I2 87 12 (I1 87 12)) L n m := by
      intro I2 b1 b2
      refine R_scr (fun a ha => ?_) h
      rw [t87]
      by_cases ea : a = 87
      · subst ea
        funext j
        by_cases e2 : j = 12
        · rw [e2, zs_same]
        · rw [zs_ne (fun z => e2 z.2)]
          exact b2 j e2
      · rw [zs_nec ea]
        exact b1 a ha ea
    have hend : ∀ (r : Int32) (v : Nat) (I2 : zI), (∀ a, ¬ scr a → a ≠ 87 → I2 a = I a) → (∀ j, j ≠ 12 → I2 87 j = I 87 j) → v < 50 → chl (obC I i (nI x) hh) (nI x) 41 0 = nI v → AW kz g 7 I2 L 51 [(0, vR 87), (1, vI (nI i)), (2, vI (nI x)), (3, vI (nI hh)), (4, vI (I1 87 12)), (5, vI (nI v)), (6, vI r)] [] := by
      intro r v I2 b1 b2 hv he
      refine s_X7_chill_51 X2 E2 ?_
      have q : zi (fun r2 I2 L2 => chl (obC I i (nI x) hh) (nI x) 41 0 = r2 ∧ R I2 L2) (some (vI (nI v))) (zs I2 87 12 (I1 87 12)) L := ⟨_, rfl, he, n, m, hback I2 b1 b2⟩
      by_cases hr : r < 41
      · rw [if_pos hr, if_neg (nI_pos (by omega))]; exact q
      · rw [if_neg hr]; exact q
    have lp : ∀ r c, c + r = 41 → chl (obC I i (nI x) hh) (nI x) r c = chl (obC I i (nI x) hh) (nI x) 41 0 → ∀ I2 : zI, (∀ a, ¬ scr a → a ≠ 87 → I2 a = I a) → (∀ j, j ≠ 12 → I2 87 j = I 87 j) → AW kz g 7 I2 L 51 [(0, vR 87), (1, vI (nI i)), (2, vI (nI x)), (3, vI (nI hh)), (4, vI (I1 87 12)), (5, vI (-1)), (6, vI (nI c))] [] := by
      intro r
      induction r with
      | zero =>
        intro c hc he I2 b1 b2
        refine s_X7_chill_51 X2 E2 ?_
        obtain rfl : c = 41 := by omega
        rw [if_neg (show ¬ nI 41 < 41 by decide)]
        exact ⟨_, rfl, he.symm, n, m, hback I2 b1 b2⟩
      | succ r ih =>
        intro c hc he I2 b1 b2
        refine s_X7_chill_51 X2 E2 ?_
        rw [if_pos (show nI c < 41 from (nI_lt (show c < 41 by omega) (by decide) : nI c < nI 41)), if_pos m1_neg]
        intro I3 e3
        have r87 : I3 87 12 = nI c := by rw [e3, zs_same]
        have ro : ∀ a, ¬ scr a → a ≠ 87 → I3 a = I a := fun a ha hb => by rw [e3, zs_nec hb]; exact b1 a ha hb
        have rj : ∀ j, j ≠ 12 → I3 87 j = I 87 j := fun j hj => by rw [e3, zs_ne (fun z => hj z.2)]; exact b2 j hj
        refine m_readAt hhh ⟨i8, by rw [ro 92 (by unfold scr; omega) (by omega)]; exact z0, by rw [ro 93 (by unfold scr; omega) (by omega)]; exact z1, by rw [ro 94 (by unfold scr; omega) (by omega)]; exact z2⟩ ⟨by rw [r87]; exact ⟨c, by omega, rfl⟩, by rw [rj 13 (by omega)]; exact hW.2.1, by rw [rj 14 (by omega)]; exact hW.2.2⟩ (okL_of hn hl) (by rw [rj 3 (by omega)]; exact hN) (fun I4 b4 => ⟨_, rfl, ?_⟩)
        have ev : rdH (I3 91) (I3 87 3).toNatClampNeg (I3 92 i) (I3 93 i) (I3 94 i) (I3 96 i) (mform I3 (nI x)) (I3 87 12) (I3 87 13) (I3 87 14) hh = obC I i (nI x) hh c := by
          unfold obC
          rw [r87, rj 3 (by omega), rj 13 (by omega), rj 14 (by omega), ro 91 (by unfold scr; omega) (by omega), ro 92 (by unfold scr; omega) (by omega), ro 93 (by unfold scr; omega) (by omega), ro 94 (by unfold scr; omega) (by omega), ro 96 (by unfold scr; omega) (by omega), tM (ro 91 (by unfold scr; omega) (by omega))]
        dsimp only
        rw [ev]
        have ro4 : ∀ a, ¬ scr a → a ≠ 87 → I4 a = I a := fun a ha hb => (sc2 b4 a ha).trans (ro a ha hb)
        have rj4 : ∀ j, j ≠ 12 → I4 87 j = I 87 j := fun j hj => by rw [b4 87 (by omega) (by omega)]; exact rj j hj
        by_cases hr : obC I i (nI x) hh c = nI x
        · rw [if_pos hr]
          refine hend _ c I4 ro4 rj4 (by omega) ?_
          rw [← he]
          show (if obC I i (nI x) hh c = nI x then nI c else _) = _
          rw [if_pos hr]
        · rw [if_neg hr, ← nI_succ]
          refine ih (c + 1) (by omega) ?_ I4 ro4 rj4
          rw [← he]
          show _ = if obC I i (nI x) hh c = nI x then nI c else _
          rw [if_neg hr]
    exact lp 41 0 rfl rfl I1 (fun a ha _ => k1 a ha) (fun j _ => by rw [t87])
  refine m_X5_leastCold (fun k hk X E => ?_)
  refine c_takeGlass (p := 60) rfl (zshP i (by omega)) (by omega) (fun I1 g1 g2 => ⟨rfl, ?_⟩)
  have lp : ∀ r c, c + r = 41 → chl (obC I i (nI x) hh) (nI x) r c = chl (obC I i (nI x) hh) (nI x) 41 0 → ∀ I2 : zI, (∀ a, a ≠ 60 → a ≠ 61 → I2 a = I a) → (∀ j, j < 5 → I2 60 j = I (5 + 2 * i) j) → AW k g 5 I2 L 11 [(0, vR 59), (2, vI (nI x)), (3, vI (nI hh)), (4, vI (nI c))] [] := by
    intro r
    induction r with
    | zero =>
      intro c hc he I2 b1 b2
      refine s_X5_leastCold_11 X E ?_
      obtain rfl : c = 41 := by omega
      rw [if_pos (show 40 < nI 41 by decide)]
      have := fin I2 (sc4 b1)
      rw [← he] at this
      exact this
    | succ r ih =>
      intro c hc he I2 b1 b2
      refine s_X5_leastCold_11 X E ?_
      rw [if_neg (show ¬ 40 < nI c from (nI_nlt (show c ≤ 40 by omega) (by decide) : ¬ nI 40 < nI c))]
      refine c_shapeOnGlass hhh (fun I4 q1 q2 => ⟨_, rfl, ?_⟩)
      have o2 : I4 2 = I 2 := (q1 2 (by omega)).trans (b1 2 (by omega) (by omega))
      have o3 : I4 3 = I 3 := (q1 3 (by omega)).trans (b1 3 (by omega) (by omega))
      have ec : v_X4_cellsOf I2 2 (nI x) = mform I (nI x) := by
        rw [← cellsOf_m hn e2 hf hl]
        unfold v_X4_cellsOf v_X4_isLetter
        rw [b1 2 (by omega) (by omega), b1 3 (by omega) (by omega)]
      dsimp only
      have er : v_X4_readingOf I4 2 (shpH (I2 60 0) (I2 60 1) (I2 60 2) (I2 60 4) (v_X4_cellsOf I2 2 (nI x)) (nI c) (I2 2 5) (I2 2 6) hh) = obC I i (nI x) hh c := by
        unfold v_X4_readingOf obC rdH
        rw [o2, o3, b2 0 (by omega), b2 1 (by omega), b2 2 (by omega), b2 4 (by omega), ec, b1 2 (by omega) (by omega), p0, p1, p2, p4, e5, e6, e2, e2', zcl (by omega), rdg_cong hf]
      rw [er]
      refine ⟨⟨n, hn, by rw [o2]; exact e2⟩, ?_⟩
      have ro4 : ∀ a, a ≠ 60 → a ≠ 61 → I4 a = I a := fun a ha hb => (q1 a hb).trans (b1 a ha hb)
      by_cases hr : obC I i (nI x) hh c = nI x
      · rw [if_pos hr]
        have := fin I4 (sc4 ro4)
        rw [← he, show chl (obC I i (nI x) hh) (nI x) (r + 1) c = nI c from by show (if obC I i (nI x) hh c = nI x then nI c else _) = _; rw [if_pos hr]] at this
        exact this
      · rw [if_neg hr, ← nI_succ]
        refine ih (c + 1) (by omega) ?_ I4 ro4 (fun j hj => by rw [q1 60 (by omega)]; exact b2 j hj)
        rw [← he]
        show _ = if obC I i (nI x) hh c = nI x then nI c else _
        rw [if_neg hr]
  exact lp 41 0 rfl rfl I1 (fun a ha _ => g1 a ha) g2
