/-! OPERATIONS: becomes, stove, chill, truth, readOf, paneOf, closest, mend -/
theorem bt_m1 {i : Nat} (h : i < 32) : bt (-1) i = true := b_m1 i h
/-- what a letter becomes, hour by hour, beside z -/
def bcH (f : Nat → Int32) (x z : Int32) : Nat → Int32
  | 0 => z
  | c + 1 => if f c = -1 then bcH f x z c else if f c = x then bcH f x z c else bcH f x z c ||| jshl 1 (f c)
theorem bcH_eq {f : Nat → Int32} {n x : Nat} (hn : n ≤ 8) (hx : x < n) {z : Int32} : ∀ c, (∀ j, j < c → f j = -1 ∨ ∃ i, i < n ∧ f j = nI i) → bcH f (nI x) (z &&& (jshl 1 (nI x) ^^^ -1)) c = (z ||| lam f c) &&& (jshl 1 (nI x) ^^^ -1)
  | 0, _ => by
    show z &&& _ = (z ||| 0) &&& _
    rw [Int32.or_zero]
  | c + 1, h => by
    have ih := bcH_eq hn hx (z := z) c (fun j hj => h j (by omega))
    unfold bcH lam
    rcases h c (by omega) with e | ⟨i, hi, e⟩
    · rw [e, if_pos rfl, if_pos (by decide)]
      exact ih
    · have hne : ¬ nI i = -1 := fun e1 => n_neg (a := -1) (by decide) i (by omega) e1.symm
      rw [e, if_neg hne, if_neg (nI_pos (by omega)), ih]
      refine b_ext (fun b hb => ?_)
      by_cases hix : i = x
      · subst hix
        rw [if_pos rfl]
        simp only [b_and, b_or, b_xor, bt_jshl1 (show i < 32 by omega) hb, bt_m1 hb]
        by_cases hbi : b = i
        · simp [hbi]
        · simp [hbi]
      · rw [if_neg (by rw [n_eq (by omega) (by omega)]; exact hix)]
        simp only [b_and, b_or, b_xor, bt_jshl1 (show i < 32 by omega) hb, bt_jshl1 (show x < 32 by omega) hb, bt_m1 hb]
        by_cases hbi : b = i
        · have : ¬ b = x := by omega
          simp [hbi, hix]
        · simp [hbi]
theorem lam_cong {f f2 : Nat → Int32} : ∀ {c : Nat}, (∀ j, j < c → f j = f2 j) → lam f c = lam f2 c
  | 0, _ => rfl
  | c + 1, h => by
    unfold lam
    rw [h c (by omega), lam_cong (fun j hj => h j (by omega))]
/-- readings are letters or none -/
theorem rdg_in (f : Nat → Int32) (sh : Int32) : ∀ n, (rdg f sh n).1 = -1 ∨ ∃ i, i < n ∧ (rdg f sh n).1 = nI i
  | 0 => Or.inl rfl
  | n + 1 => by
    unfold rdg
    dsimp only
    split
    · exact Or.inr ⟨n, by omega, rfl⟩
    · split
      · exact Or.inl rfl
      · exact (rdg_in f sh n).imp id (fun ⟨i, hi, e⟩ => ⟨i, by omega, e⟩)
theorem ob_in {I : zI} {L : zL} {n m : Nat} (h : Rn I L n m) (i : Nat) (x : Int32) (j : Nat) : ob I i x j = -1 ∨ ∃ q, q < n ∧ ob I i x j = nI q := by
  obtain ⟨hW, hN, hn, hm, e2, e2', e3, e3', e4, e5, e6, hf⟩ := Rn_wx h
  unfold ob rdH
  rw [e2', zcl (by omega)]
  exact rdg_in _ _ _
/-- all that a letter becomes on the first c panes, as the class gathers it -/
def bcA (I : zI) (x : Int32) : Nat → Int32
  | 0 => 0
  | c + 1 => bcA I x c ||| lam (ob I c x) 25
theorem sim_becomes (a1 : Int32) : Sim M_X6_becomes 6 M_X7_becomes 3 [vI a1] := by
  rintro l g I L ⟨n, m, h⟩
  obtain ⟨hW, hN, hn, hm, e2, e2', e3, e3', e4, e5, e6, hf⟩ := Rn_wx h
  refine m_X6_becomes ?_
  rcases let_cases hn e2 e2' a1 with ⟨d1, d2⟩ | ⟨x, hx, rfl, d1, d2⟩
  · rw [if_pos d1]
    exact both_no (k := 1) (by decide) rfl h (fun Q hq => m_X7_becomes (fun k hk X E => by rw [if_pos (show v_X7_isLetter (rf1 I 1) a1 = 0 from d2), hk]; exact hq))
  rw [if_neg (ne0 d1)]
  have hl : nI x = -1 ∨ ∃ q, q < n ∧ nI x = nI q := Or.inr ⟨x, hx, rfl⟩
  refine m_X5_othersReadFor (fun k hk X E => ?_)
  refine zdown (N := m) (P := fun c => ∀ I1 : zI, (∀ a, ¬ scr a → I1 a = I a) → AW k g 5 I1 L 4 [(0, vR 59), (1, vI (nI x)), (2, vI (bcA I (nI x) c)), (3, vI (nI c))] []) (fun I1 k1 => ?_) (fun c hc ih I1 k1 => ?_) (c := 0) (by omega) I (fun _ _ => rfl)
  · refine s_X5_othersReadFor_4 X E ?_
    have h1 : Rn I1 L n m := R_scr k1 h
    obtain ⟨-, -, -, -, -, -, e3a, -⟩ := Rn_wx h1
    rw [e3a, if_neg (nI_nlt (Nat.le_refl _) (by omega))]
    refine ⟨_, rfl, _, rfl, m_X7_becomes (fun kz hk2 X2 E2 => ?_)⟩
    rw [if_neg (by rw [tL (k1 87 s87)]; exact ne0 d2)]
    suffices hs : AW kz g 6 I1 L 18 [(0, vR 87), (1, vI (nI x)), (2, vI (bcA I (nI x) 0 &&& (jshl 1 (nI x) ^^^ -1))), (3, vI (nI 0))] [] by
      rw [show bcA I (nI x) 0 &&& (jshl 1 (nI x) ^^^ -1) = 0 from Int32.zero_and] at hs
      exact hs
    refine zdown (N := m) (P := fun c => ∀ I2 : zI, (∀ a, ¬ scr a → I2 a = I a) → AW kz g 6 I2 L 18 [(0, vR 87), (1, vI (nI x)), (2, vI (bcA I (nI x) c &&& (jshl 1 (nI x) ^^^ -1))), (3, vI (nI c))] []) (fun I2 k2 => ?_) (fun c hc ih I2 k2 => ?_) (c := 0) (by omega) I1 k1
    · refine s_X7_becomes_18 X2 E2 ?_
      have h2 : Rn I2 L n m := R_scr k2 h
      obtain ⟨-, -, -, -, -, -, -, e3b, -⟩ := Rn_wx h2
      rw [e3b, if_neg (nI_nlt (Nat.le_refl _) (by omega))]
      exact ⟨_, rfl, rfl, n, m, h2⟩
    · refine s_X7_becomes_18 X2 E2 ?_
      have h2 : Rn I2 L n m := R_scr k2 h
      obtain ⟨⟨w1, w2, w3⟩, -, -, -, -, -, -, e3b, -⟩ := Rn_wx h2
      obtain ⟨⟨i8, z0, z1, z2⟩, -⟩ := Rn_pane h2 hc
      rw [e3b, if_pos (nI_lt hc (by omega))]
      refine m_freeze i8 z0 (Or.inr ⟨x, by omega, rfl⟩) (fun I3 b1 b2 => ⟨rfl, ?_⟩)
      have k3 : ∀ a, ¬ scr a → I3 a = I a := fun a ha => (b1 a (scr_60 ha).2.2.2.1).trans (k2 a ha)
      have ic : ∀ j, iceH (I2 92 c) (I2 93 c) (I2 94 c) (I2 96 c) (mform I2 (nI x)) (I2 87 12) (I2 87 13) (I2 87 14) j = iceH (I 92 c) (I 93 c) (I 94 c) (I 96 c) (mform I (nI x)) (I 87 12) (I 87 13) (I 87 14) j := fun j => by
        rw [k2 87 s87, k2 92 (by unfold scr; omega), k2 93 (by unfold scr; omega), k2 94 (by unfold scr; omega), k2 96 (by unfold scr; omega), tM (k2 91 (by unfold scr; omega))]
      refine zdown (N := 25) (P := fun j => ∀ I4 : zI, (∀ a, ¬ scr a → I4 a = I a) → (j ≤ 24 → ∀ y, y < 16 → I4 101 y = iceH (I 92 c) (I 93 c) (I 94 c) (I 96 c) (mform I (nI x)) (I 87 12) (I 87 13) (I 87 14) j y) → AW kz g 6 I4 L 35 [(0, vR 87), (1, vI (nI x)), (2, vI (bcH (ob I c (nI x)) (nI x) (bcA I (nI x) c &&& (jshl 1 (nI x) ^^^ -1)) j)), (3, vI (nI c)), (4, vI (nI j))] []) (fun I4 k4 q4 => ?_) (fun j hj ih2 I4 k4 q4 => ?_) (c := 0) (by omega) I3 k3 (fun _ y hy => by rw [b2 y hy]; exact congrFun (ic 0) y)
      · refine s_X7_becomes_35 X2 E2 ?_
        rw [if_neg (show ¬ nI 25 < 25 by decide), bcH_eq hn hx 25 (fun j _ => ob_in h c (nI x) j), ← nI_succ]
        exact ih I4 k4
      · refine s_X7_becomes_35 X2 E2 ?_
        have h4 : Rn I4 L n m := R_scr k4 h
        have er : v_X7_read I4 (v_X7_shapeNow I4) = ob I c (nI x) j := by
          unfold v_X7_read ob rdH
          rw [k4 91 (by unfold scr; omega), k4 87 s87, show v_X7_shapeNow I4 = shpH (I 92 c) (I 93 c) (I 94 c) (I 96 c) (mform I (nI x)) (I 87 12) (I 87 13) (I 87 14) j from frost_cong (q4 (by omega))]
        rw [if_pos (n25 hj), er]
        refine ⟨(Rn_wx h4).2.1, ?_⟩
        intro u eu
        have eu2 : u = bcH (ob I c (nI x)) (nI x) (bcA I (nI x) c &&& (jshl 1 (nI x) ^^^ -1)) (j + 1) := eu
        by_cases h24 : j < 24
        · rw [if_pos (n24 h24)]
          obtain ⟨w1, w2, w3⟩ := (Rn_wx h4).1
          obtain ⟨⟨i8, z0, z1, z2⟩, -⟩ := Rn_pane h4 hc
          refine m_melting i8 z0 z1 w3 (fun y hy => by
            rw [q4 (by omega) y hy]
            exact zle_hrs (by rw [← k4 93 (by unfold scr; omega)]; exact z1) (by rw [← k4 87 s87]; exact w3) (fun y _ => zle_ice0 (by rw [← k4 94 (by unfold scr; omega)]; exact z2) (by rw [← k4 87 s87]; exact w1) (by rw [← k4 87 s87]; exact w2) y) j y hy) (fun I5 d1 d2 => ⟨rfl, ?_⟩)
          rw [← nI_succ, eu2]
          refine ih2 I5 (fun a ha => (sc2 d1 a ha).trans (k4 a ha)) (fun _ y hy => ?_)
          rw [d2 y hy, k4 87 s87, k4 92 (by unfold scr; omega), k4 93 (by unfold scr; omega), k4 94 (by unfold scr; omega)]
          show _ = mel (fMe (I 92 c) (I 93 c) (I 94 c) (nI (0 + j)) (I 87 14)) (iceH (I 92 c) (I 93 c) (I 94 c) (I 96 c) (mform I (nI x)) (I 87 12) (I 87 13) (I 87 14) j) y
          rw [Nat.zero_add]
          exact mel_cong (q4 (by omega)) hy
        · rw [if_neg (show ¬ nI j < 24 from fun e => h24 ((n_lt (b := 24) (by omega) (by decide)).mp e)), ← nI_succ, eu2]
          exact ih2 I4 k4 (fun e => absurd e (by omega))
  · refine s_X5_othersReadFor_4 X E ?_
    have h1 : Rn I1 L n m := R_scr k1 h
    obtain ⟨-, -, -, -, -, -, e3a, -⟩ := Rn_wx h1
    rw [paneAt_in hm e3a hc, e3a, if_pos (nI_lt hc (by omega)), if_neg (by omega)]
    refine R_readAll h1 hc hl (fun I2 g1 g2 => ⟨rfl, ?_⟩)
    have k3 : ∀ a, ¬ scr a → I2 a = I a := fun a ha => (sc3 g1 a ha).trans (k1 a ha)
    have el : v_X5_lettersAmongReadings I2 = lam (ob I c (nI x)) 25 := lam_cong (fun j hj => by rw [g2 j hj, ob_t k1])
    dsimp only
    rw [el, ← nI_succ]
    exact ih I2 k3
theorem cell17 (a : Int32) : (a = 16 ∧ v_X7_within a 0 16 = 1 ∧ ¬ a < 16) ∨ (¬ a = 16 ∧ v_X6_isCell a = 0 ∧ v_X7_within a 0 16 = 0) ∨ ∃ c, c < 16 ∧ a = nI c ∧ ¬ a = 16 ∧ v_X6_isCell a = 1 ∧ v_X7_within a 0 16 = 1 ∧ a < 16 := by
  rcases in_cases a (m := 17) (by decide) with ⟨c | ⟨c, c1⟩, c2⟩ | ⟨i, hi, rfl, c1, c2, c3⟩
  · refine Or.inr (Or.inl ⟨fun e => ?_, ?_, c2⟩)
    · rw [e] at c; exact absurd c (by decide)
    · unfold v_X6_isCell; rw [if_pos c]
  · refine Or.inr (Or.inl ⟨fun e => c1 (by rw [e]; decide), ?_, c2⟩)
    unfold v_X6_isCell
    rw [if_neg c, if_neg]
    intro h
    apply c1
    rw [i_lt] at *
    have : (16 : Int32).toInt = 16 := rfl
    have : (nI 17).toInt = 17 := rfl
    omega
  · by_cases e : i = 16
    · subst e
      exact Or.inl ⟨rfl, c3, by decide⟩
    · refine Or.inr (Or.inr ⟨i, by omega, rfl, ?_, ?_, c3, n16 (by omega)⟩)
      · rw [show (16 : Int32) = nI 16 from rfl, n_eq (by omega) (by decide)]; exact e
      · unfold v_X6_isCell
        rw [if_neg c1, if_pos (n16 (by omega))]
theorem sim_truth (a1 a2 : Int32) : Sim M_X6_truth 2 M_X7_truth 3 [vI a1, vI a2] := by
  rintro l g I L ⟨n, m, h⟩
  obtain ⟨hW, hN, hn, hm, e2, e2', e3, e3', e4, e5, e6, hf⟩ := Rn_wx h
  refine m_X6_truth ?_
  rcases pane_cases hm e3 e3' a1 with ⟨c1, c2⟩ | ⟨i, hi, rfl, c1, c2⟩
  · rw [if_pos c1]
    exact both_no (k := 1) (by decide) rfl h (fun Q hq => m_X7_truth (by rw [if_pos (show v_X7_isPane (rf1 I 1) a1 = 0 from c2)]; exact hq))
  rw [if_neg (by rw [c1]; omega), c1]
  obtain ⟨hP, p0, p1, p2, p3, p4, p5, p6⟩ := Rn_pane h hi
  rcases cell17 a2 with ⟨rfl, b2, b3⟩ | ⟨b0, b1, b2⟩ | ⟨c, hc, rfl, b0, b1, b2, b3⟩
  · rw [if_pos rfl]
    refine ⟨_, rfl, m_X7_truth ?_⟩
    rw [if_neg (ne0 c2), if_neg (ne0 b2)]
    refine m_load (by omega) (fun I1 g1 g2 => ⟨rfl, fun e => absurd e b3, _, rfl, ?_, n, m, R_scr (fun a ha => g1 a (scr_60 ha).2.2.2.1) h⟩)
    rw [if_neg b3]
    exact frost_cong (fun c hc => by rw [g2 c hc, show 5 + 2 * i + 1 = 6 + 2 * i by omega]; exact (p6 c hc).1)
  · rw [if_neg b0, if_pos b1]
    exact both_no (k := 5) (by decide) rfl h (fun Q hq => m_X7_truth (by rw [if_neg (show ¬ v_X7_isPane (rf1 I 5) (nI i) = 0 from ne0 c2), if_pos b2]; exact hq))
  · rw [if_neg b0, if_neg (ne0 b1)]
    refine ⟨_, rfl, m_X7_truth ?_⟩
    rw [if_neg (ne0 c2), if_neg (ne0 b2)]
    refine m_load (by omega) (fun I1 g1 g2 => ⟨rfl, fun _ => zvin hc (by decide), _, rfl, ?_, n, m, R_scr (fun a ha => g1 a (scr_60 ha).2.2.2.1) h⟩)
    rw [if_pos b3, zcl (by omega), g2 c hc]
    unfold v_X1_iceOn
    rw [if_neg (nI_pos (by omega)), if_pos b3, zcl (by omega), show 5 + 2 * i + 1 = 6 + 2 * i by omega]
    exact (p6 c hc).1
theorem sim_readOf (a1 : Int32) : Sim M_X6_readOf 4 M_X7_readOf 3 [vI a1] := by
  rintro l g I L ⟨n, m, h⟩
  obtain ⟨hW, hN, hn, hm, e2, e2', e3, e3', e4, e5, e6, hf⟩ := Rn_wx h
  refine m_X6_readOf ?_
  rcases pane_cases hm e3 e3' a1 with ⟨c1, c2⟩ | ⟨i, hi, rfl, c1, c2⟩
  · rw [if_pos c1]
    exact both_no1 h (fun Q hq => m_X7_readOf (by rw [if_pos (show v_X7_isPane (rf1 I 1) a1 = 0 from c2)]; exact hq))
  rw [if_neg (by rw [c1]; omega), c1]
  obtain ⟨hP, p0, p1, p2, p3, p4, p5, p6⟩ := Rn_pane h hi
  obtain ⟨q1, q2, q3⟩ := RC_read h.1 (v_X1_frosted I (5 + 2 * i))
  refine ⟨q2, _, rfl, m_X7_readOf ?_⟩
  rw [if_neg (ne0 c2)]
  refine m_load (by omega) (fun I1 g1 g2 => ⟨rfl, ?_, _, rfl, ?_, n, m, R_scr (fun a ha => g1 a (scr_60 ha).2.2.2.1) h⟩)
  · unfold k_X7_read
    rw [g1 87 (by decide)]
    exact q3
  · rw [q1]
    unfold v_X7_read
    rw [g1 87 (by decide), g1 91 (by decide), show v_X7_shapeNow I1 = v_X1_frosted I (5 + 2 * i) from frost_cong (fun c hc => by rw [g2 c hc, show 5 + 2 * i + 1 = 6 + 2 * i by omega]; exact (p6 c hc).1.symm)]
theorem cls_sharp {I : zI} {L : zL} {n m i : Nat} (h : Rn I L n m) (hi : i < m) : v_X1_sharpness I (5 + 2 * i) (I 2 4) (I 2 5) = v_X7_sharp I (nI i) ∧ k_X7_sharp I (nI i) := by
  obtain ⟨hW, hN, hn, hm, e2, e2', e3, e3', e4, e5, e6, hf⟩ := Rn_wx h
  obtain ⟨⟨i8, z0, z1, z2⟩, p0, p1, p2, p3, p4, p5, p6⟩ := Rn_pane h hi
  refine ⟨?_, zvin i8 (by decide)⟩
  rw [m_sh (by rw [zcl (by omega)]; exact z0), c_sh, zcl (by omega), p0, p2, e4, e5]
theorem sim_paneOf (a1 a2 : Int32) : Sim M_X6_paneOf 4 M_X7_paneOf 3 [vI a1, vI a2] := by
  rintro l g I L ⟨n, m, h⟩
  obtain ⟨hW, hN, hn, hm, e2, e2', e3, e3', e4, e5, e6, hf⟩ := Rn_wx h
  refine m_X6_paneOf ?_
  rcases pane_cases hm e3 e3' a1 with ⟨c1, c2⟩ | ⟨i, hi, rfl, c1, c2⟩
  · rw [if_pos c1]
    exact both_no (k := 5) (by decide) rfl h (fun Q hq => m_X7_paneOf (by rw [if_pos (show v_X7_isPane (rf1 I 5) a1 = 0 from c2)]; exact hq))
  rw [if_neg (by rw [c1]; omega), c1]
  obtain ⟨⟨i8, z0, z1, z2⟩, p0, p1, p2, p3, p4, p5, p6⟩ := Rn_pane h hi
  have hv : vp_in (nI i) 8 := zvin i8 (by decide)
  have hz : (nI i).toNatClampNeg = i := zcl (by omega)
  by_cases d0 : a2 = 0
  · subst d0
    rw [if_pos rfl]
    refine ⟨_, rfl, m_X7_paneOf ?_⟩
    rw [if_neg (ne0 c2), if_neg (by decide), if_pos rfl, hz]
    exact ⟨hv, _, rfl, p0, n, m, h⟩
  by_cases d1 : a2 = 1
  · subst d1
    rw [if_neg (by decide), if_pos rfl]
    refine ⟨_, rfl, m_X7_paneOf ?_⟩
    rw [if_neg (ne0 c2), if_neg (by decide), if_neg (by decide), if_pos rfl, hz]
    exact ⟨hv, _, rfl, p1, n, m, h⟩
  by_cases d2 : a2 = 2
  · subst d2
    rw [if_neg (by decide), if_neg (by decide), if_pos rfl]
    refine ⟨_, rfl, m_X7_paneOf ?_⟩
    rw [if_neg (ne0 c2), if_neg (by decide), if_neg (by decide), if_neg (by decide), if_pos rfl, hz]
    exact ⟨hv, _, rfl, p2, n, m, h⟩
  by_cases d3 : a2 = 3
  · subst d3
    rw [if_neg (by decide), if_neg (by decide), if_neg (by decide), if_pos rfl]
    refine ⟨_, rfl, m_X7_paneOf ?_⟩
    rw [if_neg (ne0 c2), if_neg (by decide), if_neg (by decide), if_neg (by decide), if_neg (by decide), if_pos rfl]
    exact ⟨(cls_sharp h hi).2, _, rfl, (cls_sharp h hi).1, n, m, h⟩
  by_cases d4 : a2 = 4
  · subst d4
    rw [if_neg (by decide), if_neg (by decide), if_neg (by decide), if_neg (by decide), if_pos rfl]
    refine ⟨_, rfl, m_X7_paneOf ?_⟩
    rw [if_neg (ne0 c2), if_neg (by decide), if_neg (by decide), if_neg (by decide), if_neg (by decide), if_neg (by decide), hz]
    exact ⟨hv, _, rfl, p4, n, m, h⟩
  rw [if_neg d0, if_neg d1, if_neg d2, if_neg d3, if_neg d4]
  refine both_no (k := 5) (by decide) rfl h (fun Q hq => m_X7_paneOf ?_)
  rw [if_neg (show ¬ v_X7_isPane (rf1 I 5) (nI i) = 0 from ne0 c2), if_pos]
  · exact hq
  · rcases in_cases a2 (m := 5) (by decide) with ⟨-, w⟩ | ⟨j, hj, rfl, -⟩
    · exact w
    · exfalso
      have : j = 0 ∨ j = 1 ∨ j = 2 ∨ j = 3 ∨ j = 4 := by omega
      rcases this with rfl | rfl | rfl | rfl | rfl
      · exact d0 rfl
      · exact d1 rfl
      · exact d2 rfl
      · exact d3 rfl
      · exact d4 rfl
