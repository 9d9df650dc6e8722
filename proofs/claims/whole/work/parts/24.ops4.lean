/-! OPERATIONS: over all panes -/
theorem paneAt_in {I : zI} {m i : Nat} (hm : m ≤ 8) (e : I 2 3 = nI m) (hi : i < m) : v_X4_paneAt I 2 (nI i) = 5 + 2 * i := by
  unfold v_X4_paneAt
  rw [if_neg (nI_pos (by omega)), e, if_pos (nI_lt hi (by omega)), if_pos (n8 (show i < 8 by omega)), zcl (by omega)]
/-- the panes read right at an hour -/
def pgb (I : zI) (h : Nat) : Nat → Int32
  | 0 => 0
  | c + 1 => if I 95 c = -1 then pgb I h c else if ob I c (I 95 c) h = I 95 c then pgb I h c ||| jshl 1 (nI c) else pgb I h c
theorem sim_page (a1 : Int32) : Sim M_X6_page 7 M_X7_page 5 [vI a1] := by
  rintro l g I L ⟨n, m, h⟩
  obtain ⟨hW, hN, hn, hm, e2, e2', e3, e3', e4, e5, e6, hf⟩ := Rn_wx h
  refine m_X6_page ?_
  rcases hour_cases a1 with ⟨f1, f2⟩ | ⟨hh, hhh, rfl, f1, f2⟩
  · rw [if_pos f1]
    exact both_no (k := 6) (by decide) rfl h (fun Q hq => m_X7_page (fun k hk X E => by rw [if_pos f2, hk]; exact hq))
  rw [if_neg (ne0 f1)]
  refine m_X5_panesRight (fun k hk X E => ?_)
  refine zdown (N := m) (P := fun c => ∀ I1 : zI, (∀ a, ¬ scr a → I1 a = I a) → AW k g 5 I1 L 4 [(0, vR 59), (1, vI (nI hh)), (2, vI (pgb I hh c)), (3, vI (nI c))] []) (fun I1 k1 => ?_) (fun c hc ih I1 k1 => ?_) (c := 0) (by omega) I (fun _ _ => rfl)
  · refine s_X5_panesRight_4 X E ?_
    have h1 : Rn I1 L n m := R_scr k1 h
    obtain ⟨-, -, -, -, -, -, e3a, -⟩ := Rn_wx h1
    rw [e3a, if_neg (nI_nlt (Nat.le_refl _) (by omega))]
    refine ⟨_, rfl, _, rfl, m_X7_page (fun k2 hk2 X2 E2 => ?_)⟩
    rw [if_neg (ne0 f2)]
    refine zdown (N := m) (P := fun c => ∀ I2 : zI, (∀ a, ¬ scr a → I2 a = I a) → AW k2 g 4 I2 L 21 [(0, vR 87), (1, vI (nI hh)), (2, vI (pgb I hh c)), (3, vI (nI c))] []) (fun I2 k2 => ?_) (fun c hc ih I2 k2 => ?_) (c := 0) (by omega) I1 k1
    · refine s_X7_page_21 X2 E2 ?_
      have h2 : Rn I2 L n m := R_scr k2 h
      obtain ⟨-, -, -, -, -, -, -, e3b, -⟩ := Rn_wx h2
      rw [e3b, if_neg (nI_nlt (Nat.le_refl _) (by omega))]
      exact ⟨_, rfl, rfl, n, m, h2⟩
    · refine s_X7_page_21 X2 E2 ?_
      have h2 : Rn I2 L n m := R_scr k2 h
      obtain ⟨-, -, -, -, -, -, -, e3b, -⟩ := Rn_wx h2
      obtain ⟨hP, p0, p1, p2, p3, p4, p5, -⟩ := Rn_pane h2 hc
      rw [e3b, if_pos (nI_lt hc (by omega)), zcl (by omega)]
      refine ⟨zvin (by omega) (by decide), ?_⟩
      have t95 : I2 95 = I 95 := k2 95 s95
      by_cases hb : I 95 c = -1
      · rw [t95, if_pos hb, ← nI_succ]
        have e := ih I2 k2
        unfold pgb at e
        rw [if_pos hb] at e
        exact e
      · rw [t95, if_neg hb]
        refine R_readAt h2 hc (by rw [← t95]; exact p5) hhh (fun I3 b1 => ⟨_, rfl, ?_⟩)
        have k3 : ∀ a, ¬ scr a → I3 a = I a := fun a ha => (sc2 b1 a ha).trans (k2 a ha)
        rw [ob_t k2]
        dsimp only
        rw [k3 95 s95, ← nI_succ]
        have e := ih I3 k3
        unfold pgb at e
        rw [if_neg hb] at e
        exact e
  · refine s_X5_panesRight_4 X E ?_
    have h1 : Rn I1 L n m := R_scr k1 h
    obtain ⟨-, -, -, -, -, -, e3a, -⟩ := Rn_wx h1
    obtain ⟨hP, p0, p1, p2, p3, p4, p5, -⟩ := Rn_pane h1 hc
    rw [paneAt_in hm e3a hc, e3a, if_pos (nI_lt hc (by omega)), if_neg (by omega), p3]
    have t95 : I1 95 = I 95 := k1 95 s95
    by_cases hb : I 95 c = -1
    · rw [t95, if_pos hb, ← nI_succ]
      have e := ih I1 k1
      unfold pgb at e
      rw [if_pos hb] at e
      exact e
    · rw [t95, if_neg hb]
      refine R_shapeAt h1 hc (by rw [← t95]; exact p5) hhh (fun sh I3 b1 _ g3 g4 _ => ⟨_, rfl, g4, ?_⟩)
      have k3 : ∀ a, ¬ scr a → I3 a = I a := fun a ha => (sc4 b1 a ha).trans (k1 a ha)
      rintro u rfl
      rw [g3, ob_t k1, b1 (5 + 2 * c) (by omega) (by omega), p3, t95, ← nI_succ]
      have e := ih I3 k3
      unfold pgb at e
      rw [if_neg hb] at e
      exact e
/-- the panes read by mistake -/
def msb (I : zI) : Nat → Int32
  | 0 => 0
  | c + 1 => if I 95 c = -1 then (if ob I c (-1) 0 = -1 then msb I c else msb I c ||| jshl 1 (nI c)) else msb I c
theorem sim_mistaken : Sim M_X6_mistaken 7 M_X7_mistaken 5 [] := by
  rintro l g I L ⟨n, m, h⟩
  obtain ⟨hW, hN, hn, hm, e2, e2', e3, e3', e4, e5, e6, hf⟩ := Rn_wx h
  refine m_X6_mistaken ?_
  refine m_X5_curtainsRead (fun k hk X E => ?_)
  refine zdown (N := m) (P := fun c => ∀ I1 : zI, (∀ a, ¬ scr a → I1 a = I a) → AW k g 4 I1 L 4 [(0, vR 59), (1, vI (msb I c)), (2, vI (nI c))] []) (fun I1 k1 => ?_) (fun c hc ih I1 k1 => ?_) (c := 0) (by omega) I (fun _ _ => rfl)
  · refine s_X5_curtainsRead_4 X E ?_
    have h1 : Rn I1 L n m := R_scr k1 h
    obtain ⟨-, -, -, -, -, -, e3a, -⟩ := Rn_wx h1
    rw [e3a, if_neg (nI_nlt (Nat.le_refl _) (by omega))]
    refine ⟨_, rfl, _, rfl, m_X7_mistaken (fun k2 hk2 X2 E2 => ?_)⟩
    refine zdown (N := m) (P := fun c => ∀ I2 : zI, (∀ a, ¬ scr a → I2 a = I a) → AW k2 g 3 I2 L 4 [(0, vR 87), (1, vI (msb I c)), (2, vI (nI c))] []) (fun I2 k2 => ?_) (fun c hc ih I2 k2 => ?_) (c := 0) (by omega) I1 k1
    · refine s_X7_mistaken_4 X2 E2 ?_
      have h2 : Rn I2 L n m := R_scr k2 h
      obtain ⟨-, -, -, -, -, -, -, e3b, -⟩ := Rn_wx h2
      rw [e3b, if_neg (nI_nlt (Nat.le_refl _) (by omega))]
      exact ⟨_, rfl, rfl, n, m, h2⟩
    · refine s_X7_mistaken_4 X2 E2 ?_
      have h2 : Rn I2 L n m := R_scr k2 h
      obtain ⟨-, -, -, -, -, -, -, e3b, -⟩ := Rn_wx h2
      rw [e3b, if_pos (nI_lt hc (by omega)), zcl (by omega)]
      refine ⟨zvin (by omega) (by decide), ?_⟩
      have t95 : I2 95 = I 95 := k2 95 s95
      by_cases hb : I 95 c = -1
      · rw [t95, if_pos hb]
        refine R_readAt (j := 0) h2 hc (Or.inl rfl) (by decide) (fun I3 b1 => ⟨_, rfl, ?_⟩)
        have k3 : ∀ a, ¬ scr a → I3 a = I a := fun a ha => (sc2 b1 a ha).trans (k2 a ha)
        rw [ob_t k2, ← nI_succ]
        have e := ih I3 k3
        unfold msb at e
        rw [if_pos hb] at e
        exact e
      · rw [t95, if_neg hb, ← nI_succ]
        have e := ih I2 k2
        unfold msb at e
        rw [if_neg hb] at e
        exact e
  · refine s_X5_curtainsRead_4 X E ?_
    have h1 : Rn I1 L n m := R_scr k1 h
    obtain ⟨-, -, -, -, -, -, e3a, -⟩ := Rn_wx h1
    obtain ⟨hP, p0, p1, p2, p3, p4, p5, -⟩ := Rn_pane h1 hc
    rw [paneAt_in hm e3a hc, e3a, if_pos (nI_lt hc (by omega)), if_neg (by omega), p3]
    have t95 : I1 95 = I 95 := k1 95 s95
    by_cases hb : I 95 c = -1
    · rw [t95, if_pos hb]
      refine R_shapeAt (j := 0) h1 hc (Or.inl rfl) (by decide) (fun sh I3 b1 _ g3 g4 _ => ⟨_, rfl, g4, ?_⟩)
      have k3 : ∀ a, ¬ scr a → I3 a = I a := fun a ha => (sc4 b1 a ha).trans (k1 a ha)
      rw [g3, ob_t k1, ← nI_succ]
      have e := ih I3 k3
      unfold msb at e
      rw [if_pos hb] at e
      exact e
    · rw [t95, if_neg hb, ← nI_succ]
      have e := ih I1 k1
      unfold msb at e
      rw [if_neg hb] at e
      exact e
/-- the shape that would be -/
def obS (I : zI) (i : Nat) (x : Int32) (j : Nat) : Int32 := shpH (I 92 i) (I 93 i) (I 94 i) (I 96 i) (mform I x) (I 87 12) (I 87 13) (I 87 14) j
theorem obS_t {I I1 : zI} (h : ∀ a, ¬ scr a → I1 a = I a) (i : Nat) (x : Int32) (j : Nat) : obS I1 i x j = obS I i x j := by
  unfold obS
  rw [h 87 (by unfold scr; omega), h 92 (by unfold scr; omega), h 93 (by unfold scr; omega), h 94 (by unfold scr; omega), h 96 (by unfold scr; omega), tM (h 91 (by unfold scr; omega))]
/-- the letters that could hang there -/
def cdb (I : zI) (i : Nat) (sh : Int32) (h : Nat) (z : Int32) : Nat → Int32
  | 0 => z
  | c + 1 => if obS I i (nI c) h = sh then cdb I i sh h z c ||| jshl 1 (nI c) else cdb I i sh h z c
theorem cdb_or (I : zI) (i : Nat) (sh : Int32) (h : Nat) (z : Int32) : ∀ c, cdb I i sh h z c = cdb I i sh h 0 c ||| z
  | 0 => (Int32.zero_or).symm
  | c + 1 => by
    unfold cdb
    rw [cdb_or I i sh h z c]
    split
    · rw [Int32.or_assoc, Int32.or_comm z, ← Int32.or_assoc]
    · rfl
theorem sim_could (a1 a2 a3 : Int32) : Sim M_X6_could 7 M_X7_could 4 [vI a1, vI a2, vI a3] := by
  rintro l g I L ⟨n, m, h⟩
  obtain ⟨hW, hN, hn, hm, e2, e2', e3, e3', e4, e5, e6, hf⟩ := Rn_wx h
  refine m_X6_could ?_
  rcases pane_cases hm e3 e3' a1 with ⟨c1, c2⟩ | ⟨i, hi, rfl, c1, c2⟩
  · rw [if_pos c1]
    exact both_no (k := 1) (by decide) rfl h (fun Q hq => m_X7_could (fun k hk X E => by rw [if_pos (show v_X7_isPane (rf1 I 1) a1 = 0 from c2), hk]; exact hq))
  rw [if_neg (by rw [c1]; omega), c1]
  rcases shape_cases a2 with ⟨b1, b2⟩ | ⟨sh, hsh, rfl, b1, b2⟩
  · rw [if_pos b1]
    exact both_no (k := 6) (by decide) rfl h (fun Q hq => m_X7_could (fun k hk X E => by rw [if_neg (show ¬ v_X7_isPane (rf1 I 6) (nI i) = 0 from ne0 c2), if_pos b2, hk]; exact hq))
  rw [if_neg (ne0 b1)]
  rcases hour_cases a3 with ⟨f1, f2⟩ | ⟨hh, hhh, rfl, f1, f2⟩
  · rw [if_pos f1]
    exact both_no (k := 6) (by decide) rfl h (fun Q hq => m_X7_could (fun k hk X E => by rw [if_neg (show ¬ v_X7_isPane (rf1 I 6) (nI i) = 0 from ne0 c2), if_neg (ne0 b2), if_pos f2, hk]; exact hq))
  rw [if_neg (ne0 f1)]
  refine m_X5_lettersThatShow (fun k hk X E => ?_)
  have q60 : ∀ {a : Nat}, ¬ scr a → a ≠ 60 ∧ a ≠ 61 := fun ha => ⟨(scr_60 ha).1, (scr_60 ha).2.1⟩
  refine zdown (N := n) (P := fun c => ∀ I1 : zI, (∀ a, ¬ scr a → I1 a = I a) → AW k g 6 I1 L 6 [(0, vR 59), (1, vR (5 + 2 * i)), (2, vI (nI sh)), (3, vI (nI hh)), (4, vI (cdb I i (nI sh) hh 0 c)), (5, vI (nI c))] []) (fun I1 k1 => ?_) (fun c hc ih I1 k1 => ?_) (c := 0) (by omega) I (fun _ _ => rfl)
  · refine s_X5_lettersThatShow_6 X E ?_
    have h1 : Rn I1 L n m := R_scr k1 h
    obtain ⟨-, -, -, -, e2a, -⟩ := Rn_wx h1
    rw [e2a, if_neg (nI_nlt (Nat.le_refl _) (by omega))]
    refine R_shapeAt h1 hi (Or.inl rfl) hhh (fun s2 I3 b3 es _ _ _ => ⟨_, rfl, _, rfl, _, rfl, ?_⟩)
    have k3 : ∀ a, ¬ scr a → I3 a = I a := fun a ha => (sc4 b3 a ha).trans (k1 a ha)
    have h3 : Rn I3 L n m := R_scr k3 h
    have es' : s2 = obS I i (-1) hh := es.trans (obS_t k1 i (-1) hh)
    refine m_X7_could (fun k2 hk2 X2 E2 => ?_)
    rw [if_neg (by rw [tP (k3 87 s87)]; exact ne0 c2), if_neg (ne0 b2), if_neg (ne0 f2)]
    refine m_shapeAt hhh (Rn_pane h3 hi).1 (Rn_wx h3).1 (Or.inl rfl) (fun I4 k4 _ => ⟨_, rfl, ?_⟩)
    have k5 : ∀ a, ¬ scr a → I4 a = I a := fun a ha => (sc2 k4 a ha).trans (k3 a ha)
    have ev : shpH (I3 92 i) (I3 93 i) (I3 94 i) (I3 96 i) (mform I3 (-1)) (I3 87 12) (I3 87 13) (I3 87 14) hh = obS I i (-1) hh := obS_t k3 i (-1) hh
    dsimp only
    rw [ev]
    refine zdown (N := n) (P := fun c => ∀ I5 : zI, (∀ a, ¬ scr a → I5 a = I a) → AW k2 g 6 I5 L 64 [(0, vR 87), (1, vI (nI i)), (2, vI (nI sh)), (3, vI (nI hh)), (4, vI (cdb I i (nI sh) hh (if obS I i (-1) hh = nI sh then 256 else 0) c)), (5, vI (nI c))] []) (fun I5 k5 => ?_) (fun c hc ih I5 k5 => ?_) (c := 0) (by omega) I4 k5
    · refine s_X7_could_64 X2 E2 ?_
      have h5 : Rn I5 L n m := R_scr k5 h
      obtain ⟨-, -, -, -, -, e2b, -⟩ := Rn_wx h5
      rw [e2b, if_neg (nI_nlt (Nat.le_refl _) (by omega))]
      refine ⟨_, rfl, ?_, n, m, h5⟩
      rw [es']
      by_cases hz : obS I i (-1) hh = nI sh
      · rw [if_pos hz, if_pos hz]
        exact (cdb_or I i (nI sh) hh 256 n).symm
      · rw [if_neg hz, if_neg hz]
    · refine s_X7_could_64 X2 E2 ?_
      have h5 : Rn I5 L n m := R_scr k5 h
      obtain ⟨-, -, -, -, -, e2b, -⟩ := Rn_wx h5
      rw [e2b, if_pos (nI_lt hc (by omega))]
      refine m_shapeAt hhh (Rn_pane h5 hi).1 (Rn_wx h5).1 (Or.inr ⟨c, by omega, rfl⟩) (fun I6 k6 _ => ⟨_, rfl, ?_⟩)
      have k7 : ∀ a, ¬ scr a → I6 a = I a := fun a ha => (sc2 k6 a ha).trans (k5 a ha)
      have ev : shpH (I5 92 i) (I5 93 i) (I5 94 i) (I5 96 i) (mform I5 (nI c)) (I5 87 12) (I5 87 13) (I5 87 14) hh = obS I i (nI c) hh := obS_t k5 i (nI c) hh
      dsimp only
      rw [ev, ← nI_succ]
      exact ih I6 k7
  · refine s_X5_lettersThatShow_6 X E ?_
    have h1 : Rn I1 L n m := R_scr k1 h
    obtain ⟨-, -, -, -, e2a, -⟩ := Rn_wx h1
    rw [e2a, if_pos (nI_lt hc (by omega))]
    refine R_shapeAt h1 hi (Or.inr ⟨c, hc, rfl⟩) hhh (fun s2 I3 b3 es _ _ _ => ⟨_, rfl, ?_⟩)
    have k3 : ∀ a, ¬ scr a → I3 a = I a := fun a ha => (sc4 b3 a ha).trans (k1 a ha)
    rw [show s2 = obS I i (nI c) hh from es.trans (obS_t k1 i (nI c) hh)]
    rw [← nI_succ]
    exact ih I3 k3
