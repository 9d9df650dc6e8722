/-! WHAT IS ASKED over the glass, pane by pane, letter by letter -/
/-- the panes read right at an hour -/
def pgb (V : zI) (h : Nat) : Nat → Int32
  | 0 => 0
  | c + 1 => if V 95 c = -1 then pgb V h c else if ob V c (V 95 c) h = V 95 c then pgb V h c ||| jshl 1 (nI c) else pgb V h c
/-- the panes read by mistake -/
def msb (V : zI) : Nat → Int32
  | 0 => 0
  | c + 1 => if V 95 c = -1 then (if ob V c (-1) 0 = -1 then msb V c else msb V c ||| jshl 1 (nI c)) else msb V c
/-- the letters that could hang there -/
def cdb (V : zI) (i : Nat) (sh : Int32) (h : Nat) : Nat → Int32
  | 0 => 0
  | c + 1 => if obS V i (nI c) h = sh then cdb V i sh h c ||| jshl 1 (nI c) else cdb V i sh h c
def cdv (V : zI) (n i : Nat) (sh : Int32) (h : Nat) : Int32 := if obS V i (-1) h = sh then cdb V i sh h n ||| 256 else cdb V i sh h n
theorem lam_cong {f f2 : Nat → Int32} : ∀ {c : Nat}, (∀ j, j < c → f j = f2 j) → lam f c = lam f2 c
  | 0, _ => rfl
  | c + 1, h => by
    unfold lam
    rw [h c (by omega), lam_cong (fun j hj => h j (by omega))]
/-- all that a letter becomes on the first c panes -/
def bcA (V : zI) (x : Int32) : Nat → Int32
  | 0 => 0
  | c + 1 => bcA V x c ||| lam (ob V c x) 25
/-- the warmest room from r down; -1 if none -/
def wrm (f : Nat → Int32) (x : Int32) : Nat → Int32
  | 0 => -1
  | r + 1 => if f r = x then nI r else wrm f x r
def obR (V : zI) (i : Nat) (x : Int32) (j r : Nat) : Int32 := rdH (V 91) (V 87 3).toNatClampNeg (V 92 i) (nI r) (V 94 i) (V 96 i) (mform V x) (V 87 12) (V 87 13) (V 87 14) j
def obC (V : zI) (i : Nat) (x : Int32) (j c : Nat) : Int32 := rdH (V 91) (V 87 3).toNatClampNeg (V 92 i) (V 93 i) (V 94 i) (V 96 i) (mform V x) (nI c) (V 87 13) (V 87 14) j
/-- the least cold from c up -/
def chl (f : Nat → Int32) (x : Int32) : Nat → Nat → Int32
  | 0, _ => -1
  | k + 1, c => if f c = x then nI c else chl f x k (c + 1)
theorem nI_sub1 (r : Nat) : nI (r + 1) + -1 = nI r := pk_m1 r
section ZQ4
variable {l : Launch} {g : zG} {Q : Option zv → zI → zL → Prop} {I V : zI} {L : zL} {n m i j x hh : Nat} {sh : Int32}
theorem q_page (h : RC I V n m) (hj : hh ≤ 24) (hQ : ∀ I' : zI, Gf I I' → Q (some (vI (pgb V hh m))) I' L) : Call l g 7 M_X6_page [vR 1, vI (nI hh)] I L Q := by
  obtain ⟨hW, hN, hn, hm, e2, e2', e3, e3', e4, e5, e6, hf⟩ := RC_wx h
  refine m_X6_page ?_
  rw [if_neg (by rw [hour_in hj]; decide)]
  refine m_X5_panesRight (fun k hk X E => ?_)
  refine zdown (N := m) (P := fun c => ∀ I1 : zI, Gf I I1 → AW k g 5 I1 L 4 [(0, vR 59), (1, vI (nI hh)), (2, vI (pgb V hh c)), (3, vI (nI c))] []) (fun I1 k1 => ?_) (fun c hc ih I1 k1 => ?_) (c := 0) (by omega) I Gf.rf
  · refine s_X5_panesRight_4 X E ?_
    obtain ⟨-, -, -, -, -, -, e3a, -⟩ := RC_wx (RC_gl k1 h)
    rw [e3a, if_neg (nI_nlt (Nat.le_refl _) (by omega))]
    exact ⟨_, rfl, hQ I1 k1⟩
  · refine s_X5_panesRight_4 X E ?_
    have h1 := RC_gl k1 h
    obtain ⟨-, -, -, -, -, -, e3a, -⟩ := RC_wx h1
    obtain ⟨hP, p0, p1, p2, p3, p4, p5, -⟩ := RC_pane h1 hc
    rw [paneAt_in hm e3a hc, e3a, if_pos (nI_lt hc (by omega)), if_neg (by omega), p3]
    by_cases hb : V 95 c = -1
    · rw [if_pos hb, ← nI_succ]
      have e := ih I1 k1
      unfold pgb at e
      rw [if_pos hb] at e
      exact e
    · rw [if_neg hb]
      refine R_shapeAt h1 hc p5 hj (fun I3 b1 g3 g4 _ => ⟨_, rfl, g4, ?_⟩)
      rintro u rfl
      rw [g3, b1.lo (show 5 + 2 * c < 60 by omega), p3, ← nI_succ]
      have e := ih I3 (k1.t b1)
      unfold pgb at e
      rw [if_neg hb] at e
      exact e
theorem q_mistaken (h : RC I V n m) (hQ : ∀ I' : zI, Gf I I' → Q (some (vI (msb V m))) I' L) : Call l g 7 M_X6_mistaken [vR 1] I L Q := by
  obtain ⟨hW, hN, hn, hm, e2, e2', e3, e3', e4, e5, e6, hf⟩ := RC_wx h
  refine m_X6_mistaken ?_
  refine m_X5_curtainsRead (fun k hk X E => ?_)
  refine zdown (N := m) (P := fun c => ∀ I1 : zI, Gf I I1 → AW k g 4 I1 L 4 [(0, vR 59), (1, vI (msb V c)), (2, vI (nI c))] []) (fun I1 k1 => ?_) (fun c hc ih I1 k1 => ?_) (c := 0) (by omega) I Gf.rf
  · refine s_X5_curtainsRead_4 X E ?_
    obtain ⟨-, -, -, -, -, -, e3a, -⟩ := RC_wx (RC_gl k1 h)
    rw [e3a, if_neg (nI_nlt (Nat.le_refl _) (by omega))]
    exact ⟨_, rfl, hQ I1 k1⟩
  · refine s_X5_curtainsRead_4 X E ?_
    have h1 := RC_gl k1 h
    obtain ⟨-, -, -, -, -, -, e3a, -⟩ := RC_wx h1
    obtain ⟨hP, p0, p1, p2, p3, p4, p5, -⟩ := RC_pane h1 hc
    rw [paneAt_in hm e3a hc, e3a, if_pos (nI_lt hc (by omega)), if_neg (by omega), p3]
    by_cases hb : V 95 c = -1
    · rw [if_pos hb]
      refine R_shapeAt (j := 0) h1 hc (Or.inl rfl) (by decide) (fun I3 b1 g3 g4 _ => ⟨_, rfl, g4, ?_⟩)
      rw [g3, ← nI_succ]
      have e := ih I3 (k1.t b1)
      unfold msb at e
      rw [if_pos hb] at e
      exact e
    · rw [if_neg hb, ← nI_succ]
      have e := ih I1 k1
      unfold msb at e
      rw [if_neg hb] at e
      exact e
theorem q_could (h : RC I V n m) (hi : i < m) (hs : zle 65535 sh) (hj : hh ≤ 24) (hQ : ∀ I' : zI, Gf I I' → Q (some (vI (cdv V n i sh hh))) I' L) : Call l g 7 M_X6_could [vR 1, vI (nI i), vI sh, vI (nI hh)] I L Q := by
  obtain ⟨hW, hN, hn, hm, e2, e2', e3, e3', e4, e5, e6, hf⟩ := RC_wx h
  obtain ⟨q, hq, rfl⟩ := hs
  refine m_X6_could ?_
  rw [paneAt_in hm e3 hi, if_neg (by omega), if_neg (by rw [shape_in hq]; decide), if_neg (by rw [hour_in hj]; decide)]
  refine m_X5_lettersThatShow (fun k hk X E => ?_)
  refine zdown (N := n) (P := fun c => ∀ I1 : zI, Gf I I1 → AW k g 6 I1 L 6 [(0, vR 59), (1, vR (5 + 2 * i)), (2, vI (nI q)), (3, vI (nI hh)), (4, vI (cdb V i (nI q) hh c)), (5, vI (nI c))] []) (fun I1 k1 => ?_) (fun c hc ih I1 k1 => ?_) (c := 0) (by omega) I Gf.rf
  · refine s_X5_lettersThatShow_6 X E ?_
    have h1 := RC_gl k1 h
    obtain ⟨-, -, -, -, e2a, -⟩ := RC_wx h1
    rw [e2a, if_neg (nI_nlt (Nat.le_refl _) (by omega))]
    exact R_shapeAt h1 hi (Or.inl rfl) hj (fun I3 b3 _ _ _ => ⟨_, rfl, _, rfl, hQ I3 (k1.t b3)⟩)
  · refine s_X5_lettersThatShow_6 X E ?_
    have h1 := RC_gl k1 h
    obtain ⟨-, -, -, -, e2a, -⟩ := RC_wx h1
    rw [e2a, if_pos (nI_lt hc (by omega))]
    refine R_shapeAt h1 hi (Or.inr ⟨c, hc, rfl⟩) hj (fun I3 b3 _ _ _ => ⟨_, rfl, ?_⟩)
    rw [← nI_succ]
    exact ih I3 (k1.t b3)
theorem q_becomes (h : RC I V n m) (hx : x < n) (hQ : ∀ I' : zI, Gf I I' → Q (some (vI (bcA V (nI x) m &&& (jshl 1 (nI x) ^^^ -1)))) I' L) : Call l g 6 M_X6_becomes [vR 1, vI (nI x)] I L Q := by
  obtain ⟨hW, hN, hn, hm, e2, e2', e3, e3', e4, e5, e6, hf⟩ := RC_wx h
  refine m_X6_becomes ?_
  rw [if_neg (by rw [isl e2 hn hx]; decide)]
  refine m_X5_othersReadFor (fun k hk X E => ?_)
  refine zdown (N := m) (P := fun c => ∀ I1 : zI, Gf I I1 → AW k g 5 I1 L 4 [(0, vR 59), (1, vI (nI x)), (2, vI (bcA V (nI x) c)), (3, vI (nI c))] []) (fun I1 k1 => ?_) (fun c hc ih I1 k1 => ?_) (c := 0) (by omega) I Gf.rf
  · refine s_X5_othersReadFor_4 X E ?_
    obtain ⟨-, -, -, -, -, -, e3a, -⟩ := RC_wx (RC_gl k1 h)
    rw [e3a, if_neg (nI_nlt (Nat.le_refl _) (by omega))]
    exact ⟨_, rfl, hQ I1 k1⟩
  · refine s_X5_othersReadFor_4 X E ?_
    have h1 := RC_gl k1 h
    obtain ⟨-, -, -, -, -, -, e3a, -⟩ := RC_wx h1
    rw [paneAt_in hm e3a hc, e3a, if_pos (nI_lt hc (by omega)), if_neg (by omega)]
    refine R_readAll h1 hc (Or.inr ⟨x, hx, rfl⟩) (fun I2 g1 g2 => ⟨rfl, ?_⟩)
    have el : v_X5_lettersAmongReadings I2 = lam (ob V c (nI x)) 25 := lam_cong g2
    dsimp only
    rw [el, ← nI_succ]
    exact ih I2 (k1.t g1)
theorem q_stove (h : RC I V n m) (hi : i < m) (hx : x < n) (hj : hh ≤ 24) (hQ : ∀ I' : zI, Gf I I' → Q (some (vI (wrm (obR V i (nI x) hh) (nI x) 10))) I' L) : Call l g 6 M_X6_stove [vR 1, vI (nI i), vI (nI x), vI (nI hh)] I L Q := by
  obtain ⟨hW, hN, hn, hm, e2, e2', e3, e3', e4, e5, e6, hf⟩ := RC_wx h
  obtain ⟨⟨i8, z0, z1, z2⟩, p0, p1, p2, p3, p4, p5, p6⟩ := RC_pane h hi
  refine m_X6_stove ?_
  rw [paneAt_in hm e3 hi, if_neg (by omega), if_neg (by rw [isl e2 hn hx]; decide), if_neg (by rw [hour_in hj]; decide)]
  refine m_X5_warmestRoom (fun k hk X E => ?_)
  refine c_takeGlass (p := 60) rfl (zshP i (by omega)) (by omega) (fun I1 g1 g2 => ⟨rfl, ?_⟩)
  have lp : ∀ r, r ≤ 10 → wrm (obR V i (nI x) hh) (nI x) r = wrm (obR V i (nI x) hh) (nI x) 10 → ∀ I2 : zI, (∀ a, a ≠ 60 → a ≠ 61 → I2 a = I a) → (∀ j, j < 5 → j ≠ 1 → I2 60 j = I (5 + 2 * i) j) → AW k g 5 I2 L 12 [(0, vR 59), (2, vI (nI x)), (3, vI (nI hh)), (4, vI (nI r + -1))] [] := by
    intro r
    induction r with
    | zero =>
      intro _ he I2 b1 b2
      refine s_X5_warmestRoom_12 X E ?_
      rw [if_pos (by decide)]
      have := hQ I2 (fun a ha => b1 a (by unfold gl at ha; omega) (by unfold gl at ha; omega))
      rw [← he] at this
      exact ⟨_, rfl, this⟩
    | succ r ih =>
      intro h10 he I2 b1 b2
      refine s_X5_warmestRoom_12 X E ?_
      rw [nI_sub1, if_neg (nI_pos (by omega))]
      intro I3 e3
      have r60 : I3 60 1 = nI r := by rw [e3, zs_same]
      have rj : ∀ j, j < 5 → j ≠ 1 → I3 60 j = I (5 + 2 * i) j := fun j hj h1 => by rw [e3, zs_ne (fun z => h1 z.2)]; exact b2 j hj h1
      have ro : ∀ a, a ≠ 60 → a ≠ 61 → I3 a = I a := fun a ha hb => by rw [e3, zs_nec ha]; exact b1 a ha hb
      refine c_shapeOnGlass hj (fun I4 q1 q2 => ⟨_, rfl, ?_⟩)
      have o2 : I4 2 = I 2 := (q1 2 (by omega)).trans (ro 2 (by omega) (by omega))
      have o3 : I4 3 = I 3 := (q1 3 (by omega)).trans (ro 3 (by omega) (by omega))
      have ec : v_X4_cellsOf I3 2 (nI x) = mform V (nI x) := by
        rw [← cellsOf_m hn e2 hf (Or.inr ⟨x, hx, rfl⟩)]
        unfold v_X4_cellsOf v_X4_isLetter
        rw [ro 2 (by omega) (by omega), ro 3 (by omega) (by omega)]
      dsimp only
      have er : v_X4_readingOf I4 2 (shpH (I3 60 0) (I3 60 1) (I3 60 2) (I3 60 4) (v_X4_cellsOf I3 2 (nI x)) (I3 2 4) (I3 2 5) (I3 2 6) hh) = obR V i (nI x) hh r := by
        unfold v_X4_readingOf obR rdH
        rw [o2, o3, r60, rj 0 (by omega) (by omega), rj 2 (by omega) (by omega), rj 4 (by omega) (by omega), ec, ro 2 (by omega) (by omega), p0, p2, p4, e4, e5, e6, e2, e2', zcl (by omega), rdg_cong hf]
      rw [er]
      refine ⟨⟨n, hn, by rw [o2]; exact e2⟩, ?_⟩
      have ro4 : ∀ a, a ≠ 60 → a ≠ 61 → I4 a = I a := fun a ha hb => (q1 a hb).trans (ro a ha hb)
      by_cases hr : obR V i (nI x) hh r = nI x
      · rw [if_pos hr]
        have := hQ I4 (fun a ha => ro4 a (by unfold gl at ha; omega) (by unfold gl at ha; omega))
        rw [← he, show wrm (obR V i (nI x) hh) (nI x) (r + 1) = nI r from by show (if obR V i (nI x) hh r = nI x then nI r else _) = _; rw [if_pos hr]] at this
        exact ⟨_, rfl, this⟩
      · rw [if_neg hr]
        refine ih (by omega) ?_ I4 ro4 (fun j hj h1 => by rw [q1 60 (by omega)]; exact rj j hj h1)
        rw [← he]
        show _ = if obR V i (nI x) hh r = nI x then nI r else _
        rw [if_neg hr]
  exact lp 10 (Nat.le_refl _) rfl I1 (fun a ha _ => g1 a ha) (fun j hj _ => g2 j hj)
theorem q_chill (h : RC I V n m) (hi : i < m) (hx : x < n) (hj : hh ≤ 24) (hQ : ∀ I' : zI, Gf I I' → Q (some (vI (chl (obC V i (nI x) hh) (nI x) 41 0))) I' L) : Call l g 6 M_X6_chill [vR 1, vI (nI i), vI (nI x), vI (nI hh)] I L Q := by
  obtain ⟨hW, hN, hn, hm, e2, e2', e3, e3', e4, e5, e6, hf⟩ := RC_wx h
  obtain ⟨⟨i8, z0, z1, z2⟩, p0, p1, p2, p3, p4, p5, p6⟩ := RC_pane h hi
  refine m_X6_chill ?_
  rw [paneAt_in hm e3 hi, if_neg (by omega), if_neg (by rw [isl e2 hn hx]; decide), if_neg (by rw [hour_in hj]; decide)]
  refine m_X5_leastCold (fun k hk X E => ?_)
  refine c_takeGlass (p := 60) rfl (zshP i (by omega)) (by omega) (fun I1 g1 g2 => ⟨rfl, ?_⟩)
  have lp : ∀ r c, c + r = 41 → chl (obC V i (nI x) hh) (nI x) r c = chl (obC V i (nI x) hh) (nI x) 41 0 → ∀ I2 : zI, (∀ a, a ≠ 60 → a ≠ 61 → I2 a = I a) → (∀ j, j < 5 → I2 60 j = I (5 + 2 * i) j) → AW k g 5 I2 L 11 [(0, vR 59), (2, vI (nI x)), (3, vI (nI hh)), (4, vI (nI c))] [] := by
    intro r
    induction r with
    | zero =>
      intro c hc he I2 b1 b2
      refine s_X5_leastCold_11 X E ?_
      obtain rfl : c = 41 := by omega
      rw [if_pos (by decide)]
      have := hQ I2 (fun a ha => b1 a (by unfold gl at ha; omega) (by unfold gl at ha; omega))
      rw [← he] at this
      exact ⟨_, rfl, this⟩
    | succ r ih =>
      intro c hc he I2 b1 b2
      refine s_X5_leastCold_11 X E ?_
      rw [if_neg (show ¬ 40 < nI c from by rw [show (40 : Int32) = nI 40 from rfl, n_lt (by decide) (by omega)]; omega)]
      refine c_shapeOnGlass hj (fun I4 q1 q2 => ⟨_, rfl, ?_⟩)
      have o2 : I4 2 = I 2 := (q1 2 (by omega)).trans (b1 2 (by omega) (by omega))
      have o3 : I4 3 = I 3 := (q1 3 (by omega)).trans (b1 3 (by omega) (by omega))
      have ec : v_X4_cellsOf I2 2 (nI x) = mform V (nI x) := by
        rw [← cellsOf_m hn e2 hf (Or.inr ⟨x, hx, rfl⟩)]
        unfold v_X4_cellsOf v_X4_isLetter
        rw [b1 2 (by omega) (by omega), b1 3 (by omega) (by omega)]
      dsimp only
      have er : v_X4_readingOf I4 2 (shpH (I2 60 0) (I2 60 1) (I2 60 2) (I2 60 4) (v_X4_cellsOf I2 2 (nI x)) (nI c) (I2 2 5) (I2 2 6) hh) = obC V i (nI x) hh c := by
        unfold v_X4_readingOf obC rdH
        rw [o2, o3, b2 0 (by omega), b2 1 (by omega), b2 2 (by omega), b2 4 (by omega), ec, b1 2 (by omega) (by omega), p0, p1, p2, p4, e5, e6, e2, e2', zcl (by omega), rdg_cong hf]
      rw [er]
      refine ⟨⟨n, hn, by rw [o2]; exact e2⟩, ?_⟩
      have ro4 : ∀ a, a ≠ 60 → a ≠ 61 → I4 a = I a := fun a ha hb => (q1 a hb).trans (b1 a ha hb)
      by_cases hr : obC V i (nI x) hh c = nI x
      · rw [if_pos hr]
        have := hQ I4 (fun a ha => ro4 a (by unfold gl at ha; omega) (by unfold gl at ha; omega))
        rw [← he, show chl (obC V i (nI x) hh) (nI x) (r + 1) c = nI c from by show (if obC V i (nI x) hh c = nI x then nI c else _) = _; rw [if_pos hr]] at this
        exact ⟨_, rfl, this⟩
      · rw [if_neg hr, ← nI_succ]
        refine ih (c + 1) (by omega) ?_ I4 ro4 (fun j hj => by rw [q1 60 (by omega)]; exact b2 j hj)
        rw [← he]
        show _ = if obC V i (nI x) hh c = nI x then nI c else _
        rw [if_neg hr]
  exact lp 41 0 rfl rfl I1 (fun a ha _ => g1 a ha) (fun j hj => g2 j hj)
end ZQ4
