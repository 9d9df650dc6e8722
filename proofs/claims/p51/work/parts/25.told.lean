/-! WHAT ALL ASKING TELLS: one number, out of V alone -/
def tf1 (V : zI) : Nat → Int64
  | 0 => 7
  | j + 1 => (31 * tf1 V j) + (stv V j).toInt64
def tf2 (V : zI) (n m : Nat) : Nat → Int64
  | 0 => tf1 V 8
  | i + 1 => ((((31 * tf2 V n m i) + (V 91 i).toInt64) + ((3 * (bcA V (nI i) m &&& (jshl 1 (nI i) ^^^ -1))).toInt64)) + ((5 * bc (V 91 i ^^^ V 91 0)).toInt64)) + ((7 * (rdg (V 91) (V 91 i) n).1).toInt64)
def tf3 (V : zI) (n m : Nat) : Int64 := if 1 < n then ((31 * tf2 V n m n) + (nrO (V 91) n n).1.toInt64) + ((3 * (bst (V 91) n (nI 1) (V 91 1) 16).1).toInt64) else tf2 V n m n
def ta (V : zI) (i : Nat) (s : Int64) : Nat → Int64
  | 0 => s
  | j + 1 => (31 * ta V i s j) + (pov V i j).toInt64
def tb (V : zI) (i : Nat) (s : Int64) : Nat → Int64
  | 0 => s
  | j + 1 => (31 * tb V i s j) + (if j = 16 then frost (trv V i) 16 else trv V i j).toInt64
def tcx (V : zI) (n i : Nat) (s : Int64) : Int64 := ((((((31 * s) + (V 95 i).toInt64) + ((3 * (rdg (V 91) (frost (trv V i) 16) n).1).toInt64)) + ((5 * mev V i 9).toInt64)) + ((7 * obS V i (V 95 i) 3).toInt64)) + ((11 * obI V i (-1) 2 5).toInt64)) + ((13 * cdv V n i 4095 1).toInt64)
def td (V : zI) (n i : Nat) (s : Int64) : Int64 := if V 95 i < 0 then tcx V n i s else ((((31 * tcx V n i s) + (nI (fst0 (ob V i (V 95 i)) (V 95 i) 25 0) - 1).toInt64) + ((3 * wrm (obR V i (V 95 i) 4) (V 95 i) 10).toInt64)) + ((5 * chl (obC V i (V 95 i) 2) (V 95 i) 41 0).toInt64)) + ((7 * fnd (ob V i (V 95 i)) (nI 0) 25 0).toInt64)
def tp (V : zI) (n m : Nat) : Nat → Int64
  | 0 => tf3 V n m
  | i + 1 => td V n i (tb V i (ta V i (tp V n m i) 5) 17)
def tq (V : zI) (n m : Nat) : Nat → Int64
  | 0 => tp V n m m
  | j + 1 => (31 * tq V n m j) + (pgb V (3 * j) m).toInt64
def TT (V : zI) (n m : Nat) : Int64 := ((31 * tq V n m 9) + ((3 * msb V m).toInt64)) + ((5 * fOut (wrtW V m) m 25).toInt64)
section ZTO
variable {l : Launch} {g : zG} {Q : Option zv → zI → zL → Prop} {I V : zI} {L : zL} {n m : Nat}
theorem told_pages {k : zK} (X : zX k g cL_told RL 7 (some .long) 8) (E : zE k g Q) (h : RC I V n m) (hQ : ∀ I' : zI, Gf I I' → Q (some (vL (TT V n m))) I' L) (I1 : zI) (k1 : Gf I I1) : AW k g 7 I1 L 364 [(0, vR 1), (1, vL (tp V n m m)), (5, vI 0)] [] := by
  refine zdown (N := 9) (P := fun c => ∀ I1 : zI, Gf I I1 → AW k g 7 I1 L 364 [(0, vR 1), (1, vL (tq V n m c)), (5, vI (nI (3 * c)))] []) (fun I1 k1 => ?_) (fun c hc ih I1 k1 => ?_) (c := 0) (by omega) I1 k1
  · refine s_L_told_364 X E ?_
    rw [if_neg (show ¬ nI (3 * 9) < 25 by decide)]
    refine q_mistaken (RC_gl k1 h) (fun I2 g2 => ⟨_, rfl, q_let (RC_gl (k1.t g2) h) (fun I3 g3 => ⟨_, rfl, ?_⟩)⟩)
    exact hQ I3 ((k1.t g2).t g3)
  · refine s_L_told_364 X E ?_
    rw [if_pos (n25 (show 3 * c < 25 by omega))]
    refine q_page (RC_gl k1 h) (show 3 * c ≤ 24 by omega) (fun I2 g2 => ⟨_, rfl, ?_⟩)
    have e : nI (3 * c) + 3 = nI (3 * (c + 1)) := nI_add (3 * c) 3
    rw [e]
    exact ih I2 (k1.t g2)
theorem told_pane {k : zK} (X : zX k g cL_told RL 7 (some .long) 8) (E : zE k g Q) (h : RC I V n m) {i : Nat} (hi : i < m) {s : Int64} (nx : ∀ I' : zI, Gf I I' → AW k g 7 I' L 141 [(0, vR 1), (1, vL (td V n i s)), (4, vI (nI m)), (5, vI (nI (i + 1)))] []) : AW k g 7 I L 182 [(0, vR 1), (1, vL s), (4, vI (nI m)), (5, vI (nI i)), (6, vI (nI 17))] [] := by
  obtain ⟨hP, p0, p1, p2, p3, p4, p5, p6⟩ := RC_pane h hi
  obtain ⟨hW, hN, hn, hm, e2, e2', e3, e3', e4, e5, e6, hf⟩ := RC_wx h
  refine s_L_told_182 X E ?_
  rw [if_neg (show ¬ nI 17 < 17 by decide)]
  refine q_hangs h hi ⟨_, rfl, q_readOf h hi ⟨_, rfl, q_melt (j := 9) h hi (by decide) ⟨_, rfl, ?_⟩⟩⟩
  refine q_shape (j := 3) h hi p5 (by decide) (fun I1 g1 => ⟨_, rfl, ?_⟩)
  have h1 := RC_gl g1 h
  refine q_ice (j := 2) (c := 5) h1 hi (Or.inl rfl) (by decide) (by decide) (fun I2 g2 => ⟨_, rfl, ?_⟩)
  have h2 := RC_gl g2 h1
  refine q_could (hh := 1) h2 hi ⟨4095, by decide, rfl⟩ (by decide) (fun I3 g3 => ⟨_, rfl, ?_⟩)
  have h3 := RC_gl g3 h2
  rw [← nI_succ]
  dsimp only
  by_cases hz : V 95 i < 0
  · have := nx I3 ((g1.t g2).t g3)
    unfold td at this
    rw [if_pos hz] at this
    rw [if_pos hz]
    exact this
  · have := fun I' hI' => nx I' hI'
    unfold td at this
    rw [if_neg hz] at this
    rw [if_neg hz]
    obtain ⟨x, hx, ex⟩ : ∃ x, x < n ∧ V 95 i = nI x := by
      rcases p5 with e | e
      · rw [e] at hz; exact absurd (by decide) hz
      · exact e
    rw [ex] at this ⊢
    refine q_lasts h3 hi hx (fun I4 g4 => ⟨_, rfl, ?_⟩)
    have h4 := RC_gl g4 h3
    refine q_stove (hh := 4) h4 hi hx (by decide) (fun I5 g5 => ⟨_, rfl, ?_⟩)
    have h5 := RC_gl g5 h4
    refine q_chill (hh := 2) h5 hi hx (by decide) (fun I6 g6 => ⟨_, rfl, ?_⟩)
    have h6 := RC_gl g6 h5
    refine q_turns (w := 0) h6 hi hx (by omega) (fun I7 g7 => ⟨_, rfl, ?_⟩)
    have := this I7 ((((((g1.t g2).t g3).t g4).t g5).t g6).t g7)
    unfold tcx at this
    rw [ex] at this
    exact this
theorem told_panes {k : zK} (X : zX k g cL_told RL 7 (some .long) 8) (E : zE k g Q) (h : RC I V n m) (hQ : ∀ I' : zI, Gf I I' → Q (some (vL (TT V n m))) I' L) (I1 : zI) (k1 : Gf I I1) : AW k g 7 I1 L 141 [(0, vR 1), (1, vL (tf3 V n m)), (4, vI (nI m)), (5, vI 0)] [] := by
  obtain ⟨hW, hN, hn, hm, e2, e2', e3, e3', e4, e5, e6, hf⟩ := RC_wx h
  refine zdown (N := m) (P := fun c => ∀ I1 : zI, Gf I I1 → AW k g 7 I1 L 141 [(0, vR 1), (1, vL (tp V n m c)), (4, vI (nI m)), (5, vI (nI c))] []) (fun I1 k1 => ?_) (fun c hc ih I1 k1 => ?_) (c := 0) (by omega) I1 k1
  · refine s_L_told_141 X E ?_
    rw [if_neg (nI_nlt (Nat.le_refl _) (by omega))]
    exact told_pages X E h hQ I1 k1
  · refine s_L_told_141 X E ?_
    rw [if_pos (nI_lt hc (by omega))]
    have h1 := RC_gl k1 h
    refine zdown (N := 5) (P := fun j => AW k g 7 I1 L 151 [(0, vR 1), (1, vL (ta V c (tp V n m c) j)), (4, vI (nI m)), (5, vI (nI c)), (6, vI (nI j))] []) ?_ (fun j hj ih2 => ?_) (c := 0) (by omega)
    · refine s_L_told_151 X E ?_
      rw [if_neg (show ¬ nI 5 < 5 by decide)]
      refine zdown (N := 17) (P := fun j => AW k g 7 I1 L 182 [(0, vR 1), (1, vL (tb V c (ta V c (tp V n m c) 5) j)), (4, vI (nI m)), (5, vI (nI c)), (6, vI (nI j))] []) ?_ (fun j hj ih3 => ?_) (c := 0) (by omega)
      · exact told_pane X E h1 hc (fun I2 g2 => ih I2 (k1.t g2))
      · refine s_L_told_182 X E ?_
        rw [if_pos (show nI j < 17 from (nI_lt hj (by decide) : nI j < nI 17))]
        refine q_truth h1 hc hj ⟨_, rfl, ?_⟩
        rw [← nI_succ]
        exact ih3
    · refine s_L_told_151 X E ?_
      rw [if_pos (show nI j < 5 from (nI_lt hj (by decide) : nI j < nI 5))]
      refine q_paneOf h1 hc hj ⟨_, rfl, ?_⟩
      rw [← nI_succ]
      exact ih2
theorem q_told (h : RC I V n m) (hQ : ∀ I' : zI, Gf I I' → Q (some (vL (TT V n m))) I' L) : Call l g 8 M_L_told [vR 1] I L Q := by
  obtain ⟨hW, hN, hn, hm, e2, e2', e3, e3', e4, e5, e6, hf⟩ := RC_wx h
  have hfz : ∀ j, j < n → zle 65535 (V 91 j) := fun j hj => (h.2.2.2.2.2.2.2.2.2.2.1 j hj).2
  refine m_L_told (fun k hk X E => ?_)
  refine q_status (j := 0) h (by decide) ⟨_, rfl, q_status (j := 1) h (by decide) ⟨_, rfl, ?_⟩⟩
  rw [show stv V 0 = nI n from e2', show stv V 1 = nI m from e3']
  refine zdown (N := 8) (P := fun c => AW k g 7 I L 20 [(0, vR 1), (1, vL (tf1 V c)), (3, vI (nI n)), (4, vI (nI m)), (5, vI (nI c))] []) ?_ (fun c hc ih => ?_) (c := 0) (by omega)
  · refine s_L_told_20 X E ?_
    rw [if_neg (show ¬ nI 8 < 8 by decide)]
    refine zdown (N := n) (P := fun c => ∀ I1 : zI, Gf I I1 → AW k g 7 I1 L 50 [(0, vR 1), (1, vL (tf2 V n m c)), (3, vI (nI n)), (4, vI (nI m)), (5, vI (nI c))] []) (fun I1 k1 => ?_) (fun c hc ih I1 k1 => ?_) (c := 0) (by omega) I Gf.rf
    · refine s_L_told_50 X E ?_
      rw [if_neg (nI_nlt (Nat.le_refl _) (by omega))]
      have tl := told_panes X E h hQ I1 k1
      unfold tf3 at tl
      have h1 := RC_gl k1 h
      by_cases hn1 : 1 < n
      · rw [if_pos hn1] at tl
        rw [if_pos (show 1 < nI n from (nI_lt hn1 (by omega) : nI 1 < nI n))]
        exact q_closest h1 (by omega) ⟨_, rfl, q_mend (i := 1) h1 (by omega) hn1 ⟨_, rfl, tl⟩⟩
      · rw [if_neg hn1] at tl
        rw [if_neg (show ¬ 1 < nI n from (nI_nlt (by omega) (by omega) : ¬ nI 1 < nI n))]
        exact tl
    · refine s_L_told_50 X E ?_
      rw [if_pos (nI_lt hc (by omega))]
      have h1 := RC_gl k1 h
      refine q_formOf h1 hc ⟨_, rfl, q_becomes h1 hc (fun I2 g2 => ⟨_, rfl, ?_⟩)⟩
      have h2 := RC_gl g2 h1
      refine q_unlike (j := 0) h2 hc (by omega) ⟨_, rfl, q_formOf h2 hc ⟨_, rfl, q_reads h2 (hfz c hc) ⟨_, rfl, ?_⟩⟩⟩
      rw [← nI_succ]
      exact ih I2 (k1.t g2)
  · refine s_L_told_20 X E ?_
    rw [if_pos (n8 hc)]
    refine q_status h hc ⟨_, rfl, ?_⟩
    rw [← nI_succ]
    exact ih
end ZTO
