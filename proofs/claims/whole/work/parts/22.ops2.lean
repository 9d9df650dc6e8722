/-! OPERATIONS: what would be -/
theorem zshP : ∀ i, i < 8 → zsh (5 + 2 * i) = (11, 6) := by decide +kernel
/-- what the relation says of a pane -/
theorem Rn_pane {I : zI} {L : zL} {n m i : Nat} (h : Rn I L n m) (hi : i < m) : okP I i ∧ I (5 + 2 * i) 0 = I 92 i ∧ I (5 + 2 * i) 1 = I 93 i ∧ I (5 + 2 * i) 2 = I 94 i ∧ I (5 + 2 * i) 3 = I 95 i ∧ I (5 + 2 * i) 4 = I 96 i ∧ (I 95 i = -1 ∨ ∃ j, j < n ∧ I 95 i = nI j) ∧ ∀ c, c < 16 → I (6 + 2 * i) c = I 97 (16 * i + c) ∧ zle 20 (I 97 (16 * i + c)) := by
  obtain ⟨hn, hm, -, -, -, -, -, -, -, -, -, hp⟩ := h.1
  obtain ⟨⟨p0, z0⟩, ⟨p1, z1⟩, ⟨p2, z2⟩, ⟨p3, z3⟩, p4, p5⟩ := hp i hi
  refine ⟨⟨by omega, z0, z1, z2⟩, p0, p1, p2, p3, p4, z3, fun c hc => ?_⟩
  have := p5 c hc
  rw [show 2 + 3 + 2 * i + 1 = 6 + 2 * i by omega] at this
  exact this
theorem Rn_wx {I : zI} {L : zL} {n m : Nat} (h : Rn I L n m) : okWx I ∧ zle 8 (I 87 3) ∧ n ≤ 8 ∧ m ≤ 8 ∧ I 2 2 = nI n ∧ I 87 3 = nI n ∧ I 2 3 = nI m ∧ I 87 5 = nI m ∧ I 2 4 = I 87 12 ∧ I 2 5 = I 87 13 ∧ I 2 6 = I 87 14 ∧ ∀ j, j < n → I 3 j = I 91 j := by
  obtain ⟨hn, hm, ⟨e2, e2'⟩, ⟨e3, e3'⟩, ⟨e4, z4⟩, ⟨e5, z5⟩, ⟨e6, z6⟩, -, -, -, hf, -⟩ := h.1
  exact ⟨⟨z4, z5, z6⟩, ⟨n, hn, e2'⟩, hn, hm, e2, e2', e3, e3', e4, e5, e6, fun j hj => (hf j hj).1⟩
theorem okL_of {n : Nat} (hn : n ≤ 8) {a : Int32} (h : a = -1 ∨ ∃ i, i < n ∧ a = nI i) : okL a := h.imp id (fun ⟨i, hi, e⟩ => ⟨i, by omega, e⟩)
/-- the reading of the reference, in the class's words -/
theorem rdH_cong {f f2 : Nat → Int32} {N : Nat} {k room a scr form cold wet out : Int32} {j : Nat} (h : ∀ j, j < N → f j = f2 j) : rdH f N k room a scr form cold wet out j = rdH f2 N k room a scr form cold wet out j := by
  unfold rdH
  rw [rdg_cong h]
section ZO2
variable {l : Launch} {g : zG} {Q : Option zv → zI → zL → Prop} {I : zI} {L : zL} {n m q : Nat} {a1 a2 : Int32}
theorem c_readAllHours (hq : zsh q = (11, 6)) (h60 : q ≠ 60) (hN : zle 8 (I 2 2)) (h : ∀ I' : zI, (∀ a, a ≠ 60 → a ≠ 61 → a ≠ 62 → I' a = I a) → (∀ j, j < 25 → I' 62 j = rdH (I 3) (I 2 2).toNatClampNeg (I q 0) (I q 1) (I q 2) (I q 4) (v_X4_cellsOf I 2 a1) (I 2 4) (I 2 5) (I 2 6) j) → Q none I' L) : Call l g 4 M_X5_readAllHours [vR 59, vR q, vI a1] I L Q := by
  refine m_X5_readAllHours (fun k hk X E => ?_)
  refine c_takeGlass (p := 60) rfl hq (fun e => h60 e.symm) (fun I1 g1 g2 => ⟨rfl, ?_⟩)
  have e2 : I1 2 = I 2 := g1 2 (by decide)
  have e3 : I1 3 = I 3 := g1 3 (by decide)
  have ec : v_X4_cellsOf I1 2 a1 = v_X4_cellsOf I 2 a1 := by unfold v_X4_cellsOf v_X4_isLetter; rw [e2, e3]
  refine c_freezeWith (p := 60) rfl (fun I2 f1 f2 => ⟨rfl, ?_⟩)
  have f60 : I2 60 = I1 60 := f1 60 (by decide)
  refine zdown (N := 25) (P := fun c => ∀ I3 : zI, (∀ a, a ≠ 60 → a ≠ 61 → a ≠ 62 → I3 a = I a) → I3 60 = I1 60 → (∀ x, x < 16 → I3 61 x = iceH (I q 0) (I q 1) (I q 2) (I q 4) (v_X4_cellsOf I 2 a1) (I 2 4) (I 2 5) (I 2 6) c x) → (∀ j, j < c → I3 62 j = rdH (I 3) (I 2 2).toNatClampNeg (I q 0) (I q 1) (I q 2) (I q 4) (v_X4_cellsOf I 2 a1) (I 2 4) (I 2 5) (I 2 6) j) → AW k g 5 I3 L 56 [(0, vR 59), (4, vI (nI c))] []) (fun I3 b1 b2 b3 b4 => ?_) (fun c hc ih I3 b1 b2 b3 b4 => ?_) (c := 0) (by omega) I2 (fun a h1 h2 _ => (f1 a h2).trans (g1 a h1)) f60 (fun x hx => ?_) (fun _ hh => absurd hh (Nat.not_lt_zero _))
  · refine s_X5_readAllHours_56 X E ?_
    rw [if_neg (show ¬ nI 25 < 25 by decide)]
    exact h I3 b1 b4
  · refine s_X5_readAllHours_56 X E ?_
    rw [if_pos (n25 hc), zcl (by omega), ← nI_succ]
    have q2 : I3 2 = I 2 := b1 2 (by decide) (by decide) (by decide)
    have q3 : I3 3 = I 3 := b1 3 (by decide) (by decide) (by decide)
    refine ⟨by unfold k_X4_readingOf; rw [q2]; exact hN, zvin hc (by decide), ?_⟩
    intro I4 e4
    have er : v_X4_readingOf I3 2 (v_X1_frosted I3 60) = rdH (I 3) (I 2 2).toNatClampNeg (I q 0) (I q 1) (I q 2) (I q 4) (v_X4_cellsOf I 2 a1) (I 2 4) (I 2 5) (I 2 6) c := by
      unfold v_X4_readingOf rdH
      rw [q2, q3, show v_X1_frosted I3 60 = shpH (I q 0) (I q 1) (I q 2) (I q 4) (v_X4_cellsOf I 2 a1) (I 2 4) (I 2 5) (I 2 6) c from frost_cong b3]
    rw [er] at e4
    have r60 : I4 60 = I1 60 := by rw [e4, zs_nec (by decide)]; exact b2
    have r61 : I4 61 = I3 61 := by rw [e4, zs_nec (by decide)]
    have r2 : I4 2 = I 2 := by rw [e4, zs_nec (by decide)]; exact q2
    refine c_meltBy (p := 60) rfl (fun I5 d1 d2 => ⟨rfl, ?_⟩)
    refine ih I5 (fun a h1 h2 h3 => by rw [d1 a h2, e4, zs_nec h3]; exact b1 a h1 h2 h3) ((d1 60 (by decide)).trans r60) (fun x hx => ?_) (fun j hj => ?_)
    · rw [d2 x hx, c_me, r60, r2, r61, g2 0 (by decide), g2 1 (by decide), g2 2 (by decide)]
      show _ = mel (fMe (I q 0) (I q 1) (I q 2) (nI (0 + c)) (I 2 6)) (iceH (I q 0) (I q 1) (I q 2) (I q 4) (v_X4_cellsOf I 2 a1) (I 2 4) (I 2 5) (I 2 6) c) x
      rw [Nat.zero_add]
      exact mel_cong b3 hx
    · rw [d1 62 (by decide), e4]
      by_cases e : j = c
      · rw [e, zs_same]
      · rw [zs_ne (fun z => e z.2)]
        exact b4 j (by omega)
  · rw [f2 x hx, c_sh, e2, ec, g2 0 (by decide), g2 2 (by decide), g2 4 (by decide)]
    rfl
theorem m_load {i : Nat} (hi : i < 8) (h : ∀ I' : zI, (∀ a, a ≠ 101 → I' a = I a) → (∀ c, c < 16 → I' 101 c = I 97 (16 * i + c)) → Q none I' L) : Call l g 1 M_X7_load [vR 87, vI (nI i)] I L Q := by
  refine m_X7_load (fun k hk X E => ?_)
  refine zdown (N := 16) (P := fun c => ∀ I1 : zI, (∀ a, a ≠ 101 → I1 a = I a) → (∀ j, j < c → I1 101 j = I 97 (16 * i + j)) → AW k g 3 I1 L 2 [(0, vR 87), (1, vI (nI i)), (2, vI (nI c))] []) (fun I1 h1 h2 => ?_) (fun c hc ih I1 h1 h2 => ?_) (c := 0) (by omega) I (fun _ _ => rfl) (fun _ h => absurd h (Nat.not_lt_zero _))
  · refine s_X7_load_2 X E ?_
    rw [if_neg (show ¬ nI 16 < 16 by decide)]
    exact h I1 h1 h2
  · refine s_X7_load_2 X E ?_
    have e : 16 * nI i + nI c = nI (16 * i + c) := by rw [show (16 : Int32) = nI 16 from rfl, pk_mul, nI_add]
    rw [if_pos (n16 hc), zcl (by omega), ← nI_succ, e, zcl (by omega), h1 97 (by decide)]
    refine ⟨zvin (by omega) (by decide), zvin hc (by decide), ih _ (fun a ha => by rw [zs_nec ha]; exact h1 a ha) (fun j hj => ?_)⟩
    by_cases e : j = c
    · rw [e, zs_same]
    · rw [zs_ne (fun z => e z.2)]
      exact h2 j (by omega)
end ZO2
theorem scr_60 {a : Nat} (h : ¬ scr a) : a ≠ 60 ∧ a ≠ 61 ∧ a ≠ 62 ∧ a ≠ 101 ∧ a ≠ 102 := by unfold scr at h; omega
theorem sim_shape (a1 a2 a3 : Int32) : Sim M_X6_shape 6 M_X7_shape 4 [vI a1, vI a2, vI a3] := by
  rintro l g I L ⟨n, m, h⟩
  obtain ⟨hW, hN, hn, hm, e2, e2', e3, e3', e4, e5, e6, hf⟩ := Rn_wx h
  refine m_X6_shape ?_
  rcases pane_cases hm e3 e3' a1 with ⟨c1, c2⟩ | ⟨i, hi, rfl, c1, c2⟩
  · rw [if_pos c1]
    exact both_no (k := 1) (by decide) rfl h (fun Q hq => m_X7_shape (by rw [if_pos (show v_X7_isPane (rf1 I 1) a1 = 0 from c2)]; exact hq))
  rw [if_neg (by rw [c1]; omega), c1]
  rcases letN_cases hn e2 e2' hf a2 with ⟨d1, d2⟩ | ⟨hl, d1, d2, d3⟩
  · rw [if_pos d1]
    exact both_no (k := 1) (by decide) rfl h (fun Q hq => m_X7_shape (by rw [if_neg (show ¬ v_X7_isPane (rf1 I 1) (nI i) = 0 from ne0 c2), if_pos (show v_X7_isLetterOrNone (rf1 I 1) a2 = 0 from d2)]; exact hq))
  rw [if_neg (ne0 d1)]
  rcases hour_cases a3 with ⟨f1, f2⟩ | ⟨hh, hhh, rfl, f1, f2⟩
  · rw [if_pos f1]
    exact both_no (k := 6) (by decide) rfl h (fun Q hq => m_X7_shape (by rw [if_neg (show ¬ v_X7_isPane (rf1 I 6) (nI i) = 0 from ne0 c2), if_neg (show ¬ v_X7_isLetterOrNone (rf1 I 6) a2 = 0 from ne0 d2), if_pos f2]; exact hq))
  rw [if_neg (ne0 f1)]
  obtain ⟨hP, p0, p1, p2, p3, p4, -, -⟩ := Rn_pane h hi
  refine c_shapeAt hhh (zshP i (by omega)) (by omega) (fun I1 g1 g2 => ⟨_, rfl, _, rfl, ?_⟩)
  have q : ∀ a, 64 < a → I1 a = I a := fun a ha => g1 a (by omega) (by omega)
  refine m_X7_shape ?_
  have ip : v_X7_isPane I1 (nI i) = 1 := by unfold v_X7_isPane at *; rw [q 87 (by decide)]; exact c2
  have il : v_X7_isLetterOrNone I1 a2 = 1 := by unfold v_X7_isLetterOrNone v_X7_isLetter at *; rw [q 87 (by decide)]; exact d2
  rw [if_neg (ne0 ip), if_neg (ne0 il), if_neg (ne0 f2)]
  refine m_shapeAt hhh (by unfold okP; rw [q 92 (by decide), q 93 (by decide), q 94 (by decide)]; exact hP) (by unfold okWx; rw [q 87 (by decide)]; exact hW) (okL_of hn hl) (fun I2 k1 k2 => ⟨_, rfl, _, rfl, ?_, n, m, R_scr (fun a ha => ?_) h⟩)
  · have em : mform I1 a2 = mform I a2 := by unfold mform; rw [q 91 (by decide)]
    rw [em, q 87 (by decide), q 92 (by decide), q 93 (by decide), q 94 (by decide), q 96 (by decide), p0, p1, p2, p4, d3, e4, e5, e6]
  · obtain ⟨s1, s2, s3, s4, s5⟩ := scr_60 ha
    rw [k1 a s4 s5, g1 a s1 s2]
