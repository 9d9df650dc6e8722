/-! OPERATIONS: pane, breath -/
section ZPN
variable {l : Launch} {g : zG} {Q : Option zv → zI → zL → Prop} {I : zI} {L : zL} {p m : Nat} {a1 a2 a3 : Int32}
theorem c_makeNew (hp : zsh p = (11, 6)) (h : ∀ I' : zI, (∀ a, a ≠ p → a ≠ p + 1 → I' a = I a) → (I' p 0 = a1 ∧ I' p 1 = a2 ∧ I' p 2 = a3 ∧ I' p 3 = -1 ∧ I' p 4 = 0) → (∀ c, c < 16 → I' (p + 1) c = 0) → Q none I' L) : Call l g 1 M_X1_makeNew [vR p, vI a1, vI a2, vI a3] I L Q := by
  refine m_X1_makeNew hp (fun k hk X E => ?_)
  rintro I1 rfl I2 rfl I3 rfl I4 rfl
  refine zdown (N := 16) (P := fun c => ∀ I5 : zI, (∀ a, a ≠ p → a ≠ p + 1 → I5 a = I a) → (I5 p 0 = a1 ∧ I5 p 1 = a2 ∧ I5 p 2 = a3 ∧ I5 p 3 = -1 ∧ I5 p 4 = 0) → (∀ j, j < c → I5 (p + 1) j = 0) → AW k g 5 I5 L 28 [(0, vR p), (4, vI (nI c))] []) (fun I5 h1 h2 h3 => ?_) (fun c hc ih I5 h1 h2 h3 => ?_) (c := 0) (by omega) _ (fun a ha _ => by rw [zs_nec ha, zs_nec ha, zs_nec ha, zs_nec ha, zs_nec ha]) ?_ (fun _ hh => absurd hh (Nat.not_lt_zero _))
  · refine s_X1_makeNew_28 hp X E ?_
    rw [if_neg (show ¬ nI 16 < 16 by decide)]
    exact h I5 h1 h2 h3
  · refine s_X1_makeNew_28 hp X E ?_
    rw [if_pos (n16 hc), zcl (by omega), ← nI_succ]
    refine ⟨zvin hc (by decide), ih _ (fun a ha hb => by rw [zs_nec hb]; exact h1 a ha hb) (by rw [zs_nec (show p ≠ p + 1 by omega)]; exact h2) (fun j hj => ?_)⟩
    by_cases e : j = c
    · rw [e, zs_same]
    · rw [zs_ne (fun z => e z.2)]
      exact h3 j (by omega)
  · refine ⟨?_, ?_, ?_, ?_, ?_⟩
    · rw [zs_ne (by omega), zs_ne (by omega), zs_ne (by omega), zs_ne (by omega), zs_same]
    · rw [zs_ne (by omega), zs_ne (by omega), zs_ne (by omega), zs_same]
    · rw [zs_ne (by omega), zs_ne (by omega), zs_same]
    · rw [zs_ne (by omega), zs_same]
    · rw [zs_same]
theorem c_addPane (hp : zsh p = (14, 10)) (he : I p 3 = nI m) (hm : m < 8) (h : ∀ I' : zI, (∀ a, a ≠ p → a ≠ p + 3 + 2 * m → a ≠ p + 3 + 2 * m + 1 → I' a = I a) → (∀ j, j ≠ 3 → I' p j = I p j) → I' p 3 = nI (m + 1) → (I' (p + 3 + 2 * m) 0 = a1 ∧ I' (p + 3 + 2 * m) 1 = a2 ∧ I' (p + 3 + 2 * m) 2 = a3 ∧ I' (p + 3 + 2 * m) 3 = -1 ∧ I' (p + 3 + 2 * m) 4 = 0) → (∀ c, c < 16 → I' (p + 3 + 2 * m + 1) c = 0) → Q (some (vI (nI m))) I' L) : Call l g 2 M_X4_addPane [vR p, vI a1, vI a2, vI a3] I L Q := by
  refine m_X4_addPane hp ?_
  rintro I1 rfl
  have e3 : zs I p 3 (I p 3 + 1) p 3 = nI (m + 1) := by rw [zs_same, he, nI_succ]
  have ep : v_X4_paneAt (zs I p 3 (I p 3 + 1)) p (nI (m + 1) - 1) = p + 3 + 2 * m := by
    unfold v_X4_paneAt
    rw [nI_m1, if_neg (nI_pos (by omega)), e3, if_pos (nI_lt (by omega) (by omega)), if_pos (n8 hm), zcl (by omega)]
  rw [e3, ep, if_neg (by omega)]
  refine c_makeNew (((zL4 hp).2.2 m hm).2) (fun I2 g1 g2 g3 => ⟨rfl, ?_⟩)
  have g3p : I2 p = zs I p 3 (I p 3 + 1) p := g1 p (by omega) (by omega)
  dsimp only
  rw [g3p, e3, nI_m1]
  exact h I2 (fun a h1 h2 h3 => by rw [g1 a h2 h3, zs_nec h1]) (fun j hj => by rw [g3p, zs_ne (fun z => hj z.2)]) (by rw [g3p]; exact e3) g2 g3
theorem m_pane (he : I 87 5 = nI m) (hm : m < 8) (h1 : zle 6 a1) (h2 : zle 9 a2) (h3 : zle 9 a3) (h : ∀ I' : zI, (∀ a, a ≠ 87 → (a < 92 ∨ 97 < a) → I' a = I a) → (∀ j, j ≠ 5 → I' 87 j = I 87 j) → I' 87 5 = nI (m + 1) → (I' 92 m = a1 ∧ I' 93 m = a2 ∧ I' 94 m = a3 ∧ I' 95 m = -1 ∧ I' 96 m = 0) → (∀ j, j ≠ m → I' 92 j = I 92 j ∧ I' 93 j = I 93 j ∧ I' 94 j = I 94 j ∧ I' 95 j = I 95 j ∧ I' 96 j = I 96 j) → (∀ c, c < 16 → I' 97 (16 * m + c) = 0) → (∀ x, (x < 16 * m ∨ 16 * m + 16 ≤ x) → I' 97 x = I 97 x) → Q (some (vI (nI m))) I' L) : Call l g 2 M_X7_pane [vR 87, vI a1, vI a2, vI a3] I L Q := by
  have w : ∀ (b : Nat) (x : Int32), zle b x → b ≤ 1000 → ¬ v_X7_within x 0 (nI b) = 0 := by
    intro b x hz hb
    obtain ⟨y, hy, rfl⟩ := hz
    unfold v_X7_within
    rw [if_neg (nI_pos (by omega)), if_neg (by rw [n_lt (by omega) (by omega)]; omega)]
    decide
  refine m_X7_pane (fun k hk X E => ?_)
  rw [if_neg (show ¬ v_X7_within a1 0 6 = 0 from w 6 a1 h1 (by decide)), if_neg (show ¬ v_X7_within a2 0 9 = 0 from w 9 a2 h2 (by decide)), if_neg (show ¬ v_X7_within a3 0 9 = 0 from w 9 a3 h3 (by decide)), he, if_neg (show ¬ nI m = 8 from by rw [show (8 : Int32) = nI 8 from rfl, n_eq (by omega) (by decide)]; omega), zcl (by omega)]
  have hv : vp_in (nI m) 8 := zvin hm (by decide)
  refine ⟨hv, ?_⟩
  intro I7 e7
  have q7 : I7 87 = I 87 := by rw [e7, zs_nec (by decide)]
  rw [q7, he, zcl (by omega)]
  refine ⟨hv, ?_⟩
  intro I9 e9
  have q9 : I9 87 = I 87 := by rw [e9, zs_nec (by decide), q7]
  rw [q9, he, zcl (by omega)]
  refine ⟨hv, ?_⟩
  intro I11 e11
  have q11 : I11 87 = I 87 := by rw [e11, zs_nec (by decide), q9]
  rw [q11, he, zcl (by omega)]
  refine ⟨hv, ?_⟩
  intro I13 e13
  have q13 : I13 87 = I 87 := by rw [e13, zs_nec (by decide), q11]
  rw [q13, he, zcl (by omega)]
  refine ⟨hv, ?_⟩
  have f0 : ∀ a, (a < 92 ∨ 96 < a) → zs I13 96 m 0 a = I a := fun a ha => by rw [zs_nec (by omega), e13, zs_nec (by omega), e11, zs_nec (by omega), e9, zs_nec (by omega), e7, zs_nec (by omega)]
  have f1 : ∀ j, zs I13 96 m 0 92 j = if j = m then a1 else I 92 j := fun j => by
    rw [zs_nec (by decide), e13, zs_nec (by decide), e11, zs_nec (by decide), e9, zs_nec (by decide), e7]
    by_cases e : j = m
    · rw [if_pos e, e, zs_same]
    · rw [if_neg e, zs_ne (fun z => e z.2)]
  have f2 : ∀ j, zs I13 96 m 0 93 j = if j = m then a2 else I 93 j := fun j => by
    rw [zs_nec (by decide), e13, zs_nec (by decide), e11, zs_nec (by decide), e9]
    by_cases e : j = m
    · rw [if_pos e, e, zs_same]
    · rw [if_neg e, zs_ne (fun z => e z.2), e7, zs_nec (by decide)]
  have f3 : ∀ j, zs I13 96 m 0 94 j = if j = m then a3 else I 94 j := fun j => by
    rw [zs_nec (by decide), e13, zs_nec (by decide), e11]
    by_cases e : j = m
    · rw [if_pos e, e, zs_same]
    · rw [if_neg e, zs_ne (fun z => e z.2), e9, zs_nec (by decide), e7, zs_nec (by decide)]
  have f4 : ∀ j, zs I13 96 m 0 95 j = if j = m then -1 else I 95 j := fun j => by
    rw [zs_nec (by decide), e13]
    by_cases e : j = m
    · rw [if_pos e, e, zs_same]
    · rw [if_neg e, zs_ne (fun z => e z.2), e11, zs_nec (by decide), e9, zs_nec (by decide), e7, zs_nec (by decide)]
  have f5 : ∀ j, zs I13 96 m 0 96 j = if j = m then 0 else I 96 j := fun j => by
    by_cases e : j = m
    · rw [if_pos e, e, zs_same]
    · rw [if_neg e, zs_ne (fun z => e z.2), e13, zs_nec (by decide), e11, zs_nec (by decide), e9, zs_nec (by decide), e7, zs_nec (by decide)]
  generalize hI0 : zs I13 96 m 0 = I0 at f0 f1 f2 f3 f4 f5 ⊢
  refine zdown (N := 16) (P := fun c => ∀ I5 : zI, (∀ a, a ≠ 97 → I5 a = I0 a) → (∀ j, j < c → I5 97 (16 * m + j) = 0) → (∀ x, (x < 16 * m ∨ 16 * m + 16 ≤ x) → I5 97 x = I 97 x) → AW k g 5 I5 L 112 [(0, vR 87), (4, vI (nI c))] []) (fun I5 b1 b2 b3 => ?_) (fun c hc ih I5 b1 b2 b3 => ?_) (c := 0) (by omega) I0 (fun _ _ => rfl) (fun _ hh => absurd hh (Nat.not_lt_zero _)) (fun x _ => by rw [f0 97 (by omega)])
  · refine s_X7_pane_112 X E ?_
    have z87 : I5 87 = I 87 := (b1 87 (by decide)).trans (f0 87 (by omega))
    rw [if_neg (show ¬ nI 16 < 16 by decide), z87, he, ← nI_succ]
    refine h _ (fun a ha hb => by rw [zs_nec ha, b1 a (by omega)]; exact f0 a (by omega)) (fun j hj => by rw [zs_ne (fun z => hj z.2), z87]) (by rw [zs_same]) ?_ (fun j hj => ?_) (fun c hc => by rw [zs_nec (by decide)]; exact b2 c hc) (fun x hx => by rw [zs_nec (by decide)]; exact b3 x hx)
    · rw [zs_nec (show 92 ≠ 87 by decide), zs_nec (show 93 ≠ 87 by decide), zs_nec (show 94 ≠ 87 by decide), zs_nec (show 95 ≠ 87 by decide), zs_nec (show 96 ≠ 87 by decide), b1 92 (by decide), b1 93 (by decide), b1 94 (by decide), b1 95 (by decide), b1 96 (by decide), f1, f2, f3, f4, f5, if_pos rfl, if_pos rfl, if_pos rfl, if_pos rfl, if_pos rfl]
      exact ⟨rfl, rfl, rfl, rfl, rfl⟩
    · rw [zs_nec (show 92 ≠ 87 by decide), zs_nec (show 93 ≠ 87 by decide), zs_nec (show 94 ≠ 87 by decide), zs_nec (show 95 ≠ 87 by decide), zs_nec (show 96 ≠ 87 by decide), b1 92 (by decide), b1 93 (by decide), b1 94 (by decide), b1 95 (by decide), b1 96 (by decide), f1, f2, f3, f4, f5, if_neg hj, if_neg hj, if_neg hj, if_neg hj, if_neg hj]
      exact ⟨rfl, rfl, rfl, rfl, rfl⟩
  · refine s_X7_pane_112 X E ?_
    have z87 : I5 87 = I 87 := (b1 87 (by decide)).trans (f0 87 (by omega))
    have e1 : 16 * nI m + nI c = nI (16 * m + c) := by rw [show (16 : Int32) = nI 16 from rfl, pk_mul, nI_add]
    rw [if_pos (n16 hc), z87, he, e1, zcl (by omega), ← nI_succ]
    refine ⟨zvin (by omega) (by decide), ih _ (fun a ha => by rw [zs_nec ha]; exact b1 a ha) (fun j hj => ?_) (fun x hx => by rw [zs_ne (fun z => by omega)]; exact b3 x hx)⟩
    by_cases e : j = c
    · rw [e, zs_same]
    · rw [zs_ne (fun z => by omega)]
      exact b2 j (by omega)
end ZPN
theorem kind_cases (a : Int32) : (v_X1_isKind a = 0 ∧ v_X7_within a 0 6 = 0) ∨ (zle 6 a ∧ v_X1_isKind a = 1 ∧ v_X7_within a 0 6 = 1) := by
  unfold v_X1_isKind
  rcases in_cases a (m := 7) (by decide) with ⟨c | ⟨c, c1⟩, c2⟩ | ⟨i, hi, rfl, c1, c2, c3⟩
  · exact Or.inl ⟨if_pos c, c2⟩
  · exact Or.inl ⟨by rw [if_neg c]; exact if_neg c1, c2⟩
  · exact Or.inr ⟨⟨i, by omega, rfl⟩, by rw [if_neg c1]; exact if_pos c2, c3⟩
/-- a pane added on both sides -/
theorem Rn_addPane {I I' : zI} {L : zL} {n m : Nat} {a1 a2 a3 : Int32} (h : Rn I L n m) (hm : m < 8) (h1 : zle 6 a1) (h2 : zle 9 a2) (h3 : zle 9 a3) (hI : ∀ a, ¬ scr a → a ≠ 2 → a ≠ 5 + 2 * m → a ≠ 6 + 2 * m → a ≠ 87 → (a < 92 ∨ 97 < a) → I' a = I a) (q2 : ∀ j, j ≠ 3 → I' 2 j = I 2 j) (q2' : I' 2 3 = nI (m + 1)) (q87 : ∀ j, j ≠ 5 → I' 87 j = I 87 j) (q87' : I' 87 5 = nI (m + 1)) (qc : I' (5 + 2 * m) 0 = a1 ∧ I' (5 + 2 * m) 1 = a2 ∧ I' (5 + 2 * m) 2 = a3 ∧ I' (5 + 2 * m) 3 = -1 ∧ I' (5 + 2 * m) 4 = 0) (qi : ∀ c, c < 16 → I' (6 + 2 * m) c = 0) (qm : I' 92 m = a1 ∧ I' 93 m = a2 ∧ I' 94 m = a3 ∧ I' 95 m = -1 ∧ I' 96 m = 0) (qj : ∀ j, j ≠ m → I' 92 j = I 92 j ∧ I' 93 j = I 93 j ∧ I' 94 j = I 94 j ∧ I' 95 j = I 95 j ∧ I' 96 j = I 96 j) (qt : ∀ c, c < 16 → I' 97 (16 * m + c) = 0) (qx : ∀ x, (x < 16 * m ∨ 16 * m + 16 ≤ x) → I' 97 x = I 97 x) : Rn I' L n (m + 1) := by
  refine Rn_street h (fun a b1 b2 b3 b4 => hI a b2 (by omega) (by omega) (by omega) b3 (by omega)) (hI 1 (by unfold scr; omega) (by omega) (by omega) (by omega) (by omega) (by omega)) (fun j hj => q87 j (by omega)) (by omega) ?_
  obtain ⟨h1', h2', h3', h4', h5, h6, h7, h8, h9, h10, h11, h12⟩ := h.1
  have e3 : I' (2 + 1) = I (2 + 1) := hI 3 (by unfold scr; omega) (by omega) (by omega) (by omega) (by omega) (by omega)
  have e91 : I' 91 = I 91 := hI 91 (by unfold scr; omega) (by omega) (by omega) (by omega) (by omega) (by omega)
  unfold RC RS
  rw [e3, e91, q2 2 (by decide), q2 4 (by decide), q2 5 (by decide), q2 6 (by decide), q2 7 (by decide), q2 8 (by decide), q2 9 (by decide), q87 3 (by decide), q87 12 (by decide), q87 13 (by decide), q87 14 (by decide), q87 15 (by decide), q87 16 (by decide), q87 17 (by decide)]
  refine ⟨h1', by omega, h3', ⟨q2', q87'⟩, h5, h6, h7, h8, h9, h10, h11, fun i hi => ?_⟩
  by_cases e : i = m
  · subst e
    obtain ⟨c0, c1, c2, c3, c4⟩ := qc
    obtain ⟨d0, d1, d2, d3, d4⟩ := qm
    rw [show 2 + 3 + 2 * i = 5 + 2 * i by omega]
    unfold RPn
    rw [c0, c1, c2, c3, c4, d0, d1, d2, d3, d4]
    refine ⟨⟨rfl, h1⟩, ⟨rfl, h2⟩, ⟨rfl, h3⟩, ⟨rfl, Or.inl rfl⟩, rfl, fun c hc => ?_⟩
    dsimp only
    rw [show 5 + 2 * i + 1 = 6 + 2 * i by omega, qi c hc, qt c hc]
    exact ⟨rfl, 0, by decide, rfl⟩
  · obtain ⟨d0, d1, d2, d3, d4⟩ := qj i e
    have := h12 i (by omega)
    unfold RPn at *
    rw [hI (2 + 3 + 2 * i) (by unfold scr; omega) (by omega) (by omega) (by omega) (by omega) (by omega), hI (2 + 3 + 2 * i + 1) (by unfold scr; omega) (by omega) (by omega) (by omega) (by omega) (by omega), d0, d1, d2, d3, d4]
    refine ⟨this.1, this.2.1, this.2.2.1, this.2.2.2.1, this.2.2.2.2.1, fun c hc => ?_⟩
    dsimp only
    rw [qx (16 * i + c) (by omega)]
    exact this.2.2.2.2.2 c hc
theorem sim_pane (a1 a2 a3 : Int32) : Sim M_X6_pane 3 M_X7_pane 2 [vI a1, vI a2, vI a3] := by
  rintro l g I L ⟨n, m, h⟩
  obtain ⟨hW, hN, hn, hm, e2, e2', e3, e3', e4, e5, e6, hf⟩ := Rn_wx h
  refine m_X6_pane ?_
  rcases kind_cases a1 with ⟨c1, c2⟩ | ⟨hz1, c1, c2⟩
  · rw [if_pos c1]
    exact both_no (k := 1) (by decide) rfl h (fun Q hq => m_X7_pane (fun k hk X E => by rw [if_pos c2, hk]; exact hq))
  rw [if_neg (ne0 c1)]
  rcases may_cases a2 9 (by decide) with ⟨w, w2⟩ | ⟨hz2, w1, w2, w4⟩
  · have key : Call l g 1 M_X6_refuse [vR 1, vI (-6)] I L (zi fun r2 I2 L2 => SimQ l g M_X7_pane 2 [vR 87, vI a1, vI a2, vI a3] (some (vI r2)) I2 L2) := both_no (k := 6) (by decide) rfl h (fun Q hq => m_X7_pane (fun k hk X E => by rw [if_neg (ne0 c2), if_pos (show v_X7_within a2 0 9 = 0 from w2), hk]; exact hq))
    rcases w with w | ⟨w, w'⟩
    · rw [if_pos w]; exact key
    · rw [if_neg w, if_pos (show 9 < a2 from w')]; exact key
  rw [if_neg w1, if_neg (show ¬ 9 < a2 from w2)]
  rcases may_cases a3 9 (by decide) with ⟨x, x2⟩ | ⟨hz3, x1, x2, x4⟩
  · have key : Call l g 1 M_X6_refuse [vR 1, vI (-6)] I L (zi fun r2 I2 L2 => SimQ l g M_X7_pane 2 [vR 87, vI a1, vI a2, vI a3] (some (vI r2)) I2 L2) := both_no (k := 6) (by decide) rfl h (fun Q hq => m_X7_pane (fun k hk X E => by rw [if_neg (ne0 c2), if_neg (show ¬ v_X7_within a2 0 9 = 0 from ne0 w4), if_pos (show v_X7_within a3 0 9 = 0 from x2), hk]; exact hq))
    rcases x with x | ⟨x, x'⟩
    · rw [if_pos x]; exact key
    · rw [if_neg x, if_pos (show 9 < a3 from x')]; exact key
  rw [if_neg x1, if_neg (show ¬ 9 < a3 from x2)]
  by_cases h8 : m = 8
  · subst h8
    rw [if_pos (show v_X4_hasPaneRoom I 2 = 0 from by unfold v_X4_hasPaneRoom; rw [e3]; decide)]
    exact both_no (k := 7) (by decide) rfl h (fun Q hq => m_X7_pane (fun k hk X E => by rw [if_neg (ne0 c2), if_neg (show ¬ v_X7_within a2 0 9 = 0 from ne0 w4), if_neg (show ¬ v_X7_within a3 0 9 = 0 from ne0 x4), if_pos (show rf1 I 7 87 5 = 8 from e3'), hk]; exact hq))
  have hlt : m < 8 := by omega
  rw [if_neg (show ¬ v_X4_hasPaneRoom I 2 = 0 from by unfold v_X4_hasPaneRoom; rw [e3, if_neg (nI_pos (by omega)), if_pos (n8 hlt)]; decide)]
  refine c_addPane (p := 2) rfl e3 hlt (fun I1 g1 g2 g3 g4 g5 => ⟨_, rfl, _, rfl, ?_⟩)
  rw [show 2 + 3 + 2 * m = 5 + 2 * m by omega] at g1 g4 g5
  have f87 : I1 87 = I 87 := g1 87 (by omega) (by omega) (by omega)
  refine m_pane (by rw [f87]; exact e3') hlt hz1 hz2 hz3 (fun I2 k1 k2 k3 k4 k5 k6 k7 => ⟨_, rfl, rfl, n, m + 1, Rn_addPane h hlt hz1 hz2 hz3 (fun a _ b2 b3 b4 b5 b6 => (k1 a b5 b6).trans (g1 a b2 b3 (by omega))) (fun j hj => by rw [k1 2 (by omega) (by omega)]; exact g2 j hj) (by rw [k1 2 (by omega) (by omega)]; exact g3) (fun j hj => by rw [k2 j hj, f87]) k3 (by rw [k1 (5 + 2 * m) (by omega) (by omega)]; exact g4) (fun c hc => by rw [k1 (6 + 2 * m) (by omega) (by omega), show 6 + 2 * m = 5 + 2 * m + 1 by omega]; exact g5 c hc) k4 (fun j hj => ?_) k6 (fun x hx => by rw [k7 x hx, g1 97 (by omega) (by omega) (by omega)])⟩)
  have := k5 j hj
  rw [g1 92 (by omega) (by omega) (by omega), g1 93 (by omega) (by omega) (by omega), g1 94 (by omega) (by omega) (by omega), g1 95 (by omega) (by omega) (by omega), g1 96 (by omega) (by omega) (by omega)] at this
  exact this
