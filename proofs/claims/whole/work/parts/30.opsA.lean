/-! OPERATIONS: night, winter, hours -/
/-- a change of the weather, the hour, editions, the seed, the ice -/
theorem Rn_dyn {I I' : zI} {L : zL} {n m : Nat} (h : Rn I L n m) (hI : ∀ a, ¬ scr a → a ≠ 2 → a ≠ 87 → a ≠ 97 → (∀ i, i < m → a ≠ 6 + 2 * i) → I' a = I a) (q2 : I' 2 2 = I 2 2 ∧ I' 2 3 = I 2 3) (q87 : ∀ j, (j < 12 ∨ 17 < j) → I' 87 j = I 87 j) (w4 : I' 2 4 = I' 87 12 ∧ zle 40 (I' 87 12)) (w5 : I' 2 5 = I' 87 13 ∧ zle 9 (I' 87 13)) (w6 : I' 2 6 = I' 87 14 ∧ zle 9 (I' 87 14)) (w7 : I' 2 7 = I' 87 15 ∧ zle 24 (I' 87 15)) (w8 : I' 2 8 = I' 87 16) (w9 : I' 2 9 = I' 87 17) (hr : ∀ i, i < m → ∀ c, c < 16 → I' (6 + 2 * i) c = I' 97 (16 * i + c) ∧ zle 20 (I' 97 (16 * i + c))) : Rn I' L n m := by
  have hm : m ≤ 8 := h.1.2.1
  refine Rn_street h (fun a b1 b2 b3 b4 => hI a b2 (by omega) b3 (by omega) (fun i hi => by omega)) (hI 1 (by unfold scr; omega) (by omega) (by omega) (by omega) (fun i hi => by omega)) (fun j hj => q87 j (by omega)) (Nat.le_refl _) ?_
  obtain ⟨h1, h2, h3, h4, h5, h6, h7, h8, h9, h10, h11, h12⟩ := h.1
  have e3 : I' (2 + 1) = I (2 + 1) := hI 3 (by unfold scr; omega) (by omega) (by omega) (by omega) (fun i hi => by omega)
  have e9 : ∀ a, 91 ≤ a → a ≤ 96 → I' a = I a := fun a ha hb => hI a (by unfold scr; omega) (by omega) (by omega) (by omega) (fun i hi => by omega)
  unfold RC RS
  rw [e3, e9 91 (by omega) (by omega), e9 92 (by omega) (by omega), e9 93 (by omega) (by omega), e9 94 (by omega) (by omega), e9 95 (by omega) (by omega), e9 96 (by omega) (by omega), q2.1, q2.2, q87 3 (by omega), q87 5 (by omega)]
  refine ⟨h1, h2, h3, h4, w4, w5, w6, w7, w8, w9, h11, fun i hi => ?_⟩
  have := h12 i hi
  unfold RPn at *
  rw [hI (2 + 3 + 2 * i) (by unfold scr; omega) (by omega) (by omega) (by omega) (fun j hj => by omega)]
  refine ⟨this.1, this.2.1, this.2.2.1, this.2.2.2.1, this.2.2.2.2.1, fun c hc => ?_⟩
  rw [show 2 + 3 + 2 * i + 1 = 6 + 2 * i by omega]
  exact hr i hi c hc
/-- the class's memory A has the panes and letters that the reference's cells of I have -/
def CPn (I A : zI) (n m : Nat) (co we : Int32) : Prop := n ≤ 8 ∧ m ≤ 8 ∧ A 2 2 = nI n ∧ A 2 3 = nI m ∧ A 2 4 = co ∧ A 2 5 = we ∧ (∀ j, j < n → A 3 j = I 91 j) ∧ ∀ i, i < m → A (5 + 2 * i) 0 = I 92 i ∧ A (5 + 2 * i) 1 = I 93 i ∧ A (5 + 2 * i) 2 = I 94 i ∧ A (5 + 2 * i) 3 = I 95 i ∧ A (5 + 2 * i) 4 = I 96 i ∧ (I 95 i = -1 ∨ ∃ j, j < n ∧ I 95 i = nI j)
/-- the fresh row of pane i, what it is read as, who is read right -/
def nrow (I : zI) (co we : Int32) (i : Nat) : Nat → Int32 := ice0 (I 92 i) (I 94 i) (I 96 i) (mform I (I 95 i)) co we
def nrd (I : zI) (n : Nat) (co we : Int32) (i : Nat) : Int32 := (rdg (I 91) (frost (nrow I co we i) 16) n).1
def nbit (I : zI) (n : Nat) (co we : Int32) : Nat → Int32
  | 0 => 0
  | c + 1 => if I 95 c = -1 then nbit I n co we c else if nrd I n co we c = I 95 c then nbit I n co we c ||| jshl 1 (nI c) else nbit I n co we c
section ZNI
variable {l : Launch} {g : zG} {Q : Option zv → zI → zL → Prop} {I A : zI} {L : zL} {n m : Nat} {co we : Int32}
theorem CP_mform (h : CPn I A n m co we) {x : Int32} (hx : x = -1 ∨ ∃ j, j < n ∧ x = nI j) : v_X4_cellsOf A 2 x = mform I x := by
  obtain ⟨hn, hm, e2, e3, e4, e5, hf, hp⟩ := h
  unfold mform
  rcases hx with rfl | ⟨j, hj, rfl⟩
  · rw [if_pos rfl]
    unfold v_X4_cellsOf
    rw [if_pos (show v_X4_isLetter A 2 (-1) = 0 from by unfold v_X4_isLetter; rw [if_pos (by decide)])]
  · rw [cellsOf_in e2 hn hj, if_neg (fun e1 => n_neg (a := -1) (by decide) j (by omega) e1.symm), zcl (by omega)]
    exact hf j hj
theorem c_passNight (hC : CPn I A n m co we) (h : ∀ A' : zI, (∀ a, a ≠ 2 → (∀ i, i < m → a ≠ 6 + 2 * i) → A' a = A a) → (∀ j, j ≠ 7 → j ≠ 8 → A' 2 j = A 2 j) → A' 2 7 = 0 → A' 2 8 = A 2 8 + (if nbit I n co we m = 0 then 0 else 1) → (∀ i, i < m → ∀ c, c < 16 → A' (6 + 2 * i) c = nrow I co we i c) → Q (some (vI (nbit I n co we m))) A' L) : Call l g 5 M_X4_passNight [vR 2] A L Q := by
  obtain ⟨hn, hm, e2, e3, e4, e5, hf, hp⟩ := id hC
  refine m_X4_passNight rfl (fun k hk X E => ?_)
  refine zdown (N := m) (P := fun c => ∀ B : zI, (∀ a, (∀ i, i < m → a ≠ 6 + 2 * i) → B a = A a) → (∀ i, i < c → ∀ x, x < 16 → B (6 + 2 * i) x = nrow I co we i x) → AW k g 4 B L 4 [(0, vR 2), (1, vI (nbit I n co we c)), (2, vI (nI c))] []) (fun B b1 b2 => ?_) (fun c hc ih B b1 b2 => ?_) (c := 0) (by omega) A (fun _ _ => rfl) (fun _ hh => absurd hh (Nat.not_lt_zero _))
  · refine s_X4_passNight_4 rfl X E ?_
    have f2 : B 2 = A 2 := b1 2 (fun i _ => by omega)
    rw [f2, e3, if_neg (nI_nlt (Nat.le_refl _) (by omega))]
    rintro I8 rfl
    refine h _ (fun a ha hb => by rw [zs_nec ha, zs_nec ha]; exact b1 a hb) (fun j h7 h8 => by rw [zs_ne (fun z => h8 z.2), zs_ne (fun z => h7 z.2), f2]) (by rw [zs_ne (fun z => by omega), zs_same]) (by rw [zs_same, zs_ne (fun z => by omega), f2]) (fun i hi c hc => by rw [zs_nec (by omega), zs_nec (by omega)]; exact b2 i hi c hc)
  · refine s_X4_passNight_4 rfl X E ?_
    have f2 : B 2 = A 2 := b1 2 (fun i _ => by omega)
    have f3 : B 3 = A 3 := b1 3 (fun i _ => by omega)
    have fp : ∀ i, B (5 + 2 * i) = A (5 + 2 * i) := fun i => b1 (5 + 2 * i) (fun j _ => by omega)
    obtain ⟨p0, p1, p2, p3, p4, p5⟩ := hp c hc
    have ep : v_X4_paneAt B 2 (nI c) = 5 + 2 * c := paneAt_in hm (by rw [f2]; exact e3) hc
    have ec : v_X4_cellsOf B 2 (B (5 + 2 * c) 3) = mform I (I 95 c) := by
      rw [fp, p3, ← CP_mform hC p5]
      unfold v_X4_cellsOf v_X4_isLetter
      rw [f2, f3]
    rw [ep, ec, f2, e3, if_pos (nI_lt hc (by omega)), if_neg (by omega)]
    have es : v_X1_sharpness B (5 + 2 * c) (A 2 4) (A 2 5) = fSh (I 92 c) (I 94 c) co we := by rw [c_sh, fp, p0, p2, e4, e5]
    rw [es, e5]
    refine c_freezeWith (zshP c (by omega)) (fun B2 g1 g2 => ⟨rfl, ?_⟩)
    rw [show 5 + 2 * c + 1 = 6 + 2 * c by omega] at g1 g2
    have k1 : ∀ a, (∀ i, i < m → a ≠ 6 + 2 * i) → B2 a = A a := fun a ha => (g1 a (ha c hc)).trans (b1 a ha)
    have k2 : ∀ i, i < c + 1 → ∀ x, x < 16 → B2 (6 + 2 * i) x = nrow I co we i x := by
      intro i hi x hx
      by_cases e : i = c
      · subst e
        rw [g2 x hx, fp, p0, p2, p4]
        rfl
      · rw [g1 (6 + 2 * i) (by omega)]
        exact b2 i (by omega) x hx
    have f22 : B2 2 = A 2 := k1 2 (fun i _ => by omega)
    have f23 : B2 3 = A 3 := k1 3 (fun i _ => by omega)
    have fp3 : B2 (5 + 2 * c) 3 = I 95 c := by rw [k1 (5 + 2 * c) (fun j _ => by omega)]; exact p3
    have efr : v_X1_frosted B2 (5 + 2 * c) = frost (nrow I co we c) 16 := frost_cong (fun x hx => by rw [show 5 + 2 * c + 1 = 6 + 2 * c by omega]; exact k2 c (by omega) x hx)
    have erd : v_X4_readingOf B2 2 (v_X1_frosted B2 (5 + 2 * c)) = nrd I n co we c := by
      unfold v_X4_readingOf nrd
      rw [efr, f22, f23, e2, zcl (by omega), rdg_cong hf]
    refine ⟨⟨zshP c (by omega), fun _ => ⟨n, hn, by rw [f22]; exact e2⟩⟩, ?_⟩
    have key := ih B2 k1 k2
    unfold nbit at key
    intro u eu
    rw [eu, ← nI_succ]
    unfold v_X4_isReadRight
    rw [fp3, erd]
    by_cases hb : I 95 c = -1
    · rw [if_pos hb] at key ⊢
      rw [if_pos rfl, Int32.or_zero]
      exact key
    · rw [if_neg hb] at key ⊢
      by_cases hr : nrd I n co we c = I 95 c
      · rw [if_pos hr] at key ⊢
        rw [if_neg (by decide)]
        exact key
      · rw [if_neg hr] at key ⊢
        rw [if_pos rfl, Int32.or_zero]
        exact key
/-- the reference's memory B has the cells that I has -/
def MPn (I B : zI) (n m : Nat) (co we : Int32) : Prop := n ≤ 8 ∧ m ≤ 8 ∧ B 87 3 = nI n ∧ B 87 5 = nI m ∧ B 87 12 = co ∧ B 87 13 = we ∧ (∀ a, 91 ≤ a → a ≤ 96 → B a = I a) ∧ ∀ i, i < m → zle 6 (I 92 i) ∧ (I 95 i = -1 ∨ ∃ j, j < n ∧ I 95 i = nI j)
theorem m_night (hM : MPn I A n m co we) (h : ∀ A' : zI, (∀ a, a ≠ 87 → a ≠ 97 → a ≠ 101 → A' a = A a) → (∀ j, j ≠ 15 → j ≠ 16 → A' 87 j = A 87 j) → A' 87 15 = 0 → A' 87 16 = A 87 16 + (if nbit I n co we m = 0 then 0 else 1) → (∀ i, i < m → ∀ c, c < 16 → A' 97 (16 * i + c) = nrow I co we i c) → Q (some (vI (nbit I n co we m))) A' L) : Call l g 3 M_X7_night [vR 87] A L Q := by
  obtain ⟨hn, hm, e3, e5, e12, e13, hc, hz⟩ := hM
  refine m_X7_night (fun k hk X E => ?_)
  refine zdown (N := m) (P := fun c => ∀ B : zI, (∀ a, a ≠ 87 → a ≠ 97 → a ≠ 101 → B a = A a) → (∀ j, j ≠ 15 → B 87 j = A 87 j) → B 87 15 = 0 → (∀ i, i < c → ∀ x, x < 16 → B 97 (16 * i + x) = nrow I co we i x) → AW k g 4 B L 9 [(0, vR 87), (1, vI (nbit I n co we c)), (2, vI (nI c))] []) (fun B b1 b2 b3 b4 => ?_) (fun c hcm ih B b1 b2 b3 b4 => ?_) (c := 0) (by omega) _ (fun a h1 _ _ => by rw [zs_nec h1]) (fun j hj => by rw [zs_ne (fun z => hj z.2)]) (by rw [zs_same]) (fun _ hh => absurd hh (Nat.not_lt_zero _))
  · refine s_X7_night_9 X E ?_
    rw [b2 5 (by decide), e5, if_neg (nI_nlt (Nat.le_refl _) (by omega))]
    by_cases hb : nbit I n co we m = 0
    · rw [if_pos hb]
      refine h B b1 (fun j h15 _ => b2 j h15) b3 ?_ b4
      rw [if_pos hb, b2 16 (by decide), Int32.add_zero]
    · rw [if_neg hb]
      refine h _ (fun a h1 h2 h3 => by rw [zs_nec h1]; exact b1 a h1 h2 h3) (fun j h15 h16 => by rw [zs_ne (fun z => h16 z.2)]; exact b2 j h15) (by rw [zs_ne (fun z => by omega)]; exact b3) ?_ (fun i hi x hx => by rw [zs_nec (by decide)]; exact b4 i hi x hx)
      rw [if_neg hb, zs_same, b2 16 (by decide)]
  · refine s_X7_night_9 X E ?_
    have f95 : B 95 = I 95 := (b1 95 (by decide) (by decide) (by decide)).trans (hc 95 (by decide) (by decide))
    have f92 : B 92 = I 92 := (b1 92 (by decide) (by decide) (by decide)).trans (hc 92 (by decide) (by decide))
    have f94 : B 94 = I 94 := (b1 94 (by decide) (by decide) (by decide)).trans (hc 94 (by decide) (by decide))
    have f96 : B 96 = I 96 := (b1 96 (by decide) (by decide) (by decide)).trans (hc 96 (by decide) (by decide))
    have f91 : B 91 = I 91 := (b1 91 (by decide) (by decide) (by decide)).trans (hc 91 (by decide) (by decide))
    obtain ⟨z6, zh⟩ := hz c hcm
    rw [b2 5 (by decide), e5, if_pos (nI_lt hcm (by omega)), zcl (by omega), f95]
    refine ⟨zvin (by omega) (by decide), ?_⟩
    refine m_freeze (by omega) (by rw [f92]; exact z6) (okL_of hn zh) (fun B2 g1 g2 => ⟨rfl, ?_⟩)
    have erow : ∀ x, x < 16 → B2 101 x = nrow I co we c x := fun x hx => by
      rw [g2 x hx, f92, f94, f96, tM f91, b2 12 (by decide), b2 13 (by decide), e12, e13]
      rfl
    refine zdown (N := 16) (P := fun y => ∀ B3 : zI, (∀ a, a ≠ 97 → B3 a = B2 a) → (∀ i, i < c → ∀ x, x < 16 → B3 97 (16 * i + x) = nrow I co we i x) → (∀ x, x < y → B3 97 (16 * c + x) = nrow I co we c x) → AW k g 4 B3 L 30 [(0, vR 87), (1, vI (nbit I n co we c)), (2, vI (nI c)), (3, vI (nI y))] []) (fun B3 d1 d2 d3 => ?_) (fun y hy ih2 B3 d1 d2 d3 => ?_) (c := 0) (by omega) B2 (fun _ _ => rfl) (fun i hi x hx => by rw [g1 97 (by decide)]; exact b4 i hi x hx) (fun _ hh => absurd hh (Nat.not_lt_zero _))
    · refine s_X7_night_30 X E ?_
      have k95 : B3 95 = I 95 := (d1 95 (by decide)).trans ((g1 95 (by decide)).trans f95)
      have k91 : B3 91 = I 91 := (d1 91 (by decide)).trans ((g1 91 (by decide)).trans f91)
      have k87 : B3 87 = B 87 := (d1 87 (by decide)).trans (g1 87 (by decide))
      have e3' : B3 87 3 = nI n := by rw [k87, b2 3 (by decide)]; exact e3
      have erd : v_X7_read B3 (v_X7_shapeNow B3) = nrd I n co we c := by
        unfold v_X7_read nrd
        rw [k91, e3', zcl (by omega), show v_X7_shapeNow B3 = frost (nrow I co we c) 16 from frost_cong (fun x hx => by rw [d1 101 (by decide)]; exact erow x hx)]
      rw [if_neg (show ¬ nI 16 < 16 by decide), zcl (by omega), k95, erd]
      refine ⟨zvin (by omega) (by decide), fun _ => ⟨n, hn, e3'⟩, ?_⟩
      rintro u rfl
      rw [← nI_succ]
      have key := ih B3 (fun a h1 h2 h3 => by rw [d1 a h2, g1 a h3]; exact b1 a h1 h2 h3) (fun j hj => by rw [k87]; exact b2 j hj) (by rw [k87]; exact b3) (fun i hi x hx => by
        by_cases e : i = c
        · subst e; exact d3 x hx
        · exact d2 i (by omega) x hx)
      unfold nbit at key
      exact key
    · refine s_X7_night_30 X E ?_
      have e1 : 16 * nI c + nI y = nI (16 * c + y) := by rw [show (16 : Int32) = nI 16 from rfl, pk_mul, nI_add]
      rw [if_pos (n16 hy), e1, zcl (by omega), zcl (by omega), ← nI_succ, d1 101 (by decide), erow y hy]
      refine ⟨zvin hy (by decide), zvin (by omega) (by decide), ih2 _ (fun a ha => by rw [zs_nec ha]; exact d1 a ha) (fun i hi x hx => by rw [zs_ne (fun z => by omega)]; exact d2 i hi x hx) (fun x hx => ?_)⟩
      by_cases e : x = y
      · rw [e, zs_same]
      · rw [zs_ne (fun z => by omega)]
        exact d3 x (by omega)
end ZNI
theorem CP_of {I : zI} {L : zL} {n m : Nat} (h : Rn I L n m) : CPn I I n m (I 87 12) (I 87 13) := by
  obtain ⟨hW, hN, hn, hm, e2, e2', e3, e3', e4, e5, e6, hf⟩ := Rn_wx h
  refine ⟨hn, hm, e2, e3, e4, e5, hf, fun i hi => ?_⟩
  obtain ⟨hP, p0, p1, p2, p3, p4, p5, p6⟩ := Rn_pane h hi
  exact ⟨p0, p1, p2, p3, p4, p5⟩
theorem MP_of {I : zI} {L : zL} {n m : Nat} (h : Rn I L n m) : MPn I I n m (I 87 12) (I 87 13) := by
  obtain ⟨hW, hN, hn, hm, e2, e2', e3, e3', e4, e5, e6, hf⟩ := Rn_wx h
  refine ⟨hn, hm, e2', e3', rfl, rfl, fun _ _ _ => rfl, fun i hi => ?_⟩
  obtain ⟨hP, p0, p1, p2, p3, p4, p5, p6⟩ := Rn_pane h hi
  exact ⟨hP.2.1, p5⟩
theorem zle_nrow {I : zI} {L : zL} {n m i : Nat} (h : Rn I L n m) (hi : i < m) {co we : Int32} (hc : zle 40 co) (hw : zle 9 we) (c : Nat) : zle 20 (nrow I co we i c) := zle_ice0 (Rn_pane h hi).1.2.2.2 hc hw c
theorem sim_night : Sim M_X6_night 6 M_X7_night 3 [] := by
  rintro l g I L ⟨n, m, h⟩
  obtain ⟨hW, hN, hn, hm, e2, e2', e3, e3', e4, e5, e6, hf⟩ := Rn_wx h
  obtain ⟨-, -, -, -, -, -, -, w7, w8, w9, -, -⟩ := h.1
  refine m_X6_night ?_
  refine c_passNight (CP_of h) (fun A g1 g2 g3 g4 g5 => ⟨_, rfl, _, rfl, ?_⟩)
  have M1 : MPn I A n m (I 87 12) (I 87 13) := by
    obtain ⟨q1, q2, q3, q4, q5, q6, q7, q8⟩ := MP_of h
    have e87 : A 87 = I 87 := g1 87 (by omega) (fun i _ => by omega)
    exact ⟨q1, q2, by rw [e87]; exact q3, by rw [e87]; exact q4, by rw [e87], by rw [e87], fun a ha hb => g1 a (by omega) (fun i _ => by omega), q8⟩
  refine m_night M1 (fun B k1 k2 k3 k4 k5 => ⟨_, rfl, rfl, n, m, ?_⟩)
  have e87 : A 87 = I 87 := g1 87 (by omega) (fun i _ => by omega)
  have b2 : B 2 = A 2 := k1 2 (by decide) (by decide) (by decide)
  refine Rn_dyn h (fun a s a2 a87 a97 ai => ?_) ?_ (fun j hj => ?_) ?_ ?_ ?_ ?_ ?_ ?_ (fun i hi c hc => ?_)
  · rw [k1 a a87 a97 (by unfold scr at s; omega)]
    exact g1 a a2 ai
  · rw [b2, g2 2 (by decide) (by decide), g2 3 (by decide) (by decide)]
    exact ⟨rfl, rfl⟩
  · rw [k2 j (by omega) (by omega), e87]
  · rw [b2, g2 4 (by decide) (by decide), k2 12 (by decide) (by decide), e87]
    exact ⟨e4, hW.1⟩
  · rw [b2, g2 5 (by decide) (by decide), k2 13 (by decide) (by decide), e87]
    exact ⟨e5, hW.2.1⟩
  · rw [b2, g2 6 (by decide) (by decide), k2 14 (by decide) (by decide), e87]
    exact ⟨e6, hW.2.2⟩
  · rw [b2, g3, k3]
    exact ⟨rfl, 0, by decide, rfl⟩
  · rw [b2, g4, k4, e87, w8]
  · rw [b2, g2 9 (by decide) (by decide), k2 17 (by decide) (by decide), e87]
    exact w9
  · rw [k1 (6 + 2 * i) (by omega) (by omega) (by omega), g5 i hi c hc, k5 i hi c hc]
    exact ⟨rfl, zle_nrow h hi hW.1 hW.2.1 c⟩
