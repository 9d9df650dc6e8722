/-! NIGHTS, HOURS, WINTERS, BREATH -/
/-- the class's memory A has the panes and letters that the reference's cells of I have -/
def CPn (I A : zI) (n m : Nat) (co we : Int32) : Prop := n ≤ 8 ∧ m ≤ 8 ∧ A 2 2 = nI n ∧ A 2 3 = nI m ∧ A 2 4 = co ∧ A 2 5 = we ∧ (∀ j, j < n → A 3 j = I 91 j) ∧ ∀ i, i < m → A (5 + 2 * i) 0 = I 92 i ∧ A (5 + 2 * i) 1 = I 93 i ∧ A (5 + 2 * i) 2 = I 94 i ∧ A (5 + 2 * i) 3 = I 95 i ∧ A (5 + 2 * i) 4 = I 96 i ∧ (I 95 i = -1 ∨ ∃ j, j < n ∧ I 95 i = nI j)
/-- the fresh row of pane i, what it is read as, who is read right -/
def nrow (I : zI) (co we : Int32) (i : Nat) : Nat → Int32 := ice0 (I 92 i) (I 94 i) (I 96 i) (mform I (I 95 i)) co we
def nrd (I : zI) (n : Nat) (co we : Int32) (i : Nat) : Int32 := (rdg (I 91) (frost (nrow I co we i) 16) n).1
def nbit (I : zI) (n : Nat) (co we : Int32) : Nat → Int32
  | 0 => 0
  | c + 1 => if I 95 c = -1 then nbit I n co we c else if nrd I n co we c = I 95 c then nbit I n co we c ||| jshl 1 (nI c) else nbit I n co we c
section ZNI
variable {l : Launch} {g : zG} {Q : Option zv → zI → zL → Prop} {I A : zI} {L : zL} {n m : Nat} {co we : Int32}
theorem CP_mform (h : CPn I A n m co we) {x : Int32} (hx : x = -1 ∨ ∃ j, j < n ∧ x = nI j) : v_X4_cellsOf A 2 x = mform I x := by
  obtain ⟨hn, hm, e2, e3, e4, e5, hf, hp⟩ := h
  unfold mform
  rcases hx with rfl | ⟨j, hj, rfl⟩
  · rw [if_pos rfl]
    unfold v_X4_cellsOf
    rw [if_pos (show v_X4_isLetter A 2 (-1) = 0 from by unfold v_X4_isLetter; rw [if_pos (by decide)])]
  · rw [cellsOf_in e2 hn hj, if_neg (fun e1 => n_neg (a := -1) (by decide) j (by omega) e1.symm), zcl (by omega)]
    exact hf j hj
theorem c_passNight (hC : CPn I A n m co we) (h : ∀ A' : zI, (∀ a, a ≠ 2 → (∀ i, i < m → a ≠ 6 + 2 * i) → A' a = A a) → (∀ j, j ≠ 7 → j ≠ 8 → A' 2 j = A 2 j) → A' 2 7 = 0 → A' 2 8 = A 2 8 + (if nbit I n co we m = 0 then 0 else 1) → (∀ i, i < m → ∀ c, c < 16 → A' (6 + 2 * i) c = nrow I co we i c) → Q (some (vI (nbit I n co we m))) A' L) : Call l g 5 M_X4_passNight [vR 2] A L Q := by
  obtain ⟨hn, hm, e2, e3, e4, e5, hf, hp⟩ := id hC
  refine m_X4_passNight rfl (fun k hk X E => ?_)
  refine zdown (N := m) (P := fun c => ∀ B : zI, (∀ a, (∀ i, i < m → a ≠ 6 + 2 * i) → B a = A a) → (∀ i, i < c → ∀ x, x < 16 → B (6 + 2 * i) x = nrow I co we i x) → AW k g 4 B L 4 [(0, vR 2), (1, vI (nbit I n co we c)), (2, vI (nI c))] []) (fun B b1 b2 => ?_) (fun c hc ih B b1 b2 => ?_) (c := 0) (by omega) A (fun _ _ => rfl) (fun _ hh => absurd hh (Nat.not_lt_zero _))
  · refine s_X4_passNight_4 rfl X E ?_
    have f2 : B 2 = A 2 := b1 2 (fun i _ => by omega)
    rw [f2, e3, if_neg (nI_nlt (Nat.le_refl _) (by omega))]
    rintro I8 rfl
    refine h _ (fun a ha hb => by rw [zs_nec ha, zs_nec ha]; exact b1 a hb) (fun j h7 h8 => by rw [zs_ne (fun z => h8 z.2), zs_ne (fun z => h7 z.2), f2]) (by rw [zs_ne (fun z => by omega), zs_same]) (by rw [zs_same, zs_ne (fun z => by omega), f2]) (fun i hi c hc => by rw [zs_nec (by omega), zs_nec (by omega)]; exact b2 i hi c hc)
  · refine s_X4_passNight_4 rfl X E ?_
    have f2 : B 2 = A 2 := b1 2 (fun i _ => by omega)
    have f3 : B 3 = A 3 := b1 3 (fun i _ => by omega)
    have fp : ∀ i, B (5 + 2 * i) = A (5 + 2 * i) := fun i => b1 (5 + 2 * i) (fun j _ => by omega)
    obtain ⟨p0, p1, p2, p3, p4, p5⟩ := hp c hc
    have ep : v_X4_paneAt B 2 (nI c) = 5 + 2 * c := paneAt_in hm (by rw [f2]; exact e3) hc
    have ec : v_X4_cellsOf B 2 (B (5 + 2 * c) 3) = mform I (I 95 c) := by
      rw [fp, p3, ← CP_mform hC p5]
      unfold v_X4_cellsOf v_X4_isLetter
      rw [f2, f3]
    rw [ep, ec, f2, e3, if_pos (nI_lt hc (by omega)), if_neg (by omega)]
    have es : v_X1_sharpness B (5 + 2 * c) (A 2 4) (A 2 5) = fSh (I 92 c) (I 94 c) co we := by rw [c_sh, fp, p0, p2, e4, e5]
    rw [es, e5]
    refine c_freezeWith (zshP c (by omega)) (fun B2 g1 g2 => ⟨rfl, ?_⟩)
    rw [show 5 + 2 * c + 1 = 6 + 2 * c by omega] at g1 g2
    have k1 : ∀ a, (∀ i, i < m → a ≠ 6 + 2 * i) → B2 a = A a := fun a ha => (g1 a (ha c hc)).trans (b1 a ha)
    have k2 : ∀ i, i < c + 1 → ∀ x, x < 16 → B2 (6 + 2 * i) x = nrow I co we i x := by
      intro i hi x hx
      by_cases e : i = c
      · subst e
        rw [g2 x hx, fp, p0, p2, p4]
        rfl
      · rw [g1 (6 + 2 * i) (by omega)]
        exact b2 i (by omega) x hx
    have f22 : B2 2 = A 2 := k1 2 (fun i _ => by omega)
    have f23 : B2 3 = A 3 := k1 3 (fun i _ => by omega)
    have fp3 : B2 (5 + 2 * c) 3 = I 95 c := by rw [k1 (5 + 2 * c) (fun j _ => by omega)]; exact p3
    have efr : v_X1_frosted B2 (5 + 2 * c) = frost (nrow I co we c) 16 := frost_cong (fun x hx => by rw [show 5 + 2 * c + 1 = 6 + 2 * c by omega]; exact k2 c (by omega) x hx)
    have erd : v_X4_readingOf B2 2 (v_X1_frosted B2 (5 + 2 * c)) = nrd I n co we c := by
      unfold v_X4_readingOf nrd
      rw [efr, f22, f23, e2, zcl (by omega), rdg_cong hf]
    refine ⟨⟨zshP c (by omega), fun _ => ⟨n, hn, by rw [f22]; exact e2⟩⟩, ?_⟩
    have key := ih B2 k1 k2
    unfold nbit at key
    intro u eu
    rw [eu, ← nI_succ]
    unfold v_X4_isReadRight
    rw [fp3, erd]
    by_cases hb : I 95 c = -1
    · rw [if_pos hb] at key ⊢
      rw [if_pos rfl, Int32.or_zero]
      exact key
    · rw [if_neg hb] at key ⊢
      by_cases hr : nrd I n co we c = I 95 c
      · rw [if_pos hr] at key ⊢
        rw [if_neg (by decide)]
        exact key
      · rw [if_neg hr] at key ⊢
        rw [if_pos rfl, Int32.or_zero]
        exact key
end ZNI
section ZHR
variable {l : Launch} {g : zG} {Q : Option zv → zI → zL → Prop} {A : zI} {L : zL} {m s N : Nat}
theorem c_streetHours (hm : m ≤ 8) (e3 : A 2 3 = nI m) (e7 : A 2 7 = nI s) (hsN : s + N ≤ 24) (h : ∀ A' : zI, (∀ a, a ≠ 2 → (∀ i, i < m → a ≠ 6 + 2 * i) → A' a = A a) → (∀ j, j ≠ 7 → A' 2 j = A 2 j) → A' 2 7 = nI (s + N) → (∀ i, i < m → ∀ c, c < 16 → A' (6 + 2 * i) c = hrs (A (5 + 2 * i) 0) (A (5 + 2 * i) 1) (A (5 + 2 * i) 2) (A 2 6) s (A (6 + 2 * i)) N c) → Q (some (vI (nI (s + N)))) A' L) : Call l g 4 M_X4_passHours [vR 2, vI (nI N)] A L Q := by
  refine m_X4_passHours rfl (fun k hk X E => ?_)
  refine zdown (N := m) (P := fun c => ∀ B : zI, (∀ a, (∀ i, i < c → a ≠ 6 + 2 * i) → B a = A a) → (∀ i, i < c → ∀ x, x < 16 → B (6 + 2 * i) x = hrs (A (5 + 2 * i) 0) (A (5 + 2 * i) 1) (A (5 + 2 * i) 2) (A 2 6) s (A (6 + 2 * i)) N x) → AW k g 4 B L 2 [(0, vR 2), (1, vI (nI N)), (2, vI (nI c))] []) (fun B b1 b2 => ?_) (fun c hc ih B b1 b2 => ?_) (c := 0) (by omega) A (fun _ _ => rfl) (fun _ hh => absurd hh (Nat.not_lt_zero _))
  · refine s_X4_passHours_2 rfl X E ?_
    have f2 : B 2 = A 2 := b1 2 (fun i _ => by omega)
    rw [f2, e3, if_neg (nI_nlt (Nat.le_refl _) (by omega))]
    rintro I4 rfl
    rw [zs_same, e7, nI_add]
    exact h _ (fun a ha hb => by rw [zs_nec ha]; exact b1 a hb) (fun j hj => by rw [zs_ne (fun z => hj z.2), f2]) (by rw [zs_same]) (fun i hi c hc => by rw [zs_nec (by omega)]; exact b2 i hi c hc)
  · refine s_X4_passHours_2 rfl X E ?_
    have f2 : B 2 = A 2 := b1 2 (fun i _ => by omega)
    have ep : v_X4_paneAt B 2 (nI c) = 5 + 2 * c := paneAt_in hm (by rw [f2]; exact e3) hc
    rw [ep, f2, e3, if_pos (nI_lt hc (by omega)), if_neg (by omega), e7, nI_add]
    have fp : B (5 + 2 * c) = A (5 + 2 * c) := b1 _ (fun i _ => by omega)
    have fi : B (5 + 2 * c + 1) = A (6 + 2 * c) := by rw [show 5 + 2 * c + 1 = 6 + 2 * c by omega]; exact b1 _ (fun i _ => by omega)
    refine c_passHours hsN (zshP c (by omega)) (fun B2 g1 g2 => ⟨rfl, ?_⟩)
    rw [fp, fi] at g2
    rw [show 5 + 2 * c + 1 = 6 + 2 * c by omega] at g1 g2
    rw [← nI_succ]
    refine ih B2 (fun a ha => (g1 a (ha c (by omega))).trans (b1 a (fun i hi => ha i (by omega)))) (fun i hi x hx => ?_)
    by_cases e : i = c
    · subst e
      exact g2 x hx
    · rw [g1 (6 + 2 * i) (by omega)]
      exact b2 i (by omega) x hx
end ZHR
theorem wb_of32 (x : Int32) : ∃ n, n < 2 ^ 32 ∧ x = nI n := ⟨x.toBitVec.toNat, x.toBitVec.isLt, Int32.toBitVec_inj.mp (by show _ = BitVec.ofNat 32 _; simp)⟩
theorem draw_le (x : Int32) {d : Nat} (h0 : 0 < d) (hd : d < 1000) : ∃ r, r < d ∧ jrem (jushr x 16) (nI d) = nI r := by
  obtain ⟨n, hn, rfl⟩ := wb_of32 x
  have e : jushr (nI n) 16 = nI (n / 2 ^ 16) := pk_ushrN hn 16 16 (by decide)
  have hq : n / 2 ^ 16 < 65536 := by omega
  rw [e]
  exact ⟨n / 2 ^ 16 % d, Nat.mod_lt _ h0, pk_rem (by omega) h0 (by omega)⟩
section ZNW
variable {l : Launch} {g : zG} {Q : Option zv → zI → zL → Prop} {I V : zI} {L : zL} {n m i j s N : Nat} {a1 a2 x : Int32}
theorem CP_of (h : RC I V n m) : CPn V I n m (V 87 12) (V 87 13) := by
  obtain ⟨hW, hN, hn, hm, e2, e2', e3, e3', e4, e5, e6, hf⟩ := RC_wx h
  refine ⟨hn, hm, e2, e3, e4, e5, hf, fun i hi => ?_⟩
  obtain ⟨hP, p0, p1, p2, p3, p4, p5, p6⟩ := RC_pane h hi
  exact ⟨p0, p1, p2, p3, p4, p5⟩
/-- a night, from any street that is as it should be -/
theorem u_passNight (h : VS I n m) (hQ : ∀ (r : Int32) (I' : zI), Up I I' n m → Q (some (vI r)) I' L) : Call l g 5 M_X4_passNight [vR 2] I L Q := by
  have hR := RC_snp h
  obtain ⟨hn, hm, e2, e3, z4, z5, z6, z7, hf, hp⟩ := h
  obtain ⟨hW, -⟩ := RC_wx hR
  refine c_passNight (CP_of hR) (fun A g1 g2 g3 g4 g5 => hQ _ A ⟨fun a ha _ _ => g1 a (by omega) (fun i hi => by omega), g2 9 (by decide) (by decide), ?_⟩)
  have f3 : A 3 = I 3 := g1 3 (by omega) (fun i _ => by omega)
  unfold VS
  rw [f3, g2 2 (by decide) (by decide), g2 3 (by decide) (by decide), g2 4 (by decide) (by decide), g2 5 (by decide) (by decide), g2 6 (by decide) (by decide), g3]
  refine ⟨hn, hm, e2, e3, z4, z5, z6, ⟨0, by decide, rfl⟩, hf, fun i hi => ?_⟩
  obtain ⟨p0, p1, p2, p3, p4⟩ := hp i hi
  unfold VP
  rw [g1 (5 + 2 * i) (by omega) (fun i _ => by omega)]
  refine ⟨p0, p1, p2, p3, fun c hc => ?_⟩
  rw [show 5 + 2 * i + 1 = 6 + 2 * i by omega, g5 i hi c hc]
  exact zle_ice0 (RC_pane hR hi).1.2.2.2 hW.1 hW.2.1 c
theorem u_night (h : VS I n m) (hQ : ∀ (r : Int32) (I' : zI), Up I I' n m → Q (some (vI r)) I' L) : Call l g 6 M_X6_night [vR 1] I L Q :=
  m_X6_night (u_passNight h (fun r I' u => ⟨_, rfl, hQ r I' u⟩))
theorem u_hours (h : VS I n m) (h1 : 1 ≤ N) (h2 : N ≤ 24) (hQ : ∀ (r : Int32) (I' : zI), Up I I' n m → Q (some (vI r)) I' L) : Call l g 5 M_X6_hours [vR 1, vI (nI N)] I L Q := by
  obtain ⟨hn, hm, e2, e3, z4, z5, z6, ⟨s, hs, e7⟩, hf, hp⟩ := id h
  refine m_X6_hours ?_
  rw [if_neg (show ¬ nI N < 1 from (nI_nlt h1 (by omega) : ¬ nI N < nI 1)), if_neg (show ¬ 24 < nI N from (nI_nlt h2 (by omega) : ¬ nI 24 < nI N)), e7]
  have es : (24 - nI N).toInt = (24 : Int) - N := n_sub (a := 24) (b := N) (by decide) (by omega)
  by_cases hb : 24 - nI N < nI s
  · rw [if_pos hb]
    exact c_refuse (k := 7) (by decide) rfl ⟨_, rfl, hQ _ _ (Up_rf h)⟩
  · rw [if_neg hb]
    rw [i_lt, es, n_toInt (by omega)] at hb
    refine c_streetHours hm e3 e7 (show s + N ≤ 24 by omega) (fun A g1 g2 g3 g4 => ⟨_, rfl, hQ _ A ⟨fun a ha _ _ => g1 a (by omega) (fun i _ => by omega), g2 9 (by decide), ?_⟩⟩)
    have f3 : A 3 = I 3 := g1 3 (by omega) (fun i _ => by omega)
    unfold VS
    rw [f3, g2 2 (by decide), g2 3 (by decide), g2 4 (by decide), g2 5 (by decide), g2 6 (by decide), g3]
    refine ⟨hn, hm, e2, e3, z4, z5, z6, ⟨s + N, by omega, rfl⟩, hf, fun i hi => ?_⟩
    obtain ⟨p0, p1, p2, p3, p4⟩ := hp i hi
    unfold VP
    rw [g1 (5 + 2 * i) (by omega) (fun i _ => by omega)]
    refine ⟨p0, p1, p2, p3, fun c hc => ?_⟩
    rw [show 5 + 2 * i + 1 = 6 + 2 * i by omega, g4 i hi c hc]
    exact zle_hrs p1 z6 (fun y hy => by rw [show 6 + 2 * i = 5 + 2 * i + 1 by omega]; exact p4 y hy) N c hc
theorem x_hours (hQ : Q (some (vI (-6))) (rf1 I 6) L) : Call l g 5 M_X6_hours [vR 1, vI 0] I L Q := by
  refine m_X6_hours ?_
  rw [if_pos (by decide)]
  exact c_refuse (k := 6) (by decide) rfl ⟨_, rfl, hQ⟩
theorem u_winter (h : VS I n m) (hN : N < 40) (hQ : ∀ (r : Int32) (I' : zI), ¬ r < 0 → FS I I' → VS I' n m → Q (some (vI r)) I' L) : Call l g 7 M_X6_winter [vR 1, vI (nI (N + 1))] I L Q := by
  refine m_X6_winter ?_
  rw [if_neg (show ¬ nI (N + 1) < 1 from (nI_nlt (by omega) (by omega) : ¬ nI (N + 1) < nI 1)), if_neg (show ¬ 40 < nI (N + 1) from (nI_nlt (by omega) (by omega) : ¬ nI 40 < nI (N + 1)))]
  refine m_X4_passWinter rfl (fun k hk X E => ?_)
  refine zdown (N := N + 1) (P := fun j => ∀ (A : zI) (t : Nat), t ≤ j → FS I A → VS A n m → AW k g 4 A L 4 [(0, vR 2), (1, vI (nI (N + 1))), (2, vI (nI t)), (3, vI (nI j))] []) (fun A t ht a1 a2 => ?_) (fun j hj ih A t ht a1 a2 => ?_) (c := 0) (by omega) I 0 (Nat.le_refl _) FS.rf h
  · refine s_X4_passWinter_4 rfl X E ?_
    rw [if_neg (nI_nlt (Nat.le_refl _) (by omega))]
    exact ⟨_, rfl, hQ _ A (nI_pos (by omega)) a1 a2⟩
  · refine s_X4_passWinter_4 rfl X E ?_
    rw [if_pos (nI_lt (show j < N + 1 by omega) (by omega))]
    refine m_X4_drawBelow rfl ?_
    rintro I1 rfl
    refine ⟨_, rfl, ?_⟩
    rintro I3 rfl
    refine m_X4_drawBelow rfl ?_
    rintro I1 rfl
    refine ⟨_, rfl, ?_⟩
    intro I5 e5'
    rw [if_pos (by decide), if_pos (by decide)] at e5'
    obtain ⟨r1, hr1, d1⟩ := draw_le (zs A 2 9 (A 2 9 * 1103515245 + 12345) 2 9) (d := 41) (by decide) (by decide)
    have d1' : jrem (jushr (zs A 2 9 (A 2 9 * 1103515245 + 12345) 2 9) 16) 41 = nI r1 := d1
    rw [d1'] at e5'
    obtain ⟨r2, hr2, d2⟩ := draw_le (zs (zs (zs A 2 9 (A 2 9 * 1103515245 + 12345)) 2 4 (nI r1)) 2 9 (zs (zs A 2 9 (A 2 9 * 1103515245 + 12345)) 2 4 (nI r1) 2 9 * 1103515245 + 12345) 2 9) (d := 10) (by decide) (by decide)
    have d2' : jrem (jushr (zs (zs (zs A 2 9 (A 2 9 * 1103515245 + 12345)) 2 4 (nI r1)) 2 9 (zs (zs A 2 9 (A 2 9 * 1103515245 + 12345)) 2 4 (nI r1) 2 9 * 1103515245 + 12345) 2 9) 16) 10 = nI r2 := d2
    rw [d2'] at e5'
    have vo : ∀ x, x ≠ 4 → x ≠ 5 → x ≠ 9 → I5 2 x = A 2 x := fun x h4 h5 h9 => by rw [e5', zs_ne (fun z => h5 z.2), zs_ne (fun z => h9 z.2), zs_ne (fun z => h4 z.2), zs_ne (fun z => h9 z.2)]
    have va : ∀ a, a ≠ 2 → I5 a = A a := fun a ha => by rw [e5', zs_nec ha, zs_nec ha, zs_nec ha, zs_nec ha]
    have v4 : I5 2 4 = nI r1 := by rw [e5', zs_ne (fun z => by omega), zs_ne (fun z => by omega), zs_same]
    have v5 : I5 2 5 = nI r2 := by rw [e5', zs_same]
    have hV5 : VS I5 n m := by
      obtain ⟨hn, hm, e2, e3, z4, z5, z6, z7, hf, hp⟩ := a2
      unfold VS
      rw [vo 2 (by decide) (by decide) (by decide), vo 3 (by decide) (by decide) (by decide), vo 6 (by decide) (by decide) (by decide), vo 7 (by decide) (by decide) (by decide), v4, v5, va 3 (by decide)]
      exact ⟨hn, hm, e2, e3, ⟨r1, by omega, rfl⟩, ⟨r2, by omega, rfl⟩, z6, z7, hf, fun i hi => VP_cong (va _ (by omega)) (va _ (by omega)) (hp i hi)⟩
    refine u_passNight hV5 (fun r A2 u => ⟨_, rfl, ?_⟩)
    have hF : FS I A2 := a1.t (FS.t (fun a ha _ _ => va a (by omega)) u.1)
    dsimp only
    rw [← nI_succ]
    by_cases hr : r = 0
    · rw [if_pos hr, Int32.add_zero]
      exact ih A2 t (by omega) hF u.2.2
    · rw [if_neg hr, ← nI_succ]
      exact ih A2 (t + 1) (by omega) hF u.2.2
theorem x_winter (hQ : Q (some (vI (-6))) (rf1 I 6) L) : Call l g 7 M_X6_winter [vR 1, vI 41] I L Q := by
  refine m_X6_winter ?_
  rw [if_neg (by decide), if_pos (by decide)]
  exact c_refuse (k := 6) (by decide) rfl ⟨_, rfl, hQ⟩
theorem u_breath (h : VS I n m) (hi : i < m) (hj : j < 16) (hQ : ∀ (r : Int32) (I' : zI), Up I I' n m → Q (some (vI r)) I' L) : Call l g 3 M_X6_breath [vR 1, vI (nI i), vI (nI j)] I L Q := by
  obtain ⟨hn, hm, e2, e3, z4, z5, z6, z7, hf, hp⟩ := id h
  obtain ⟨p0, p1, p2, p3, p4⟩ := hp i hi
  refine m_X6_breath ?_
  rw [paneAt_in hm e3 hi, if_neg (by omega), if_neg (by rw [cell_in hj]; decide)]
  refine m_X1_breatheOn (zshP i (by omega)) (fun k hk X E => ?_)
  generalize v_J6_bitCount_0f7a4 (v_X1_frosted I (5 + 2 * i) &&& (v_X1_cellsBeside (nI j) ||| jshl 1 (nI j))) = R
  refine zdown (N := 16) (P := fun c => ∀ A : zI, (∀ a, a ≠ 6 + 2 * i → A a = I a) → (∀ y, y < 16 → zle 20 (A (6 + 2 * i) y)) → AW k g 5 A L 22 [(0, vR (5 + 2 * i)), (2, vI (v_X1_cellsBeside (nI j) ||| jshl 1 (nI j))), (3, vI R), (4, vI (nI c))] []) (fun A h1 h2 => ?_) (fun c hc ih A h1 h2 => ?_) (c := 0) (by omega) I (fun _ _ => rfl) (fun y hy => by rw [show 6 + 2 * i = 5 + 2 * i + 1 by omega]; exact p4 y hy)
  · refine s_X1_breatheOn_22 (zshP i (by omega)) X E ?_
    rw [if_neg (show ¬ nI 16 < 16 by decide)]
    refine ⟨_, rfl, hQ _ A ⟨fun a ha _ _ => h1 a (by omega), by rw [h1 2 (by omega)], VS_one h hi (fun a _ _ _ h6 => h1 a h6) ?_⟩⟩
    unfold VP
    rw [h1 (5 + 2 * i) (by omega)]
    exact ⟨p0, p1, p2, p3, fun c hc => by rw [show 5 + 2 * i + 1 = 6 + 2 * i by omega]; exact h2 c hc⟩
  · refine s_X1_breatheOn_22 (zshP i (by omega)) X E ?_
    rw [if_pos (n16 hc), zcl (by omega), ← nI_succ, show 5 + 2 * i + 1 = 6 + 2 * i by omega]
    split
    · exact ih A h1 h2
    · refine ⟨zvin hc (by decide), ih _ (fun a ha => by rw [zs_nec ha]; exact h1 a ha) (fun y hy => ?_)⟩
      rw [zs_at]
      split
      · exact ⟨0, by decide, rfl⟩
      · exact h2 y hy
theorem x_breath (h : VS I n m) (hQ : Q (some (vI (-1))) (rf1 I 1) L) : Call l g 3 M_X6_breath [vR 1, vI (nI m), vI x] I L Q := by
  obtain ⟨hn, hm, e2, e3, -⟩ := h
  refine m_X6_breath ?_
  rw [if_pos (paneAt_out e3)]
  exact c_refuse (k := 1) (by decide) rfl ⟨_, rfl, hQ⟩
end ZNW
