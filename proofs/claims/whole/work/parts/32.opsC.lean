/-! OPERATIONS: hours, shelves -/
theorem hours_cases (a : Int32) : ((a < 1 ∨ (¬ a < 1 ∧ 24 < a)) ∧ v_X7_within a 1 24 = 0) ∨ ∃ k, k < 24 ∧ a = nI (k + 1) ∧ ¬ a < 1 ∧ ¬ 24 < a ∧ v_X7_within a 1 24 = 1 := by
  unfold v_X7_within
  by_cases h : a < 1
  · exact Or.inl ⟨Or.inl h, by rw [if_pos h]⟩
  · by_cases h2 : 24 < a
    · exact Or.inl ⟨Or.inr ⟨h, h2⟩, by rw [if_neg h, if_pos h2]⟩
    · have hn : ¬ a < 0 := by
        rw [i_lt] at *
        rw [show (1 : Int32).toInt = 1 from rfl] at h
        rw [show (0 : Int32).toInt = 0 from rfl]
        omega
      obtain ⟨k, hk, rfl⟩ := n_of hn
      rw [show (24 : Int32) = nI 24 from rfl, n_lt (by decide) hk] at h2
      rw [show (1 : Int32) = nI 1 from rfl, n_lt hk (by decide)] at h
      refine Or.inr ⟨k - 1, by omega, by rw [show k - 1 + 1 = k by omega], ?_, ?_, ?_⟩
      · rw [show (1 : Int32) = nI 1 from rfl, n_lt hk (by decide)]; exact h
      · rw [show (24 : Int32) = nI 24 from rfl, n_lt (by decide) hk]; exact h2
      · rw [if_neg (show ¬ nI k < 1 from by rw [show (1 : Int32) = nI 1 from rfl, n_lt hk (by decide)]; exact h), if_neg (show ¬ 24 < nI k from by rw [show (24 : Int32) = nI 24 from rfl, n_lt (by decide) hk]; exact h2)]
section ZHR
variable {l : Launch} {g : zG} {Q : Option zv → zI → zL → Prop} {A : zI} {L : zL} {m s N : Nat}
theorem c_streetHours (hm : m ≤ 8) (e3 : A 2 3 = nI m) (e7 : A 2 7 = nI s) (hsN : s + N ≤ 24) (h : ∀ A' : zI, (∀ a, a ≠ 2 → (∀ i, i < m → a ≠ 6 + 2 * i) → A' a = A a) → (∀ j, j ≠ 7 → A' 2 j = A 2 j) → A' 2 7 = nI (s + N) → (∀ i, i < m → ∀ c, c < 16 → A' (6 + 2 * i) c = hrs (A (5 + 2 * i) 0) (A (5 + 2 * i) 1) (A (5 + 2 * i) 2) (A 2 6) s (A (6 + 2 * i)) N c) → Q (some (vI (nI (s + N)))) A' L) : Call l g 4 M_X4_passHours [vR 2, vI (nI N)] A L Q := by
  refine m_X4_passHours rfl (fun k hk X E => ?_)
  refine zdown (N := m) (P := fun c => ∀ B : zI, (∀ a, (∀ i, i < c → a ≠ 6 + 2 * i) → B a = A a) → (∀ i, i < c → ∀ x, x < 16 → B (6 + 2 * i) x = hrs (A (5 + 2 * i) 0) (A (5 + 2 * i) 1) (A (5 + 2 * i) 2) (A 2 6) s (A (6 + 2 * i)) N x) → AW k g 4 B L 2 [(0, vR 2), (1, vI (nI N)), (2, vI (nI c))] []) (fun B b1 b2 => ?_) (fun c hc ih B b1 b2 => ?_) (c := 0) (by omega) A (fun _ _ => rfl) (fun _ hh => absurd hh (Nat.not_lt_zero _))
  · refine s_X4_passHours_2 rfl X E ?_
    have f2 : B 2 = A 2 := b1 2 (fun i _ => by omega)
    rw [f2, e3, if_neg (nI_nlt (Nat.le_refl _) (by omega))]
    rintro I4 rfl
    rw [zs_same, e7, nI_add]
    exact h _ (fun a ha hb => by rw [zs_nec ha]; exact b1 a hb) (fun j hj => by rw [zs_ne (fun z => hj z.2), f2]) (by rw [zs_same]) (fun i hi c hc => by rw [zs_nec (by omega)]; exact b2 i hi c hc)
  · refine s_X4_passHours_2 rfl X E ?_
    have f2 : B 2 = A 2 := b1 2 (fun i _ => by omega)
    have ep : v_X4_paneAt B 2 (nI c) = 5 + 2 * c := paneAt_in hm (by rw [f2]; exact e3) hc
    rw [ep, f2, e3, if_pos (nI_lt hc (by omega)), if_neg (by omega), e7, nI_add]
    have fp : B (5 + 2 * c) = A (5 + 2 * c) := b1 _ (fun i _ => by omega)
    have fi : B (5 + 2 * c + 1) = A (6 + 2 * c) := by rw [show 5 + 2 * c + 1 = 6 + 2 * c by omega]; exact b1 _ (fun i _ => by omega)
    refine c_passHours hsN (zshP c (by omega)) (fun B2 g1 g2 => ⟨rfl, ?_⟩)
    rw [fp, fi] at g2
    rw [show 5 + 2 * c + 1 = 6 + 2 * c by omega] at g1 g2
    rw [← nI_succ]
    refine ih B2 (fun a ha => (g1 a (ha c (by omega))).trans (b1 a (fun i hi => ha i (by omega)))) (fun i hi x hx => ?_)
    by_cases e : i = c
    · subst e
      exact g2 x hx
    · rw [g1 (6 + 2 * i) (by omega)]
      exact b2 i (by omega) x hx
theorem m_hoursAll (hm : m ≤ 8) (e5 : A 87 5 = nI m) (e15 : A 87 15 = nI s) (hsN : s + N ≤ 24) (hw : v_X7_within (nI N) 1 24 = 1) (hout : zle 9 (A 87 14)) (hp : ∀ i, i < m → zle 6 (A 92 i) ∧ zle 9 (A 93 i) ∧ ∀ c, c < 16 → zle 20 (A 97 (16 * i + c))) (h : ∀ A' : zI, (∀ a, a ≠ 87 → a ≠ 97 → a ≠ 101 → a ≠ 102 → A' a = A a) → (∀ j, j ≠ 15 → A' 87 j = A 87 j) → A' 87 15 = nI (s + N) → (∀ i, i < m → ∀ c, c < 16 → A' 97 (16 * i + c) = hrs (A 92 i) (A 93 i) (A 94 i) (A 87 14) s (fun x => A 97 (16 * i + x)) N c) → Q (some (vI (nI (s + N)))) A' L) : Call l g 3 M_X7_hours [vR 87, vI (nI N)] A L Q := by
  refine m_X7_hours (fun k hk X E => ?_)
  rw [if_neg (ne0 hw), e15, nI_add, if_neg (show ¬ 24 < nI (s + N) from (nI_nlt (a := 24) (b := s + N) hsN (by decide) : ¬ nI 24 < nI (s + N)))]
  refine zdown (N := m) (P := fun c => ∀ B : zI, (∀ a, a ≠ 97 → a ≠ 101 → a ≠ 102 → B a = A a) → (∀ i, i < c → ∀ x, x < 16 → B 97 (16 * i + x) = hrs (A 92 i) (A 93 i) (A 94 i) (A 87 14) s (fun x => A 97 (16 * i + x)) N x) → (∀ x, 16 * c ≤ x → B 97 x = A 97 x) → AW k g 4 B L 37 [(0, vR 87), (1, vI (nI N)), (2, vI (nI c))] []) (fun B b1 b2 b3 => ?_) (fun c hc ih B b1 b2 b3 => ?_) (c := 0) (by omega) A (fun _ _ _ _ => rfl) (fun _ hh => absurd hh (Nat.not_lt_zero _)) (fun _ _ => rfl)
  · refine s_X7_hours_37 X E ?_
    have f87 : B 87 = A 87 := b1 87 (by decide) (by decide) (by decide)
    rw [f87, e5, if_neg (nI_nlt (Nat.le_refl _) (by omega))]
    rintro I3 rfl
    rw [zs_same, e15, nI_add]
    exact h _ (fun a h1 h2 h3 h4 => by rw [zs_nec h1]; exact b1 a h2 h3 h4) (fun j hj => by rw [zs_ne (fun z => hj z.2), f87]) (by rw [zs_same]) (fun i hi x hx => by rw [zs_nec (by decide)]; exact b2 i hi x hx)
  · refine s_X7_hours_37 X E ?_
    have f87 : B 87 = A 87 := b1 87 (by decide) (by decide) (by decide)
    rw [f87, e5, if_pos (nI_lt hc (by omega))]
    obtain ⟨z0, z1, zt⟩ := hp c hc
    refine m_load (by omega) (fun B1 l1 l2 => ⟨rfl, ?_⟩)
    have g87 : B1 87 = A 87 := (l1 87 (by decide)).trans f87
    have g92 : B1 92 = A 92 := (l1 92 (by decide)).trans (b1 92 (by decide) (by decide) (by decide))
    have g93 : B1 93 = A 93 := (l1 93 (by decide)).trans (b1 93 (by decide) (by decide) (by decide))
    have g94 : B1 94 = A 94 := (l1 94 (by decide)).trans (b1 94 (by decide) (by decide) (by decide))
    have g97 : B1 97 = B 97 := l1 97 (by decide)
    refine zdown (N := N) (P := fun j => ∀ C : zI, (∀ a, a ≠ 101 → a ≠ 102 → C a = B1 a) → (∀ x, x < 16 → C 101 x = hrs (A 92 c) (A 93 c) (A 94 c) (A 87 14) s (fun x => A 97 (16 * c + x)) j x) → AW k g 4 C L 52 [(0, vR 87), (1, vI (nI N)), (2, vI (nI c)), (3, vI (nI j))] []) (fun C c1 c2 => ?_) (fun j hj ih2 C c1 c2 => ?_) (c := 0) (by omega) B1 (fun _ _ _ => rfl) (fun x hx => ?_)
    · refine s_X7_hours_52 X E ?_
      rw [if_neg (nI_nlt (Nat.le_refl _) (by omega))]
      refine zdown (N := 16) (P := fun y => ∀ D : zI, (∀ a, a ≠ 97 → D a = C a) → (∀ x, x < y → D 97 (16 * c + x) = C 101 x) → (∀ x, (x < 16 * c ∨ 16 * c + 16 ≤ x) → D 97 x = C 97 x) → AW k g 4 D L 76 [(0, vR 87), (1, vI (nI N)), (2, vI (nI c)), (3, vI (nI y))] []) (fun D d1 d2 d3 => ?_) (fun y hy ih3 D d1 d2 d3 => ?_) (c := 0) (by omega) C (fun _ _ => rfl) (fun _ hh => absurd hh (Nat.not_lt_zero _)) (fun _ _ => rfl)
      · refine s_X7_hours_76 X E ?_
        rw [if_neg (show ¬ nI 16 < 16 by decide), ← nI_succ]
        refine ih D (fun a h1 h2 h3 => by rw [d1 a h1, c1 a h2 h3, l1 a h2]; exact b1 a h1 h2 h3) (fun i hi x hx => ?_) (fun x hx => ?_)
        · by_cases e : i = c
          · subst e
            rw [d2 x hx]
            exact c2 x hx
          · rw [d3 (16 * i + x) (by omega), c1 97 (by decide) (by decide), g97]
            exact b2 i (by omega) x hx
        · rw [d3 x (by omega), c1 97 (by decide) (by decide), g97]
          exact b3 x (by omega)
      · refine s_X7_hours_76 X E ?_
        have e1 : 16 * nI c + nI y = nI (16 * c + y) := by rw [show (16 : Int32) = nI 16 from rfl, pk_mul, nI_add]
        rw [if_pos (n16 hy), e1, zcl (by omega), zcl (by omega), ← nI_succ]
        refine ⟨zvin hy (by decide), zvin (by omega) (by decide), ih3 _ (fun a ha => by rw [zs_nec ha]; exact d1 a ha) (fun x hx => ?_) (fun x hx => by rw [zs_ne (fun z => by omega)]; exact d3 x hx)⟩
        by_cases e : x = y
        · rw [e, zs_same]
          rw [d1 101 (by decide)]
        · rw [zs_ne (fun z => by omega)]
          exact d2 x (by omega)
    · refine s_X7_hours_52 X E ?_
      have k87 : C 87 = A 87 := (c1 87 (by decide) (by decide)).trans g87
      have k92 : C 92 = A 92 := (c1 92 (by decide) (by decide)).trans g92
      have k93 : C 93 = A 93 := (c1 93 (by decide) (by decide)).trans g93
      have k94 : C 94 = A 94 := (c1 94 (by decide) (by decide)).trans g94
      rw [if_pos (nI_lt hj (by omega)), k87, e15, nI_add]
      have hz : ∀ x, x < 16 → zle 20 (C 101 x) := fun x hx => by
        rw [c2 x hx]
        exact zle_hrs z1 hout (fun x hx => zt x hx) j x hx
      refine m_melting (by omega) (by rw [k92]; exact z0) (by rw [k93]; exact z1) (by rw [k87]; exact hout) hz (fun C2 k1 k2 => ⟨rfl, ?_⟩)
      rw [← nI_succ]
      refine ih2 C2 (fun a h1 h2 => (k1 a h1 h2).trans (c1 a h1 h2)) (fun x hx => ?_)
      rw [k2 x hx, k92, k93, k94, k87]
      exact mel_cong c2 hx
    · rw [l2 x hx]
      exact b3 _ (by omega)
end ZHR
theorem sim_hours (a1 : Int32) : Sim M_X6_hours 5 M_X7_hours 3 [vI a1] := by
  rintro l g I L ⟨n, m, h⟩
  obtain ⟨hW, hN, hn, hm, e2, e2', e3, e3', e4, e5, e6, hf⟩ := Rn_wx h
  obtain ⟨-, -, -, -, -, -, -, ⟨w7, s, hs, es⟩, w8, w9, -, -⟩ := h.1
  have w7' : I 2 7 = nI s := w7.trans es
  refine m_X6_hours ?_
  rcases hours_cases a1 with ⟨w, w2⟩ | ⟨N, hN24, rfl, w1, w2, w3⟩
  · have key : Call l g 1 M_X6_refuse [vR 1, vI (-6)] I L (zi fun r2 I2 L2 => SimQ l g M_X7_hours 3 [vR 87, vI a1] (some (vI r2)) I2 L2) := both_no (k := 6) (by decide) rfl h (fun Q hq => m_X7_hours (fun k hk X E => by rw [if_pos w2, hk]; exact hq))
    rcases w with w | ⟨w, w'⟩
    · rw [if_pos w]; exact key
    · rw [if_neg w, if_pos w']; exact key
  rw [if_neg w1, if_neg w2, show (24 : Int32) - nI (N + 1) = nI (24 - (N + 1)) from pk_sub (a := 24) (by omega), w7']
  by_cases ho : 24 - (N + 1) < s
  · rw [if_pos (nI_lt ho (by omega))]
    have hov : (24 : Int32) < I 87 15 + nI (N + 1) := by
      rw [es, nI_add]
      exact (nI_lt (a := 24) (by omega) (by omega) : nI 24 < nI (s + (N + 1)))
    exact both_no (k := 7) (by decide) rfl h (fun Q hq => m_X7_hours (fun k hk X E => by rw [if_neg (ne0 w3), if_pos (show 24 < rf1 I 7 87 15 + nI (N + 1) from hov), hk]; exact hq))
  · rw [if_neg (nI_nlt (by omega) (by omega))]
    refine c_streetHours hm e3 w7' (by omega) (fun A g1 g2 g3 g4 => ⟨_, rfl, _, rfl, ?_⟩)
    have q : ∀ a, 20 < a → A a = I a := fun a ha => g1 a (by omega) (fun i _ => by omega)
    refine m_hoursAll hm (by rw [q 87 (by decide)]; exact e3') (by rw [q 87 (by decide)]; exact es) (by omega) w3 (by rw [q 87 (by decide)]; exact hW.2.2) (fun i hi => ?_) (fun B k1 k2 k3 k4 => ⟨_, rfl, rfl, n, m, ?_⟩)
    · obtain ⟨⟨i8, z0, z1, z2⟩, p0, p1, p2, p3, p4, p5, p6⟩ := Rn_pane h hi
      rw [q 92 (by decide), q 93 (by decide), q 97 (by decide)]
      exact ⟨z0, z1, fun c hc => (p6 c hc).2⟩
    · have b2 : B 2 = A 2 := k1 2 (by decide) (by decide) (by decide) (by decide)
      rw [q 87 (by decide)] at k2
      refine Rn_dyn h (fun a sc a2 a87 a97 ai => ?_) ?_ (fun j hj => k2 j (by omega)) ?_ ?_ ?_ ?_ ?_ ?_ (fun i hi c hc => ?_)
      · rw [k1 a a87 a97 (by unfold scr at sc; omega) (by unfold scr at sc; omega)]
        exact g1 a a2 ai
      · rw [b2, g2 2 (by decide), g2 3 (by decide)]
        exact ⟨rfl, rfl⟩
      · rw [b2, g2 4 (by decide), k2 12 (by decide)]
        exact ⟨e4, hW.1⟩
      · rw [b2, g2 5 (by decide), k2 13 (by decide)]
        exact ⟨e5, hW.2.1⟩
      · rw [b2, g2 6 (by decide), k2 14 (by decide)]
        exact ⟨e6, hW.2.2⟩
      · rw [b2, g3, k3]
        exact ⟨rfl, s + (N + 1), by omega, rfl⟩
      · rw [b2, g2 8 (by decide), k2 16 (by decide)]
        exact w8
      · rw [b2, g2 9 (by decide), k2 17 (by decide)]
        exact w9
      · obtain ⟨⟨i8, z0, z1, z2⟩, p0, p1, p2, p3, p4, p5, p6⟩ := Rn_pane h hi
        rw [k1 (6 + 2 * i) (by omega) (by omega) (by omega) (by omega), g4 i hi c hc, k4 i hi c hc, q 92 (by decide), q 93 (by decide), q 94 (by decide), q 97 (by decide), q 87 (by decide), p0, p1, p2, e6]
        have hc1 : hrs (I 92 i) (I 93 i) (I 94 i) (I 87 14) s (I (6 + 2 * i)) (N + 1) c = hrs (I 92 i) (I 93 i) (I 94 i) (I 87 14) s (fun x => I 97 (16 * i + x)) (N + 1) c := hrs_cong (fun x hx => (p6 x hx).1) _ hc
        rw [hc1]
        exact ⟨rfl, zle_hrs z1 hW.2.2 (fun x hx => (p6 x hx).2) _ c hc⟩
/-! shelves -/
theorem zshS : ∀ s, s < 8 → zsh (66 + 2 * s) = (13, 5) := by decide +kernel
/-- a change of one shelf -/
theorem Rn_shelf {I I' : zI} {L L' : zL} {n m s : Nat} (hs : s < 8) (h : Rn I L n m) (hI : ∀ a, a ≠ 66 + 2 * s → a ≠ 88 → a ≠ 89 → I' a = I a) (h88 : ∀ j, j ≠ s → I' 88 j = I 88 j) (h89 : ∀ j, j ≠ s → I' 89 j = I 89 j) (hL : ∀ a, a ≠ 67 + 2 * s → a ≠ 90 → L' a = L a) (h90 : ∀ x, (x < 160 * s ∨ 160 * s + 160 ≤ x) → L' 90 x = L 90 x) (hS : RSh I' L' s m) : Rn I' L' n m := by
  have e : ∀ a, (a < 66 ∨ 81 < a) → a ≠ 88 → a ≠ 89 → I' a = I a := fun a h1 h2 h3 => hI a (by omega) h2 h3
  obtain ⟨h1, h2, h3, h4, h5, h6⟩ := h
  refine ⟨?_, ?_, ?_, ?_, ?_, ?_⟩
  · unfold RC at *
    rw [e 91 (by omega) (by omega) (by omega), e 92 (by omega) (by omega) (by omega), e 93 (by omega) (by omega) (by omega), e 94 (by omega) (by omega) (by omega), e 95 (by omega) (by omega) (by omega), e 96 (by omega) (by omega) (by omega), e 97 (by omega) (by omega) (by omega), e 87 (by omega) (by omega) (by omega)]
    exact RS_cong (fun a ha hb => e a (by omega) (by omega) (by omega)) h1
  · unfold RI RO at *
    rw [e 1 (by omega) (by omega) (by omega), e 87 (by omega) (by omega) (by omega), e 100 (by omega) (by omega) (by omega)]
    refine ⟨h2.1, h2.2.imp id (fun ⟨q, n', m', h⟩ => ⟨q, n', m', RS_cong (fun a ha hb => e a (by omega) (by omega) (by omega)) h⟩)⟩
  · intro t ht
    by_cases et : t = s
    · rw [et]; exact hS
    · have := h3 t ht
      unfold RSh v_X3_lowestBits at *
      rw [hI (66 + 2 * t) (by omega) (by omega) (by omega), h88 t et, h89 t et, hL (67 + 2 * t) (by omega) (by omega)]
      refine this.imp (fun ⟨r1, r2, r3, r4, r5, r6⟩ => ⟨r1, r2, r3, r4, r5, fun i hi => ?_⟩) id
      obtain ⟨z, hz, ez⟩ := r5
      have hi' : i < z := by rw [ez, zcl (by omega)] at hi; exact hi
      rw [h90 (160 * t + i) (by omega)]
      exact r6 i hi
  · unfold RF at *
    rw [e 86 (by omega) (by omega) (by omega), e 98 (by omega) (by omega) (by omega)]
    exact h4
  · rw [e 82 (by omega) (by omega) (by omega), e 87 (by omega) (by omega) (by omega)]
    exact h5
  · unfold RA at *
    rw [e 84 (by omega) (by omega) (by omega), e 87 (by omega) (by omega) (by omega), e 85 (by omega) (by omega) (by omega), e 99 (by omega) (by omega) (by omega)]
    exact h6
/-- what the relation says of a row -/
theorem Rn_row {I : zI} {L : zL} {n m s : Nat} (h : Rn I L n m) (hs : s < 8) (hr : I (66 + 2 * s) 4 = 1) : zle 3 (I (66 + 2 * s) 1) ∧ I 88 s = 100 + I (66 + 2 * s) 1 ∧ ∃ N, N ≤ 160 ∧ I (66 + 2 * s) 2 = nI N ∧ I 89 s = nI N ∧ ∀ i, i < N → L (67 + 2 * s) i = L 90 (160 * s + i) ∧ v_X3_lowestBits I (66 + 2 * s) (L 90 (160 * s + i)) = L 90 (160 * s + i) := by
  rcases h.2.2.1 s hs with ⟨r1, r2, r3, r4, ⟨N, hN, r5⟩, r6⟩ | ⟨r1, -⟩
  · refine ⟨r2, r3, N, hN, r5, r4.trans r5, fun i hi => r6 i (by rw [r5, zcl (by omega)]; exact hi)⟩
  · rw [hr] at r1
    exact absurd r1 (by decide)
theorem Rn_norow {I : zI} {L : zL} {n m s : Nat} (h : Rn I L n m) (hs : s < 8) (hr : ¬ I (66 + 2 * s) 4 = 1) : I (66 + 2 * s) 4 = 0 ∧ I 88 s = I (66 + 2 * s) 3 ∧ (I (66 + 2 * s) 3 = -1 ∨ ∃ q, q < m ∧ I (66 + 2 * s) 3 = nI q) := by
  rcases h.2.2.1 s hs with ⟨r1, -⟩ | ⟨r1, r2, r3, r4⟩
  · exact absurd r1 hr
  · exact ⟨r1, r3, r4⟩
theorem hundred {x : Int32} (h : zle 3 x) : ¬ 100 + x < 0 ∧ ¬ 100 + x < 100 ∧ (100 + x) - 100 = x := by
  obtain ⟨k, hk, rfl⟩ := h
  rw [show (100 : Int32) = nI 100 from rfl, nI_add, pk_sub (by omega)]
  refine ⟨nI_pos (by omega), nI_nlt (by omega) (by omega), by rw [show 100 + k - 100 = k by omega]⟩
/-- no shelf; no row; a row -/
theorem row_cases {I : zI} {L : zL} {n m : Nat} (h : Rn I L n m) (a1 : Int32) :
    (v_X6_shelfAt a1 = 0 ∧ v_X7_within a1 0 7 = 0 ∧ v_X7_noRow I a1 = -1) ∨
    (∃ s u k, s < 8 ∧ a1 = nI s ∧ v_X6_shelfAt a1 = 66 + 2 * s ∧ I (66 + 2 * s) 4 = 0 ∧ v_X6_lackOfRow I (66 + 2 * s) = u ∧ v_X7_noRow I (nI s) = u ∧ k < 8 ∧ -u = nI k ∧ u < 0) ∨
    ∃ s, s < 8 ∧ a1 = nI s ∧ v_X6_shelfAt a1 = 66 + 2 * s ∧ I (66 + 2 * s) 4 = 1 ∧ v_X7_noRow I (nI s) = 0 := by
  have hm : m ≤ 8 := h.1.2.1
  rcases shelf_cases a1 with ⟨c1, c2⟩ | ⟨s, hs, rfl, c1, c2⟩
  · refine Or.inl ⟨c1, c2, ?_⟩
    unfold v_X7_noRow
    rw [if_pos c2]
  · obtain ⟨-, q2⟩ := isRow_1 hs hm (h.2.2.1 s hs)
    have e : v_X7_noRow I (nI s) = if I 88 s < 0 then (if I 88 s < 0 then (-3) else (0 : Int32)) else if I (66 + 2 * s) 4 = 0 then (-2) else if I 88 s < 0 then (-3) else (0 : Int32) := by
      unfold v_X7_noRow
      rw [if_neg (ne0 c2), q2, zcl (by omega)]
    by_cases hr : I (66 + 2 * s) 4 = 1
    · obtain ⟨r1, r2, -⟩ := Rn_row h hs hr
      refine Or.inr (Or.inr ⟨s, hs, rfl, c1, hr, ?_⟩)
      rw [e, r2, if_neg (hundred r1).1, hr, if_neg (by decide), if_neg (hundred r1).1]
    · obtain ⟨r1, r2, r3⟩ := Rn_norow h hs hr
      refine Or.inr (Or.inl ?_)
      rcases r3 with e3 | ⟨q, hq, e3⟩
      · refine ⟨s, -3, 3, hs, rfl, c1, r1, ?_, ?_, by decide, rfl, by decide⟩
        · unfold v_X6_lackOfRow v_X3_hasPane
          rw [if_neg (by omega), if_pos r1, if_pos e3, if_pos rfl]
        · rw [e, r2, e3, if_pos (by decide), if_pos (by decide)]
      · refine ⟨s, -2, 2, hs, rfl, c1, r1, ?_, ?_, by decide, rfl, by decide⟩
        · unfold v_X6_lackOfRow v_X3_hasPane
          rw [if_neg (by omega), if_pos r1, if_neg (show ¬ I (66 + 2 * s) 3 = -1 from fun e1 => n_neg (a := -1) (by decide) q (by omega) (e1.symm.trans e3)), if_neg (by decide)]
        · rw [e, r2, e3, if_neg (nI_pos (by omega)), if_pos r1]
theorem noRow_rf (I : zI) (k : Nat) (a : Int32) : v_X7_noRow (rf1 I k) a = v_X7_noRow I a := rfl
section ZSH
variable {l : Launch} {g : zG} {Q : Option zv → zI → zL → Prop} {I : zI} {L : zL} {p : Nat} {a1 a2 : Int32}
theorem c_takeRow (hp : zsh p = (13, 5)) (h : ∀ (I' : zI) (L' : zL), (∀ a, a ≠ p → I' a = I a) → I' p 4 = 1 → I' p 1 = a1 → I' p 2 = a2 → I' p 3 = -1 → (∀ a, a ≠ p + 1 → L' a = L a) → (∀ x, x < 160 → L' (p + 1) x = 0) → Q none I' L') : Call l g 1 M_X3_takeRow [vR p, vI a1, vI a2] I L Q := by
  refine m_X3_takeRow hp (fun k hk X E => ?_)
  rintro I1 rfl I2 rfl I3 rfl
  refine zdown (N := 160) (P := fun c => ∀ L1 : zL, (∀ a, a ≠ p + 1 → L1 a = L a) → (∀ x, x < c → L1 (p + 1) x = 0) → AW k g 4 (zs (zs (zs (zs I p 4 1) p 1 a1) p 2 a2) p 3 (-1)) L1 22 [(0, vR p), (3, vI (nI c))] []) (fun L1 h1 h2 => ?_) (fun c hc ih L1 h1 h2 => ?_) (c := 0) (by omega) L (fun _ _ => rfl) (fun _ hh => absurd hh (Nat.not_lt_zero _))
  · refine s_X3_takeRow_22 hp X E ?_
    rw [if_neg (show ¬ nI 160 < 160 by decide)]
    refine h _ L1 (fun a ha => by rw [zs_nec ha, zs_nec ha, zs_nec ha, zs_nec ha]) ?_ ?_ ?_ ?_ h1 h2
    · rw [zs_ne (by omega), zs_ne (by omega), zs_ne (by omega), zs_same]
    · rw [zs_ne (by omega), zs_ne (by omega), zs_same]
    · rw [zs_ne (by omega), zs_same]
    · rw [zs_same]
  · refine s_X3_takeRow_22 hp X E ?_
    rw [if_pos (show nI c < 160 from (nI_lt hc (by decide) : nI c < nI 160)), zcl (by omega), ← nI_succ]
    refine ⟨zvin hc (by decide), ih _ (fun a ha => by rw [zs_nec ha]; exact h1 a ha) (fun x hx => ?_)⟩
    by_cases e : x = c
    · rw [e, zs_same]
    · rw [zs_ne (fun z => e z.2)]
      exact h2 x (by omega)
end ZSH
theorem low_0 (I : zI) (p : Nat) : v_X3_lowestBits I p 0 = 0 := by
  unfold v_X3_lowestBits
  split
  · rfl
  · split
    · rfl
    · split
      · rfl
      · rfl
theorem sim_row (a1 a2 a3 : Int32) : Sim M_X6_row 2 M_X7_row 2 [vI a1, vI a2, vI a3] := by
  rintro l g I L ⟨n, m, h⟩
  refine m_X6_row ?_
  rcases shelf_cases a1 with ⟨c1, c2⟩ | ⟨s, hs, rfl, c1, c2⟩
  · rw [if_pos c1]
    exact both_no (k := 1) (by decide) rfl h (fun Q hq => m_X7_row (fun k hk X E => by rw [if_pos c2, hk]; exact hq))
  rw [if_neg (by rw [c1]; omega), c1]
  by_cases d : a3 < 0
  · rw [if_pos d]
    exact both_no (k := 4) (by decide) rfl h (fun Q hq => m_X7_row (fun k hk X E => by rw [if_neg (ne0 c2), if_pos d, hk]; exact hq))
  rw [if_neg d]
  rcases may_cases a2 3 (by decide) with ⟨w, w2⟩ | ⟨hz2, w1, w2, w4⟩
  · have key : Call l g 1 M_X6_refuse [vR 1, vI (-6)] I L (zi fun r2 I2 L2 => SimQ l g M_X7_row 2 [vR 87, vI (nI s), vI a2, vI a3] (some (vI r2)) I2 L2) := both_no (k := 6) (by decide) rfl h (fun Q hq => m_X7_row (fun k hk X E => by rw [if_neg (ne0 c2), if_neg d, if_pos (show v_X7_within a2 0 3 = 0 from w2), hk]; exact hq))
    rcases w with w | ⟨w, w'⟩
    · rw [if_pos w]; exact key
    · rw [if_neg w, if_pos (show 3 < a2 from w')]; exact key
  rw [if_neg w1, if_neg (show ¬ 3 < a2 from w2)]
  have w4' : ¬ v_X7_within a2 0 3 = 0 := ne0 w4
  by_cases d2 : 160 < a3
  · rw [if_pos d2]
    exact both_no (k := 7) (by decide) rfl h (fun Q hq => m_X7_row (fun k hk X E => by rw [if_neg (ne0 c2), if_neg d, if_neg w4', if_pos d2, hk]; exact hq))
  rw [if_neg d2]
  have hz3 : zle 160 a3 := by
    obtain ⟨k, hk, rfl⟩ := n_of d
    refine ⟨k, ?_, rfl⟩
    rw [show (160 : Int32) = nI 160 from rfl, n_lt (by decide) hk] at d2
    omega
  refine c_takeRow (zshS s hs) (fun I1 L1 g1 g2 g3 g4 g5 g6 g7 => ⟨rfl, _, rfl, ?_⟩)
  refine m_X7_row (fun k hk X E => ?_)
  rw [if_neg (ne0 c2), if_neg d, if_neg w4', if_neg d2, zcl (by omega)]
  rintro I7 rfl
  refine zdown (N := 160) (P := fun c => ∀ L2 : zL, (∀ a, a ≠ 90 → L2 a = L1 a) → (∀ x, x < c → L2 90 (160 * s + x) = 0) → (∀ x, (x < 160 * s ∨ 160 * s + 160 ≤ x) → L2 90 x = L1 90 x) → AW k g 5 (zs (zs I1 88 s (100 + a2)) 89 s a3) L2 77 [(0, vR 87), (1, vI (nI s)), (4, vI (nI c))] []) (fun L2 h1 h2 h3 => ?_) (fun c hc ih L2 h1 h2 h3 => ?_) (c := 0) (by omega) L1 (fun _ _ => rfl) (fun _ hh => absurd hh (Nat.not_lt_zero _)) (fun _ _ => rfl)
  · refine s_X7_row_77 X E ?_
    rw [if_neg (show ¬ nI 160 < 160 by decide)]
    have t : ∀ a, a ≠ 88 → a ≠ 89 → zs (zs I1 88 s (100 + a2)) 89 s a3 a = I1 a := fun a ha hb => by rw [zs_nec hb, zs_nec ha]
    refine ⟨_, rfl, rfl, n, m, Rn_shelf hs h (fun a b1 b2 b3 => by rw [t a b2 b3]; exact g1 a b1) (fun j hj => by rw [zs_nec (by decide), zs_ne (fun z => hj z.2), g1 88 (by omega)]) (fun j hj => by rw [zs_ne (fun z => hj z.2), zs_nec (by decide), g1 89 (by omega)]) (fun a b1 b2 => by rw [h1 a b2]; exact g6 a (by omega)) (fun x hx => by rw [h3 x hx, g6 90 (by omega)]) (Or.inl ?_)⟩
    rw [t (66 + 2 * s) (by omega) (by omega), g2, g3, g4, zs_nec (show 88 ≠ 89 by decide), zs_same, zs_same]
    refine ⟨rfl, hz2, rfl, rfl, hz3, fun i hi => ?_⟩
    obtain ⟨z, hz, rfl⟩ := hz3
    rw [zcl (by omega)] at hi
    rw [h1 (67 + 2 * s) (by omega), show 67 + 2 * s = 66 + 2 * s + 1 by omega, g7 i (by omega), h2 i (by omega), low_0]
    exact ⟨rfl, rfl⟩
  · refine s_X7_row_77 X E ?_
    obtain ⟨t1, t2, t3⟩ := at160 hs hc
    rw [if_pos (show nI c < 160 from (nI_lt hc (by decide) : nI c < nI 160)), t2, ← nI_succ]
    refine ⟨t3, ih _ (fun a ha => by rw [zs_nec ha]; exact h1 a ha) (fun x hx => ?_) (fun x hx => by rw [zs_ne (fun z => by omega)]; exact h3 x hx)⟩
    by_cases e : x = c
    · rw [e, zs_same]
    · rw [zs_ne (fun z => by omega)]
      exact h2 x (by omega)
theorem low_low (I : zI) (p : Nat) (v : Int64) : v_X3_lowestBits I p (v_X3_lowestBits I p v) = v_X3_lowestBits I p v := by
  unfold v_X3_lowestBits
  by_cases h0 : I p 1 = 0
  · simp [h0]
  · by_cases h1 : I p 1 = 1
    · simp [h1]
    · by_cases h2 : I p 1 = 2
      · simp [h2]
      · simp [h0, h1, h2]
/-- refused: no row there -/
theorem both_norow {l : Launch} {g : zG} {I : zI} {L : zL} {n m : Nat} {Mm : zM} {dm : Nat} {as : List zv} {u : Int32} {k : Nat} (hk : k < 8) (hu : -u = nI k) (hn : u < 0) (h : Rn I L n m) (a1 : Int32) (hv : v_X7_noRow I a1 = u) (hm : ∀ Q : Option zv → zI → zL → Prop, v_X7_noRow (rf1 I k) a1 < 0 → Call l g 1 M_X7_no [vR 87, vI (v_X7_noRow (rf1 I k) a1)] (rf1 I k) L (zi fun r I2 L2 => Q (some (vI r)) I2 L2) → Call l g dm Mm as (rf1 I k) L Q) : Call l g 1 M_X6_refuse [vR 1, vI u] I L (zi fun r2 I2 L2 => SimQ l g Mm dm as (some (vI r2)) I2 L2) :=
  both_no hk hu h (fun Q hq => hm Q (by rw [noRow_rf, hv]; exact hn) (by rw [noRow_rf, hv]; exact hq))
theorem sim_set (a1 a2 : Int32) (a3 : Int64) : Sim M_X6_set 3 M_X7_set 3 [vI a1, vI a2, vL a3] := by
  rintro l g I L ⟨n, m, h⟩
  refine m_X6_set ?_
  rcases row_cases h a1 with ⟨c1, c2, c3⟩ | ⟨s, u, k, hs, rfl, c1, c2, c3, c4, hk, hu, hn⟩ | ⟨s, hs, rfl, c1, c2, c3⟩
  · rw [if_pos c1, c1, show v_X6_lackOfRow I 0 = -1 from rfl]
    refine ⟨fun hh => absurd rfl hh, ?_⟩
    exact both_norow (k := 1) (by decide) rfl (by decide) h a1 c3 (fun Q hn hq => m_X7_set ⟨fun hh => absurd c2 hh, by rw [if_pos hn]; exact hq⟩)
  · rw [if_neg (by rw [c1]; omega), c1]
    refine ⟨Or.inl c2, ?_⟩
    rw [if_pos (show v_X3_hasRow I (66 + 2 * s) = 0 from c2), c3]
    refine ⟨fun _ => zshS s hs, ?_⟩
    exact both_norow hk hu hn h (nI s) c4 (fun Q hn hq => m_X7_set ⟨fun _ _ => zvin hs (by decide), by rw [if_pos hn]; exact hq⟩)
  · rw [if_neg (by rw [c1]; omega), c1]
    refine ⟨Or.inr c2, ?_⟩
    rw [if_neg (show ¬ v_X3_hasRow I (66 + 2 * s) = 0 from ne0 c2)]
    obtain ⟨r1, r2, N, hN, r4, r5, r6⟩ := Rn_row h hs c2
    have hnn : ¬ v_X7_noRow I (nI s) < 0 := by rw [c3]; decide
    rw [r4]
    rcases in_cases a2 (m := N) (by omega) with ⟨w, w2⟩ | ⟨i, hi, rfl, w1, w2, w3⟩
    · have key : Call l g 1 M_X6_refuse [vR 1, vI (-5)] I L (zi fun r2 I2 L2 => SimQ l g M_X7_set 3 [vR 87, vI (nI s), vI a2, vL a3] (some (vI r2)) I2 L2) := both_no (k := 5) (by decide) rfl h (fun Q hq => m_X7_set ⟨fun _ _ => zvin hs (by decide), by
        rw [if_neg (show ¬ v_X7_noRow (rf1 I 5) (nI s) < 0 from hnn), zcl (by omega), show rf1 I 5 89 s = nI N from r5, if_pos w2]
        exact ⟨zvin hs (by decide), hq⟩⟩)
      rcases w with w | ⟨w, w'⟩
      · rw [if_pos w]; exact key
      · rw [if_neg w, if_neg w']; exact key
    · rw [if_neg w1, if_pos w2]
      obtain ⟨t1, t2, t3⟩ := at160 hs (show i < 160 by omega)
      refine m_X3_put (zshS s hs) ?_
      rw [if_neg w1, r4, if_pos w2, if_pos (show nI i < 160 from (nI_lt (show i < 160 by omega) (by decide) : nI i < nI 160)), zcl (by omega)]
      refine ⟨rfl, _, rfl, m_X7_set ⟨fun _ _ => zvin hs (by decide), ?_⟩⟩
      rw [if_neg hnn, zcl (by omega), r5, if_neg (ne0 w3), r2, (hundred r1).2.2, t2]
      refine ⟨zvin hs (by decide), ?_⟩
      rintro u rfl
      refine ⟨t3, _, rfl, rfl, n, m, Rn_shelf hs h (fun _ _ _ _ => rfl) (fun _ _ => rfl) (fun _ _ => rfl) (fun a b1 b2 => by rw [zs_nec b2, zs_nec (by omega)]) (fun x hx => by rw [zs_ne (fun z => by omega), zs_nec (by omega)]) (Or.inl ⟨c2, r1, r2, r5.trans r4.symm, ⟨N, hN, r4⟩, fun j hj => ?_⟩)⟩
      rw [r4, zcl (by omega)] at hj
      have eu : (if I (66 + 2 * s) 1 = 0 then a3.toInt32.toInt8.toInt32.toInt64 else if I (66 + 2 * s) 1 = 1 then a3.toInt32.toInt16.toInt32.toInt64 else if I (66 + 2 * s) 1 = 2 then a3.toInt32.toInt64 else a3) = v_X3_lowestBits I (66 + 2 * s) a3 := rfl
      rw [eu]
      by_cases e : j = i
      · subst e
        rw [zs_nec (show 67 + 2 * s ≠ 90 by omega), show 67 + 2 * s = 66 + 2 * s + 1 by omega, zs_same, zs_same, low_low]
        exact ⟨rfl, rfl⟩
      · rw [zs_nec (show 67 + 2 * s ≠ 90 by omega), show 67 + 2 * s = 66 + 2 * s + 1 by omega, zs_ne (fun z => e z.2), zs_ne (fun z => by omega), zs_nec (show 90 ≠ 66 + 2 * s + 1 by omega), show 66 + 2 * s + 1 = 67 + 2 * s by omega]
        exact r6 j hj
/-- the pane or nothing that a shelf shows -/
theorem sim_show (a1 a2 : Int32) : Sim M_X6_show 2 M_X7_show 3 [vI a1, vI a2] := by
  rintro l g I L ⟨n, m, h⟩
  obtain ⟨hW, hN, hn, hm, e2, e2', e3, e3', e4, e5, e6, hf⟩ := Rn_wx h
  refine m_X6_show ?_
  rcases shelf_cases a1 with ⟨c1, c2⟩ | ⟨s, hs, rfl, c1, c2⟩
  · rw [if_pos c1]
    exact both_no (k := 1) (by decide) rfl h (fun Q hq => m_X7_show (by rw [if_pos c2]; exact hq))
  rw [if_neg (by rw [c1]; omega), c1]
  have fin : ∀ v : Int32, (v = -1 ∨ ∃ q, q < m ∧ v = nI q) → Rn (zs (zs (zs (zs I (66 + 2 * s) 4 0) (66 + 2 * s) 2 0) (66 + 2 * s) 3 v) 88 s v) L n m := by
    intro v hv
    refine Rn_shelf hs h (fun a b1 b2 b3 => by rw [zs_nec b2, zs_nec b1, zs_nec b1, zs_nec b1]) (fun j hj => by rw [zs_ne (fun z => hj z.2), zs_nec (by omega), zs_nec (by omega), zs_nec (by omega)]) (fun j hj => by rw [zs_nec (by omega), zs_nec (by omega), zs_nec (by omega), zs_nec (by omega)]) (fun _ _ _ => rfl) (fun _ _ => rfl) (Or.inr ?_)
    rw [zs_same, zs_nec (show 66 + 2 * s ≠ 88 by omega), zs_same, zs_ne (M := zs (zs I (66 + 2 * s) 4 0) (66 + 2 * s) 2 0) (fun z => by omega), zs_ne (M := zs I (66 + 2 * s) 4 0) (fun z => by omega), zs_same, zs_ne (M := zs (zs I (66 + 2 * s) 4 0) (66 + 2 * s) 2 0) (fun z => by omega), zs_same]
    exact ⟨rfl, rfl, rfl, hv⟩
  by_cases d : a2 = -1
  · subst d
    rw [if_pos rfl, if_pos rfl]
    refine m_X3_takeNothing (zshS s hs) ?_
    rintro I1 rfl I2 rfl
    refine ⟨rfl, _, rfl, m_X7_show ?_⟩
    rw [if_neg (ne0 c2), if_pos rfl, zcl (by omega)]
    rintro I4 rfl
    exact ⟨_, rfl, rfl, n, m, fin (-1) (Or.inl rfl)⟩
  · rw [if_neg d]
    rcases pane_cases hm e3 e3' a2 with ⟨b1, b2⟩ | ⟨i, hi, rfl, b1, b2⟩
    · rw [if_pos b1]
      exact both_no (k := 1) (by decide) rfl h (fun Q hq => m_X7_show (by rw [if_neg (ne0 c2), if_neg d, if_pos (show v_X7_isPane (rf1 I 1) a2 = 0 from b2)]; exact hq))
    · rw [if_neg (by rw [b1]; omega), if_neg d]
      refine m_X3_takePane (zshS s hs) ?_
      rintro I1 rfl I2 rfl
      refine ⟨rfl, _, rfl, m_X7_show ?_⟩
      rw [if_neg (ne0 c2), if_neg d, if_neg (by rw [tP (by rw [zs_nec (by omega), zs_nec (by omega), zs_nec (by omega)])]; exact ne0 b2), zcl (by omega), if_neg d]
      rintro I4 rfl
      exact ⟨_, rfl, rfl, n, m, fin (nI i) (Or.inr ⟨i, hi, rfl⟩)⟩
theorem sim_says (a1 a2 : Int32) : Sim M_X6_says 5 M_X7_says 3 [vI a1, vI a2] := by
  rintro l g I L ⟨n, m, h⟩
  obtain ⟨hW, hN, hn, hm, e2, e2', e3, e3', e4, e5, e6, hf⟩ := Rn_wx h
  refine m_X6_says ?_
  rcases shelf_cases a1 with ⟨c1, c2⟩ | ⟨s, hs, rfl, c1, c2⟩
  · rw [if_pos c1]
    exact both_no (k := 1) (by decide) rfl h (fun Q hq => m_X7_says (by rw [if_pos c2]; exact hq))
  rw [if_neg (by rw [c1]; omega), c1]
  rcases kind_cases a2 with ⟨d1, d2⟩ | ⟨hz, d1, d2⟩
  · rw [if_pos d1]
    exact both_no (k := 1) (by decide) rfl h (fun Q hq => m_X7_says (by rw [if_neg (ne0 c2), if_pos d2]; exact hq))
  rw [if_neg (ne0 d1)]
  obtain ⟨q1, q2⟩ := isRow_1 hs hm (h.2.2.1 s hs)
  have s8 : (nI s).toNatClampNeg = s := zcl (by omega)
  by_cases hr : I (66 + 2 * s) 4 = 1
  · obtain ⟨r1, r2, -⟩ := Rn_row h hs hr
    refine ⟨Or.inr hr, ?_⟩
    rw [if_neg (show ¬ v_X3_hasRow I (66 + 2 * s) = 0 from ne0 hr)]
    refine both_no (k := 2) (by decide) rfl h (fun Q hq => m_X7_says ?_)
    rw [if_neg (ne0 c2), if_neg (ne0 d2), s8, show rf1 I 2 88 s = 100 + I (66 + 2 * s) 1 from r2, if_neg (hundred r1).1]
    exact ⟨q1, by rw [if_neg (show ¬ v_X7_isRow (rf1 I 2) (nI s) = 0 from by rw [show v_X7_isRow (rf1 I 2) (nI s) = I (66 + 2 * s) 4 from q2]; exact ne0 hr)]; exact hq⟩
  obtain ⟨r1, r2, r3⟩ := Rn_norow h hs hr
  refine ⟨Or.inl r1, ?_⟩
  rw [if_pos (show v_X3_hasRow I (66 + 2 * s) = 0 from r1)]
  rcases r3 with e | ⟨q, hq, e⟩
  · rw [if_pos (show v_X3_hasPane I (66 + 2 * s) = 0 from by unfold v_X3_hasPane; rw [if_pos r1, if_pos e])]
    refine both_no (k := 3) (by decide) rfl h (fun Q hq => m_X7_says ?_)
    rw [if_neg (ne0 c2), if_neg (ne0 d2), s8, show rf1 I 3 88 s = -1 from r2.trans e, if_pos (by decide), if_pos (by decide)]
    exact hq
  · rw [if_neg (show ¬ v_X3_hasPane I (66 + 2 * s) = 0 from by unfold v_X3_hasPane; rw [if_pos r1, e, if_neg (fun e1 => n_neg (a := -1) (by decide) q (by omega) e1.symm)]; decide), e, paneAt_in hm e3 hq, if_neg (by omega)]
    obtain ⟨⟨i8, z0, z1, z2⟩, p0, p1, p2, p3, p4, p5, p6⟩ := Rn_pane h hq
    have q8 : (nI q).toNatClampNeg = q := zcl (by omega)
    have hof : v_X1_isOf I (5 + 2 * q) a2 = ofl 7 (I 92 q) a2 := by unfold v_X1_isOf; rw [p0]
    have e88 : I 88 s = nI q := r2.trans e
    have q2' : v_X7_isRow I (nI s) = 0 := q2.trans r1
    rw [hof]
    by_cases hu : ofl 7 (I 92 q) a2 = 0
    · rw [if_pos hu]
      refine both_no (k := 2) (by decide) rfl h (fun Q hq => m_X7_says ?_)
      rw [if_neg (ne0 c2), if_neg (ne0 d2), s8, show rf1 I 2 88 s = nI q from e88, if_neg (nI_pos (by omega))]
      refine ⟨q1, ?_⟩
      rw [if_pos (show v_X7_isRow (rf1 I 2) (nI s) = 0 from q2'), q8]
      exact ⟨zvin i8 (by decide), ⟨z0, hz⟩, by rw [if_pos (show v_X7_isUnder (rf1 I 2 92 q) a2 = 0 from hu)]; exact hq⟩
    · rw [if_neg hu]
      have hs0 := cls_sharp h hq
      have hme : v_X7_melts I (nI q) 23 = fMe (I 92 q) (I 93 q) (I 94 q) 23 (I 87 14) := by
        rw [m_me (by rw [q8]; exact z0), q8]
      refine m_X6_saidAs ?_
      have key : ∀ v : Int32, (Call l g 3 M_X7_says [vR 87, vI (nI s), vI a2] I L (zi fun r2 I2 L2 => v = r2 ∧ R I2 L2)) → zsh (5 + 2 * q) = (11, 6) ∧ zi (fun r11 I11 L11 => SimQ l g M_X7_says 3 [vR 87, vI (nI s), vI a2] (some (vI r11)) I11 L11) (some (vI v)) I L := fun v hv => ⟨zshP q i8, _, rfl, _, rfl, hv⟩
      have tree : ∀ v : Int32, ((if a2 = 0 then v_X7_sharp I (nI q) else if a2 = 1 then I 94 q else if a2 = 2 then jmax 0 (I 87 12 - I 94 q) else if a2 = 3 then I 93 q else if a2 = 4 then v_X7_melts I (nI q) 23 else if a2 = 5 then jrem (I 94 q) 4 else I 93 q) = v) → Call l g 3 M_X7_says [vR 87, vI (nI s), vI a2] I L (zi fun r2 I2 L2 => v = r2 ∧ R I2 L2) := by
        intro v hv
        refine m_X7_says ?_
        rw [if_neg (ne0 c2), if_neg (ne0 d2), s8, e88, if_neg (nI_pos (by omega))]
        refine ⟨q1, ?_⟩
        rw [if_pos q2', q8]
        refine ⟨zvin i8 (by decide), ⟨z0, hz⟩, ?_⟩
        rw [if_neg (show ¬ v_X7_isUnder (I 92 q) a2 = 0 from hu), if_neg (nI_pos (by omega))]
        have done : ∀ w : Int32, w = v → zi (fun r2 I2 L2 => v = r2 ∧ R I2 L2) (some (vI w)) I L := fun w hw => ⟨_, rfl, hw.symm, n, m, h⟩
        rcases k7 hz with ek | ek | ek | ek | ek | ek | ek <;> subst ek
        · exact ⟨hs0.2, done _ hv⟩
        · exact done _ hv
        · exact done _ hv
        · exact done _ hv
        · exact ⟨zvin i8 (by decide), done _ hv⟩
        · exact done _ hv
        · exact done _ hv
      rcases k7 hz with ek | ek | ek | ek | ek | ek | ek <;> subst ek
      · exact key _ (tree _ hs0.1.symm)
      · exact key _ (tree _ p2.symm)
      · refine key _ (tree _ ?_)
        show jmax 0 (I 87 12 - I 94 q) = v_X1_countedCold I (5 + 2 * q) (I 2 4)
        rw [c_cc, p0, p2, e4, jmax0]
        unfold fCC
        rw [if_neg (show ¬ ofl 7 (I 92 q) 2 = 0 from hu)]
      · exact key _ (tree _ p1.symm)
      · refine key _ (tree _ ?_)
        show v_X7_melts I (nI q) 23 = v_X1_melting I (5 + 2 * q) 23 (I 2 6)
        rw [c_me, hme, p0, p1, p2, e6]
      · refine key _ (tree _ ?_)
        show jrem (I 94 q) 4 = v_X1_laceRow I (5 + 2 * q)
        unfold v_X1_laceRow
        rw [p2]
      · exact key _ (tree _ p1.symm)
