/-! THE LAW'S MIDDLE: ice hour by hour, what lasts; what is asked and refused changes nothing -/
def LC (I V : zI) (n m : Nat) : Prop := RC I V n m ∧ KP I V n m ∧ I 2 9 = 1
theorem LC_gl {I I' V : zI} {n m : Nat} (g : Gf I I') (h : LC I V n m) : LC I' V n m := ⟨RC_gl g h.1, KP_fs (FS.gl g) h.2.1, by rw [g.lo (by decide)]; exact h.2.2⟩
theorem LC_rf {I V : zI} {n m k : Nat} (h : LC I V n m) : LC (rf1 I k) V n m := ⟨RC_rf h.1, KP_fs FS_rf1 h.2.1, by rw [rf1_ne (by decide)]; exact h.2.2⟩
section ZLB
variable {g : zG} {V : zI} {L : zL} {n m p q j t : Nat} {k : zK} {T : Int64} {x : Int32}
/-- the hours of a cell -/
theorem law_413 (hb : gb g = true) (X : zX k g cL_law RL 13 (some .boolean) 11) (E : zEl k g) (hp : p < m) (hx : okN n x) (hq : q < 16) (nx : ∀ I : zI, LC I V n m → AW k g 13 I L 355 [(0, vR 3000), (1, vR 1), (3, vI (nI n)), (4, vI (nI m)), (5, vL T), (7, vI (nI p)), (8, vI x), (9, vI (nI (q + 4)))] []) (I : zI) (hC : LC I V n m) : AW k g 13 I L 413 [(0, vR 3000), (1, vR 1), (3, vI (nI n)), (4, vI (nI m)), (5, vL T), (7, vI (nI p)), (8, vI x), (9, vI (nI q)), (10, vI (obI V p x 0 q)), (11, vI 1)] [] := by
  refine zdown (N := 24) (P := fun t => ∀ I : zI, LC I V n m → AW k g 13 I L 413 [(0, vR 3000), (1, vR 1), (3, vI (nI n)), (4, vI (nI m)), (5, vL T), (7, vI (nI p)), (8, vI x), (9, vI (nI q)), (10, vI (obI V p x t q)), (11, vI (nI (t + 1)))] []) (fun I hC => ?_) (fun t ht ih I hC => ?_) (c := 0) (by omega) I hC
  · refine s_L_law_413 hb X E ?_
    rw [if_neg (show ¬ nI (24 + 1) < 25 by decide), show nI q + 4 = nI (q + 4) from nI_add q 4]
    exact nx I hC
  · obtain ⟨v, hv, ev⟩ := obI_z hC.1 hp t x q hq
    obtain ⟨b, hb30, eb⟩ := mev_z hC.1 hp t
    obtain ⟨w, ew, w1, w2, w3⟩ := mel_step (m := mev V p t) hq eb hb30 ev hv (obI_z hC.1 hp t x)
    have ew' : obI V p x (t + 1) q = nI w := (obI_s V p x t q).trans ew
    refine s_L_law_413 hb X E ?_
    rw [if_pos (n25 (show t + 1 < 25 by omega)), ev]
    refine q_ice hC.1 hp hx (show t + 1 ≤ 24 by omega) hq (fun I2 g2 => ⟨_, rfl, ?_⟩)
    have h2 := LC_gl g2 hC
    dsimp only
    rw [ew', if_neg (nI_pos (by omega)), if_neg (nI_nlt w1 (by omega)), nI_m1]
    have bits := obS_bit V p x (t + 1) hq
    rw [ew'] at bits
    have n521 : ∀ I : zI, LC I V n m → AW k g 13 I L 521 [(0, vR 3000), (1, vR 1), (3, vI (nI n)), (4, vI (nI m)), (5, vL T), (7, vI (nI p)), (8, vI x), (9, vI (nI q)), (11, vI (nI (t + 1))), (12, vI (nI w))] [] := fun I hC => by
      refine s_L_law_521 hb X E ?_
      refine q_shape hC.1 hp hx (show t + 1 ≤ 24 by omega) (fun I1 g1 => ⟨_, rfl, ?_⟩)
      dsimp only
      rw [bits, if_pos rfl, ← nI_succ]
      have := ih I1 (LC_gl g1 hC)
      rw [ew'] at this
      exact this
    have n476 : ∀ I : zI, LC I V n m → AW k g 13 I L 476 [(0, vR 3000), (1, vR 1), (3, vI (nI n)), (4, vI (nI m)), (5, vL T), (7, vI (nI p)), (8, vI x), (9, vI (nI q)), (10, vI (nI v)), (11, vI (nI (t + 1))), (12, vI (nI w))] [] := fun I hC => by
      refine s_L_law_476 hb X E ?_
      rw [nI_m1]
      refine q_melt hC.1 hp (show t < 24 by omega) ⟨_, rfl, ?_⟩
      dsimp only
      have c1 : ¬ mev V p t + 1 < nI v - nI w := by
        rw [eb, ← nI_succ, i_lt, n_toInt (by omega), n_sub (by omega) (by omega)]
        omega
      rw [if_neg c1]
      refine q_melt hC.1 hp (show t < 24 by omega) ⟨_, rfl, ?_⟩
      dsimp only
      rw [eb]
      by_cases hb0 : 0 < b
      · rw [if_pos (show 0 < nI b from (nI_lt hb0 (by omega) : nI 0 < nI b))]
        by_cases e : w = v
        · have hv0 : ¬ 0 < v := fun h => by have := w3 hb0 h; omega
          rw [if_pos (by rw [e]), if_neg (show ¬ 0 < nI v from (nI_nlt (by omega) (by omega) : ¬ nI 0 < nI v))]
          exact n521 I hC
        · rw [if_neg (fun h => e ((n_eq (by omega) (by omega)).mp h))]
          exact n521 I hC
      · rw [if_neg (show ¬ 0 < nI b from (nI_nlt (by omega) (by omega) : ¬ nI 0 < nI b))]
        exact n521 I hC
    by_cases hv0 : 0 < v
    · rw [if_pos (show 0 < nI v from (nI_lt hv0 (by omega) : nI 0 < nI v))]
      refine q_melt h2.1 hp (show t < 24 by omega) ⟨_, rfl, ?_⟩
      dsimp only
      have c1 : ¬ nI w < nI v - mev V p t - 1 := by
        have e1 : (nI v - nI b).toInt = (v : Int) - b := n_sub (by omega) (by omega)
        have e2 : (nI v - nI b - 1).toInt = (v : Int) - b - 1 := by
          rw [fb_subI (by rw [e1, show (1 : Int32).toInt = 1 from rfl]; omega) (by rw [e1, show (1 : Int32).toInt = 1 from rfl]; omega), e1]
          rfl
        rw [eb, i_lt, n_toInt (by omega), e2]
        omega
      rw [if_neg c1]
      exact n476 I2 h2
    · rw [if_neg (show ¬ 0 < nI v from (nI_nlt (by omega) (by omega) : ¬ nI 0 < nI v))]
      exact n476 I2 h2
/-- what lasts is read at all hours ahead -/
theorem law_588 (hb : gb g = true) (X : zX k g cL_law RL 13 (some .boolean) 11) (E : zEl k g) (hn : n ≤ 8) (hp : p < m) (hj : j < n) (nx : ∀ I : zI, LC I V n m → AW k g 13 I L 314 [(0, vR 3000), (1, vR 1), (3, vI (nI n)), (4, vI (nI m)), (5, vL T), (7, vI (nI (p + 1)))] []) (I : zI) (hC : LC I V n m) : AW k g 13 I L 588 [(0, vR 3000), (1, vR 1), (3, vI (nI n)), (4, vI (nI m)), (5, vL T), (7, vI (nI p)), (8, vI (nI j)), (9, vI (nI (fst0 (ob V p (nI j)) (nI j) 25 0) - 1)), (10, vI 0)] [] := by
  have hl := (fst0_le (ob V p (nI j)) (nI j) 25 0).1
  have hin := fst0_in (ob V p (nI j)) (nI j) 25 0
  have hend := fst0_end (ob V p (nI j)) (nI j) 25 0
  generalize fst0 (ob V p (nI j)) (nI j) 25 0 = z at hl hin hend ⊢
  have ez : (nI z - 1).toInt = (z : Int) - 1 := n_sub (a := z) (b := 1) (by omega) (by decide)
  have hok : okN n (nI j) := Or.inr ⟨j, hj, rfl⟩
  refine zdown (N := z) (P := fun h => ∀ I : zI, LC I V n m → AW k g 13 I L 588 [(0, vR 3000), (1, vR 1), (3, vI (nI n)), (4, vI (nI m)), (5, vL T), (7, vI (nI p)), (8, vI (nI j)), (9, vI (nI z - 1)), (10, vI (nI h))] []) (fun I hC => ?_) (fun h hh ih I hC => ?_) (c := 0) (by omega) I hC
  · refine s_L_law_588 hb X E ?_
    rw [if_pos (show nI z - 1 < nI z from by rw [i_lt, ez, n_toInt (by omega)]; omega)]
    have bec : ∀ I : zI, LC I V n m → Call (kl k) g 6 M_X6_becomes [vR 1, vI (nI j)] I L (zi fun r3 I3 L3 => if ((jshr r3 (nI j)) &&& 1) = 1 then (0 = (1 : Int32)) else (AW k g 13 I3 L3 314 [(0, vR 3000), (1, vR 1), (3, vI (nI n)), (4, vI (nI m)), (5, vL T), (7, vI (nI p + 1))] [])) := fun I hC => by
      refine q_becomes hC.1 hj (fun I2 g2 => ⟨_, rfl, ?_⟩)
      dsimp only
      rw [if_neg (bec_bit (by omega)), ← nI_succ]
      exact nx I2 (LC_gl g2 hC)
    by_cases h25 : z < 25
    · rw [if_pos (show nI z - 1 < 24 from by rw [i_lt, ez, show (24 : Int32).toInt = 24 from rfl]; omega), show nI z - 1 + 1 = nI z from Int32.sub_add_cancel (nI z) 1]
      refine q_readsAs hC.1 hp hok (show z ≤ 24 by omega) (fun I2 g2 => ⟨_, rfl, ?_⟩)
      dsimp only
      rw [if_neg (hend (by omega))]
      exact bec I2 (LC_gl g2 hC)
    · rw [if_neg (show ¬ nI z - 1 < 24 from by rw [i_lt, ez, show (24 : Int32).toInt = 24 from rfl]; omega)]
      exact bec I hC
  · refine s_L_law_588 hb X E ?_
    rw [if_neg (show ¬ nI z - 1 < nI h from by rw [i_lt, ez, n_toInt (by omega)]; omega)]
    refine q_readsAs hC.1 hp hok (show h ≤ 24 by omega) (fun I2 g2 => ⟨_, rfl, ?_⟩)
    have h2 := LC_gl g2 hC
    dsimp only
    rw [hin h (by omega) hh, if_pos rfl]
    refine q_shape h2.1 hp hok (show h ≤ 24 by omega) (fun I3 g3 => ⟨_, rfl, ?_⟩)
    have h3 := LC_gl g3 h2
    refine q_could h3.1 hp (obS_z V p (nI j) h) (show h ≤ 24 by omega) (fun I4 g4 => ⟨_, rfl, ?_⟩)
    dsimp only
    rw [if_neg (cdv_bit hn hj), ← nI_succ]
    exact ih I4 (LC_gl g4 h3)
/-- pane by pane -/
theorem law_314 (hb : gb g = true) (X : zX k g cL_law RL 13 (some .boolean) 11) (E : zEl k g) (hn : n ≤ 8) (hm : m ≤ 8) (hT : T = TT V n m) (I : zI) (hC : LC I V n m) : AW k g 13 I L 314 [(0, vR 3000), (1, vR 1), (3, vI (nI n)), (4, vI (nI m)), (5, vL T), (7, vI 0)] [] := by
  refine zdown (N := m) (P := fun c => ∀ I : zI, LC I V n m → AW k g 13 I L 314 [(0, vR 3000), (1, vR 1), (3, vI (nI n)), (4, vI (nI m)), (5, vL T), (7, vI (nI c))] []) (fun I hC => ?_) (fun p hp ih I hC => ?_) (c := 0) (by omega) I hC
  · refine s_L_law_314 hb X E ?_
    rw [if_neg (nI_nlt (Nat.le_refl _) (by omega))]
    exact law_694 hb X E hn hm hT I (VS_of hC.1) hC.2.1 hC.2.2
  · refine s_L_law_314 hb X E ?_
    rw [if_pos (nI_lt hp (by omega))]
    obtain ⟨ho, h0⟩ := some_m1 (jshr (v_L_at g 19) (nI p)) hn
    obtain ⟨q0, hq0, eq⟩ := some_in (jshr (v_L_at g 20) (nI p)) (d := 4) (by decide) (by decide)
    have eq' : v_L_some (jshr (v_L_at g 20) (nI p)) 4 = nI q0 := eq
    rw [eq']
    refine ⟨h0, ?_⟩
    generalize v_L_some (jshr (v_L_at g 19) (nI p)) (nI n + 1) - 1 = x at ho ⊢
    refine zdown (N := 4) (P := fun t => ∀ I : zI, LC I V n m → AW k g 13 I L 355 [(0, vR 3000), (1, vR 1), (3, vI (nI n)), (4, vI (nI m)), (5, vL T), (7, vI (nI p)), (8, vI x), (9, vI (nI (q0 + 4 * t)))] []) (fun I hC => ?_) (fun t ht ih2 I hC => ?_) (c := 0) (by omega) I hC
    · refine s_L_law_355 hb X E ?_
      rw [if_neg (show ¬ nI (q0 + 4 * 4) < 16 from (nI_nlt (by omega) (by omega) : ¬ nI (q0 + 4 * 4) < nI 16))]
      rcases ho with rfl | ⟨j, hj, rfl⟩
      · rw [if_pos (by decide), ← nI_succ]
        exact ih I hC
      · rw [if_neg (nI_pos (by omega))]
        exact q_lasts hC.1 hp hj (fun I2 g2 => ⟨_, rfl, law_588 hb X E hn hp hj ih I2 (LC_gl g2 hC)⟩)
    · refine s_L_law_355 hb X E ?_
      have hq : q0 + 4 * t < 16 := by omega
      rw [if_pos (n16 hq)]
      refine q_ice (j := 0) hC.1 hp ho (by decide) hq (fun I2 g2 => ⟨_, rfl, ?_⟩)
      have h2 := LC_gl g2 hC
      obtain z20 := obI_z hC.1 hp 0 x (q0 + 4 * t) hq
      dsimp only
      rw [if_neg (zle_ge z20 (by decide)), if_neg (show ¬ 20 < obI V p x 0 (q0 + 4 * t) from zle_gt z20 (Nat.le_refl _) (by decide))]
      refine q_paneOf (j := 4) h2.1 hp (by decide) ⟨_, rfl, ?_⟩
      dsimp only
      have nx : ∀ I : zI, LC I V n m → AW k g 13 I L 413 [(0, vR 3000), (1, vR 1), (3, vI (nI n)), (4, vI (nI m)), (5, vL T), (7, vI (nI p)), (8, vI x), (9, vI (nI (q0 + 4 * t))), (10, vI (obI V p x 0 (q0 + 4 * t))), (11, vI 1)] [] := law_413 hb X E hp ho hq (fun I hC => by
        rw [show q0 + 4 * t + 4 = q0 + 4 * (t + 1) by omega]
        exact ih2 I hC)
      by_cases hbit : (jshr (pov V p 4) (nI (q0 + 4 * t))) &&& 1 = 1
      · rw [if_pos hbit, if_neg (show ¬ 0 < obI V p x 0 (q0 + 4 * t) from by rw [obI_scr hq hbit]; decide)]
        exact nx I2 h2
      · rw [if_neg hbit]
        exact nx I2 h2
/-- what all asking tells; the image; what is refused -/
theorem law_117 (hb : gb g = true) (X : zX k g cL_law RL 13 (some .boolean) 11) (E : zEl k g) (hn : n ≤ 8) (hm : m ≤ 8) (I : zI) (hV : VS I n m) (hN : shN I) (hs : I 2 9 = 1) : AW k g 13 I L 117 [(0, vR 3000), (1, vR 1), (3, vI (nI n)), (4, vI (nI m))] [] := by
  have hR := RC_snp hV
  generalize snp I = V at hR
  refine s_L_law_117 hb X E ?_
  refine q_told hR (fun I1 g1 => ⟨_, rfl, ?_⟩)
  have R1 := RC_gl g1 hR
  refine q_told R1 (fun I2 g2 => ⟨_, rfl, ?_⟩)
  have R2 := RC_gl g2 R1
  have g12 := g1.t g2
  dsimp only
  rw [lcmp_self, if_pos rfl]
  refine u_image R2 (fun I3 f3 v3 o3 => ⟨_, rfl, ?_⟩)
  dsimp only
  rw [if_pos rfl]
  have C3 : LC I3 V n m := ⟨RV_cong (fun a h1 h2 => f3 a (by omega) (by omega)) R2, ⟨o3, v3, shN_to (fun s hs => (f3 _ (by omega) (by omega)).trans (g12.hi (by omega))) hN⟩, by rw [f3 2 (by decide) (by omega), g12.lo (by decide)]; exact hs⟩
  refine q_told C3.1 (fun I4 g4 => ⟨_, rfl, ?_⟩)
  have C4 := LC_gl g4 C3
  dsimp only
  rw [lcmp_self, if_pos rfl]
  refine x_form_bad ⟨_, rfl, ?_⟩
  have C5 := LC_rf (k := 6) C4
  generalize rf1 I4 6 = I5 at C5 ⊢
  dsimp only
  rw [if_pos rfl]
  refine x_pane_kind ⟨_, rfl, ?_⟩
  have C6 := LC_rf (k := 1) C5
  generalize rf1 I5 1 = I6 at C6 ⊢
  dsimp only
  rw [if_pos rfl]
  refine x_pane_room ⟨_, rfl, ?_⟩
  have C7 := LC_rf (k := 6) C6
  generalize rf1 I6 6 = I7 at C7 ⊢
  dsimp only
  rw [if_pos rfl]
  refine x_hang (VS_of C7.1) ⟨_, rfl, ?_⟩
  have C8 := LC_rf (k := 1) C7
  generalize rf1 I7 1 = I8 at C8 ⊢
  dsimp only
  rw [if_pos rfl]
  refine x_ask ⟨_, rfl, ?_⟩
  have C9 := LC_rf (k := 6) C8
  generalize rf1 I8 6 = I9 at C9 ⊢
  dsimp only
  rw [if_pos rfl]
  refine x_room ⟨_, rfl, ?_⟩
  have C10 := LC_rf (k := 1) C9
  generalize rf1 I9 1 = I10 at C10 ⊢
  dsimp only
  rw [if_pos rfl]
  refine x_press (C10.2.1.2.2 0 (by decide)).1 (C10.2.1.2.2 0 (by decide)).2 ⟨_, rfl, ?_⟩
  have C11 := LC_rf (k := 3) C10
  generalize rf1 I10 3 = I11 at C11 ⊢
  dsimp only
  rw [if_pos rfl]
  refine x_hours ⟨_, rfl, ?_⟩
  have C12 := LC_rf (k := 6) C11
  generalize rf1 I11 6 = I12 at C12 ⊢
  dsimp only
  rw [if_pos rfl]
  refine x_breath (VS_of C12.1) ⟨_, rfl, ?_⟩
  have C13 := LC_rf (k := 1) C12
  generalize rf1 I12 1 = I13 at C13 ⊢
  dsimp only
  rw [if_pos rfl]
  refine x_scratch ⟨_, rfl, ?_⟩
  have C14 := LC_rf (k := 1) C13
  generalize rf1 I13 1 = I14 at C14 ⊢
  dsimp only
  rw [if_pos rfl]
  refine x_winter ⟨_, rfl, ?_⟩
  have C15 := LC_rf (k := 6) C14
  generalize rf1 I14 6 = I15 at C15 ⊢
  dsimp only
  rw [if_pos rfl]
  refine x_row ⟨_, rfl, ?_⟩
  have C16 := LC_rf (k := 6) C15
  generalize rf1 I15 6 = I16 at C16 ⊢
  dsimp only
  rw [if_pos rfl]
  refine x_show (VS_of C16.1) ⟨_, rfl, ?_⟩
  have C17 := LC_rf (k := 1) C16
  generalize rf1 I16 1 = I17 at C17 ⊢
  dsimp only
  rw [if_pos rfl]
  refine q_told C17.1 (fun I18 g18 => ⟨_, rfl, ?_⟩)
  dsimp only
  rw [lcmp_self, if_pos rfl]
  exact law_314 hb X E hn hm rfl I18 (LC_gl g18 C17)
/-- from the world on -/
theorem law_43 (hb : gb g = true) (X : zX k g cL_law RL 13 (some .boolean) 11) (E : zEl k g) (I : zI) (hV : VS I 0 0) (hN : shN I) (hs : I 2 9 = 1) : AW k g 13 I L 43 [(0, vR 3000), (1, vR 1), (2, vR 87)] [] := by
  obtain ⟨n, hn, en⟩ := some_in (v_L_at g 0) (d := 9) (by decide) (by decide)
  obtain ⟨m, hm, em⟩ := some_in (jshr (v_L_at g 0) 4) (d := 9) (by decide) (by decide)
  refine s_L_law_43 hb X E ?_
  refine q_world (n := n) (m := m) hb hV en (by omega) em (by omega) (fun A w => ⟨rfl, ?_⟩)
  obtain ⟨w1, w2, w3, w4, w5⟩ := w
  have sA : shN A := shN_to (fun s hs => w1 _ (by omega) (by omega) (by unfold gl; omega) (by omega)) hN
  try dsimp only
  rw [w4, w5]
  refine u_night w3 (fun r I2 u2 => ⟨_, rfl, ?_⟩)
  have s2 : shN I2 := shN_to (fun s hs => u2.1 _ (by omega) (by omega) (by unfold gl; omega)) sA
  obtain ⟨t, ht, et⟩ := some_in (v_L_at g 17) (d := 9) (by decide) (by decide)
  have et' : v_L_some (v_L_at g 17) 9 = nI t := et
  rw [et', show (1 : Int32) + nI t = nI (1 + t) from nI_add 1 t]
  refine u_hours u2.2.2 (show 1 ≤ 1 + t by omega) (by omega) (fun r I3 u3 => ⟨_, rfl, ?_⟩)
  have s3 : shN I3 := shN_to (fun s hs => u3.1 _ (by omega) (by omega) (by unfold gl; omega)) s2
  have d3 : I3 2 9 = 1 := by rw [u3.2.1, u2.2.1, w2]; exact hs
  dsimp only
  by_cases h0 : 0 < m
  · rw [if_pos (show 0 < nI m from (nI_lt h0 (by omega) : nI 0 < nI m))]
    obtain ⟨a, ha, ea⟩ := some_in (v_L_at g 18) (d := m) h0 (by omega)
    obtain ⟨b, hb16, eb⟩ := some_in (jshr (v_L_at g 18) 4) (d := 16) (by decide) (by decide)
    have eb' : v_L_some (jshr (v_L_at g 18) 4) 16 = nI b := eb
    rw [ea, eb']
    refine ⟨nI_ne0 h0 (by omega), u_breath u3.2.2 ha hb16 (fun r I4 u4 => ⟨_, rfl, ?_⟩)⟩
    exact law_117 hb X E (by omega) (by omega) I4 u4.2.2 (shN_to (fun s hs => u4.1 _ (by omega) (by omega) (by unfold gl; omega)) s3) (by rw [u4.2.1]; exact d3)
  · rw [if_neg (show ¬ 0 < nI m from (nI_nlt (by omega) (by omega) : ¬ nI 0 < nI m))]
    exact law_117 hb X E (by omega) (by omega) I3 u3.2.2 s3 d3
end ZLB
