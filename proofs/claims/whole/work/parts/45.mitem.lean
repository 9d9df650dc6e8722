/-! PRESSES: the reference's items -/
theorem pN_eta {w : Nat → Int32} {N p : Nat} {most : Int32} (h : (pN w N most p).1 = true) : pN w N most p = (true, (pN w N most p).2.1, (pN w N most p).2.2) := by
  rw [← h]
theorem pN_eta0 {w : Nat → Int32} {N p : Nat} {most : Int32} (h : ¬ (pN w N most p).1 = true) : pN w N most p = (false, (pN w N most p).2.1, (pN w N most p).2.2) := by
  have h' : (pN w N most p).1 = false := by cases hb : (pN w N most p).1; rfl; exact absurd hb h
  rw [← h']
section ZMI
variable {l : Launch} {g : zG} {Q : Option zv → zI → zL → Prop} {I B J : zI} {L : zL} {s N p n m : Nat}
theorem m_formW (hs : s < 8) (hN : N ≤ 160) (e26 : B 87 26 = nI s) (e27 : B 87 27 = nI p) (e89 : B 89 s = nI N) (hp : p ≤ N) (hJ : eqJ B J) (j3 : J 87 3 = nI n) (hn8 : n ≤ 8) (h : ∀ B' : zI, mFR B B' → B' 87 27 = nI (pIt (wdP L s) N J 0 p).2.1 → eqJ B' (pIt (wdP L s) N J 0 p).2.2 → Q (some (vI (if (pIt (wdP L s) N J 0 p).1 = true then 1 else 0))) B' L) : Call l g 9 M_X7_word_ [vR 87, vR (2000 + 0), vI (if (B 87 3) < 8 then 1 else (0 : Int32))] B L (zi fun r11 I11 L11 => if r11 = 0 then (Q (some (vI 0)) I11 L11) else (Call l g 3 M_X7_number [vR 87, vI 0, vI 65535] I11 L11 (zi fun r13 I13 L13 => if r13 = 0 then (Q (some (vI 0)) I13 L13) else ((∀ I15 : zI, I15 = (zs I13 87 3 ((I13 87 3) + 1)) → vp_in (I13 87 3) 8 ∧ (Q (some (vI 1)) (zs I15 91 ((I13 87 3).toNatClampNeg) (I15 103 0)) L13)))))) := by
  have hv : (if (B 87 3) < 8 then 1 else (0 : Int32)) = if roomP J 0 = true then 1 else 0 := by
    unfold roomP
    rw [if_pos rfl, hJ.2 3 (by decide)]
    by_cases c : J 87 3 < 8
    · rw [if_pos c, if_pos (decide_eq_true c)]
    · rw [if_neg c, if_neg (fun e => c (of_decide_eq_true e))]
  rw [pIt_1 rfl] at h
  have hpos := pWf_pos (w := wdP L s) (N := N) (j := 0) (by decide) (lnP 0) 0 p (by omega) hp
  refine m_word_S (rm := roomP J 0) hv (by decide) hs hN e26 e27 e89 hp (fun C c1 c2 c3 => ⟨_, rfl, ?_⟩)
  dsimp only
  obtain ⟨eC, fC⟩ := eqJ_small hJ (fun a ha _ => c1 a ha) c2
  by_cases hw : (pWf (wdP L s) N 0 (lnP 0) 0 p).1 = true
  · rw [if_pos hw] at h c3 ⊢
    by_cases hr : roomP J 0 = true
    · rw [if_pos hr] at h c3 ⊢
      rw [if_neg (by decide)]
      have hlt : n < 8 := by
        unfold roomP at hr
        rw [if_pos rfl, j3] at hr
        exact (n_lt (by omega) (by decide)).mp (of_decide_eq_true hr : nI n < nI 8)
      refine m_numS (i := 0) (by decide) hs hN (by rw [c2 26 (by decide)]; exact e26) c3 (by rw [c1 89 (by decide)]; exact e89) hpos.1 (fun hn D d1 d2 d3 d4 => ⟨_, rfl, ?_⟩) (fun hn D d1 d2 d3 => ⟨_, rfl, ?_⟩)
      · rw [if_pos (show (pN (wdP L s) N (mstP J 0 0) (pWf (wdP L s) N 0 (lnP 0) 0 p).2).1 = true from hn)] at h
        try dsimp only
        rw [if_neg (by decide)]
        rintro I15 rfl
        obtain ⟨eD, fD⟩ := eqJ_small eC d1 d2
        have dj3 : D 87 3 = nI n := (eD.2 3 (by decide)).trans j3
        rw [dj3, zcl (by omega), zs_nec (show 103 ≠ 87 by decide), d4 0, if_pos rfl]
        refine ⟨zvin hlt (by decide), ?_⟩
        refine h _ (fC.t (fD.t ⟨fun a ha hb hc => by rw [zs_nec (by omega), zs_nec ha], by rw [zs_nec (by decide), zs_ne (by omega)]⟩)) (by rw [zs_nec (by decide), zs_ne (by omega)]; exact d3) ?_
        show eqJ _ (uLet J (pN (wdP L s) N 65535 (pWf (wdP L s) N 0 (lnP 0) 0 p).2).2.2)
        unfold uLet
        rw [j3, zcl (by omega)]
        obtain ⟨q1, q2⟩ := eqJ_w (f := 3) (v := nI n + 1) eD
        refine ⟨fun a ha hb x => ?_, fun x hx => by rw [zs_nec (by decide), zs_nec (show 87 ≠ 91 by decide)]; exact q2 x hx⟩
        by_cases e : a = 91
        · subst e
          rw [zs_at, zs_at]
          by_cases e2 : x = n
          · rw [if_pos e2, if_pos e2]
          · rw [if_neg e2, if_neg e2]; exact q1 91 (by decide) (by decide) x
        · rw [zs_nec e, zs_nec e]; exact q1 a ha hb x
      · rw [if_neg (show ¬ (pN (wdP L s) N (mstP J 0 0) (pWf (wdP L s) N 0 (lnP 0) 0 p).2).1 = true from hn)] at h
        try dsimp only
        rw [if_pos rfl]
        obtain ⟨eD, fD⟩ := eqJ_small eC d1 d2
        exact h D (fC.t fD) d3 eD
    · rw [if_neg hr] at h c3 ⊢
      rw [if_pos rfl]
      exact h C fC c3 eC
  · rw [if_neg hw] at h c3 ⊢
    rw [if_pos rfl]
    exact h C fC c3 eC
theorem m_hangW (hs : s < 8) (hN : N ≤ 160) (e26 : B 87 26 = nI s) (e27 : B 87 27 = nI p) (e89 : B 89 s = nI N) (hp : p ≤ N) (hJ : eqJ B J) (j5 : J 87 5 = nI m) (hm8 : m ≤ 8) (h : ∀ B' : zI, mFR B B' → B' 87 27 = nI (pIt (wdP L s) N J 2 p).2.1 → eqJ B' (pIt (wdP L s) N J 2 p).2.2 → Q (some (vI (if (pIt (wdP L s) N J 2 p).1 = true then 1 else 0))) B' L) : Call l g 8 M_X7_word [vR 87, vR (2000 + 2)] B L (zi fun r18 I18 L18 => if r18 = 0 then (Q (some (vI 0)) I18 L18) else (Call l g 3 M_X7_number [vR 87, vI 0, vI ((I18 87 5) - 1)] I18 L18 (zi fun r20 I20 L20 => if r20 = 0 then (Q (some (vI 0)) I20 L20) else (Call l g 3 M_X7_number [vR 87, vI 1, vI ((I20 87 3) - 1)] I20 L20 (zi fun r22 I22 L22 => if r22 = 0 then (Q (some (vI 0)) I22 L22) else (vp_in (I22 103 0) 8 ∧ (Q (some (vI 1)) (zs I22 95 ((I22 103 0).toNatClampNeg) (I22 103 1)) L22))))))) := by
  unfold pIt at h
  rw [if_pos (show roomP J 2 = true from rfl), show cntJ 2 = 2 from rfl] at h
  have hpos := pWf_pos (w := wdP L s) (N := N) (j := 2) (by decide) (lnP 2) 0 p (by omega) hp
  refine m_wordS (by decide) hs hN e26 e27 e89 hp (fun C c1 c2 c3 => ⟨_, rfl, ?_⟩)
  dsimp only
  obtain ⟨eC, fC⟩ := eqJ_small hJ (fun a ha _ => c1 a ha) c2
  by_cases hw : (pWf (wdP L s) N 2 (lnP 2) 0 p).1 = true
  · rw [if_pos hw] at h ⊢
    rw [if_neg (by decide), eC.2 5 (by decide)]
    refine m_numS (i := 0) (by decide) hs hN (by rw [c2 26 (by decide)]; exact e26) c3 (by rw [c1 89 (by decide)]; exact e89) hpos.1 (fun hn D d1 d2 d3 d4 => ⟨_, rfl, ?_⟩) (fun hn D d1 d2 d3 => ⟨_, rfl, ?_⟩)
    · try dsimp only
      rw [if_neg (by decide)]
      obtain ⟨eD, fD⟩ := eqJ_small eC d1 d2
      rw [eD.2 3 (by decide)]
      have hn' : (pN (wdP L s) N (mstP J 2 0) (pWf (wdP L s) N 2 (lnP 2) 0 p).2).1 = true := hn
      obtain ⟨np1, np2⟩ := pN_pos (w := wdP L s) (N := N) (most := J 87 5 - 1) hpos.1
      obtain ⟨np3, u0, hu0, eu0, nu0⟩ := np2 hn
      rw [pNs_t (pN_eta hn')] at h
      refine m_numS (i := 1) (by decide) hs hN (by rw [d2 26 (by decide), c2 26 (by decide)]; exact e26) d3 (by rw [d1 89 (by decide) (by decide), c1 89 (by decide)]; exact e89) np1 (fun hk F f1 f2 f3 f4 => ⟨_, rfl, ?_⟩) (fun hk F f1 f2 f3 => ⟨_, rfl, ?_⟩)
      · have hk' : (pN (wdP L s) N (mstP J 2 1) (pN (wdP L s) N (mstP J 2 0) (pWf (wdP L s) N 2 (lnP 2) 0 p).2).2.1).1 = true := hk
        rw [pNs_t (pN_eta hk')] at h
        try dsimp only
        rw [if_neg (by decide)]
        obtain ⟨eF, fF⟩ := eqJ_small eD f1 f2
        rw [j5] at nu0
        have l0 := lt_of_m1 hm8 hu0 nu0
        have v0 : F 103 0 = (pN (wdP L s) N (J 87 5 - 1) (pWf (wdP L s) N 2 (lnP 2) 0 p).2).2.2 := by rw [f4 0, if_neg (by decide), d4 0, if_pos rfl]
        have v1 : F 103 1 = (pN (wdP L s) N (J 87 3 - 1) (pN (wdP L s) N (J 87 5 - 1) (pWf (wdP L s) N 2 (lnP 2) 0 p).2).2.1).2.2 := by rw [f4 1, if_pos rfl]
        refine ⟨by rw [v0, eu0]; exact zvin (by omega) (by decide), ?_⟩
        have eX : eqJ (zs F 95 (F 103 0).toNatClampNeg (F 103 1)) (zs J 95 (F 103 0).toNatClampNeg (F 103 1)) := ⟨fun a ha hb x => by
          by_cases e : a = 95
          · subst e
            rw [zs_at, zs_at]
            by_cases e2 : x = (F 103 0).toNatClampNeg
            · rw [if_pos e2, if_pos e2]
            · rw [if_neg e2, if_neg e2]; exact eF.1 95 (by decide) (by decide) x
          · rw [zs_nec e, zs_nec e]; exact eF.1 a ha hb x, fun x hx => by rw [zs_nec (by decide), zs_nec (by decide)]; exact eF.2 x hx⟩
        refine h _ (fC.t (fD.t (fF.t ⟨fun a ha hb hc => by rw [zs_nec (by omega)], by rw [zs_nec (by decide)]⟩))) (by rw [zs_nec (by decide)]; exact f3) ?_
        rw [v0, v1] at eX ⊢
        exact eX
      · have hk' : ¬ (pN (wdP L s) N (mstP J 2 1) (pN (wdP L s) N (mstP J 2 0) (pWf (wdP L s) N 2 (lnP 2) 0 p).2).2.1).1 = true := hk
        rw [pNs_f (pN_eta0 hk')] at h
        try dsimp only
        rw [if_pos rfl]
        obtain ⟨eF, fF⟩ := eqJ_small eD f1 f2
        exact h F (fC.t (fD.t fF)) f3 eF
    · have hn' : ¬ (pN (wdP L s) N (mstP J 2 0) (pWf (wdP L s) N 2 (lnP 2) 0 p).2).1 = true := hn
      rw [pNs_f (pN_eta0 hn')] at h
      try dsimp only
      rw [if_pos rfl]
      obtain ⟨eD, fD⟩ := eqJ_small eC d1 d2
      exact h D (fC.t fD) d3 eD
  · rw [if_neg hw] at h ⊢
    rw [if_pos rfl]
    exact h C fC c3 eC
theorem m_paneW (hs : s < 8) (hN : N ≤ 160) (e26 : B 87 26 = nI s) (e27 : B 87 27 = nI p) (e89 : B 89 s = nI N) (hp : p ≤ N) (hJ : eqJ B J) (j5 : J 87 5 = nI m) (hm8 : m ≤ 8) (h : ∀ B' : zI, mFR B B' → B' 87 27 = nI (pIt (wdP L s) N J 1 p).2.1 → eqJ B' (pIt (wdP L s) N J 1 p).2.2 → Q (some (vI (if (pIt (wdP L s) N J 1 p).1 = true then 1 else 0))) B' L) : Call l g 9 M_X7_word_ [vR 87, vR (2000 + 1), vI (if (B 87 5) < 8 then 1 else (0 : Int32))] B L (zi fun r33 I33 L33 => if r33 = 0 then (Q (some (vI 0)) I33 L33) else (Call l g 3 M_X7_number [vR 87, vI 0, vI 6] I33 L33 (zi fun r35 I35 L35 => if r35 = 0 then (Q (some (vI 0)) I35 L35) else (Call l g 3 M_X7_number [vR 87, vI 1, vI 9] I35 L35 (zi fun r37 I37 L37 => if r37 = 0 then (Q (some (vI 0)) I37 L37) else (Call l g 3 M_X7_number [vR 87, vI 2, vI 9] I37 L37 (zi fun r39 I39 L39 => if r39 = 0 then (Q (some (vI 0)) I39 L39) else (Call l g 2 M_X7_pane [vR 87, vI (I39 103 0), vI (I39 103 1), vI (I39 103 2)] I39 L39 (zi fun r41 I41 L41 => Q (some (vI 1)) I41 L41))))))))) := by
  have hv : (if (B 87 5) < 8 then 1 else (0 : Int32)) = if roomP J 1 = true then 1 else 0 := by
    unfold roomP
    rw [if_neg (show ¬ (1 : Nat) = 0 by decide), if_pos rfl, hJ.2 5 (by decide)]
    by_cases c : J 87 5 < 8
    · rw [if_pos c, if_pos (decide_eq_true c)]
    · rw [if_neg c, if_neg (fun e => c (of_decide_eq_true e))]
  unfold pIt at h
  rw [show cntJ 1 = 3 from rfl] at h
  have hpos := pWf_pos (w := wdP L s) (N := N) (j := 1) (by decide) (lnP 1) 0 p (by omega) hp
  refine m_word_S (rm := roomP J 1) hv (by decide) hs hN e26 e27 e89 hp (fun C c1 c2 c3 => ⟨_, rfl, ?_⟩)
  dsimp only
  obtain ⟨eC, fC⟩ := eqJ_small hJ (fun a ha _ => c1 a ha) c2
  by_cases hw : (pWf (wdP L s) N 1 (lnP 1) 0 p).1 = true
  · rw [if_pos hw] at h c3 ⊢
    by_cases hr : roomP J 1 = true
    · rw [if_pos hr] at h c3 ⊢
      rw [if_neg (by decide)]
      have hlt : m < 8 := by
        unfold roomP at hr
        rw [if_neg (by decide), if_pos rfl, j5] at hr
        exact (n_lt (by omega) (by decide)).mp (of_decide_eq_true hr : nI m < nI 8)
      refine m_numS (i := 0) (by decide) hs hN (by rw [c2 26 (by decide)]; exact e26) c3 (by rw [c1 89 (by decide)]; exact e89) hpos.1 (fun hn D d1 d2 d3 d4 => ⟨_, rfl, ?_⟩) (fun hn D d1 d2 d3 => ⟨_, rfl, ?_⟩)
      · try dsimp only
        rw [if_neg (by decide)]
        obtain ⟨eD, fD⟩ := eqJ_small eC d1 d2
        have hn' : (pN (wdP L s) N (mstP J 1 0) (pWf (wdP L s) N 1 (lnP 1) 0 p).2).1 = true := hn
        obtain ⟨np1, np2⟩ := pN_pos (w := wdP L s) (N := N) (most := 6) hpos.1
        obtain ⟨np3, u0, hu0, eu0, nu0⟩ := np2 hn
        rw [pNs_t (pN_eta hn')] at h
        refine m_numS (i := 1) (by decide) hs hN (by rw [d2 26 (by decide), c2 26 (by decide)]; exact e26) d3 (by rw [d1 89 (by decide) (by decide), c1 89 (by decide)]; exact e89) np1 (fun hk F f1 f2 f3 f4 => ⟨_, rfl, ?_⟩) (fun hk F f1 f2 f3 => ⟨_, rfl, ?_⟩)
        · try dsimp only
          rw [if_neg (by decide)]
          obtain ⟨eF, fF⟩ := eqJ_small eD f1 f2
          have hk' : (pN (wdP L s) N (mstP J 1 1) (pN (wdP L s) N (mstP J 1 0) (pWf (wdP L s) N 1 (lnP 1) 0 p).2).2.1).1 = true := hk
          obtain ⟨kp1, kp2⟩ := pN_pos (w := wdP L s) (N := N) (most := 9) np1
          obtain ⟨kp3, u1, hu1, eu1, nu1⟩ := kp2 hk
          rw [pNs_t (pN_eta hk')] at h
          refine m_numS (i := 2) (by decide) hs hN (by rw [f2 26 (by decide), d2 26 (by decide), c2 26 (by decide)]; exact e26) f3 (by rw [f1 89 (by decide) (by decide), d1 89 (by decide) (by decide), c1 89 (by decide)]; exact e89) kp1 (fun hq G g1 g2 g3 g4 => ⟨_, rfl, ?_⟩) (fun hq G g1 g2 g3 => ⟨_, rfl, ?_⟩)
          · try dsimp only
            rw [if_neg (by decide)]
            obtain ⟨eG, fG⟩ := eqJ_small eF g1 g2
            have hq' : (pN (wdP L s) N (mstP J 1 2) (pN (wdP L s) N (mstP J 1 1) (pN (wdP L s) N (mstP J 1 0) (pWf (wdP L s) N 1 (lnP 1) 0 p).2).2.1).2.1).1 = true := hq
            obtain ⟨lp1, lp2⟩ := pN_pos (w := wdP L s) (N := N) (most := 9) kp1
            obtain ⟨lp3, u2, hu2, eu2, nu2⟩ := lp2 hq
            rw [pNs_t (pN_eta hq')] at h
            have v0 : G 103 0 = (pN (wdP L s) N 6 (pWf (wdP L s) N 1 (lnP 1) 0 p).2).2.2 := by rw [g4 0, if_neg (by decide), f4 0, if_neg (by decide), d4 0, if_pos rfl]
            have v1 : G 103 1 = (pN (wdP L s) N 9 (pN (wdP L s) N 6 (pWf (wdP L s) N 1 (lnP 1) 0 p).2).2.1).2.2 := by rw [g4 1, if_neg (by decide), f4 1, if_pos rfl]
            have v2 : G 103 2 = (pN (wdP L s) N 9 (pN (wdP L s) N 9 (pN (wdP L s) N 6 (pWf (wdP L s) N 1 (lnP 1) 0 p).2).2.1).2.1).2.2 := by rw [g4 2, if_pos rfl]
            have z0 : zle 6 (G 103 0) := by rw [v0]; exact zle_of (b := 6) (by decide) hu0 eu0 nu0
            have z1 : zle 9 (G 103 1) := by rw [v1]; exact zle_of (b := 9) (by decide) hu1 eu1 nu1
            have z2 : zle 9 (G 103 2) := by rw [v2]; exact zle_of (b := 9) (by decide) hu2 eu2 nu2
            refine m_pane ((eG.2 5 (by decide)).trans j5) hlt z0 z1 z2 (fun H k1 k2 k3 k4 k5 k6 k7 => ⟨_, rfl, ?_⟩)
            have eX : eqJ H (uPane J (G 103 0) (G 103 1) (G 103 2)) := by
              unfold uPane
              rw [j5, zcl (by omega), ← nI_succ]
              obtain ⟨w0, w1, w2, w3, w4⟩ := k4
              refine ⟨fun a ha hb x => ?_, fun x hx => ?_⟩
              · dsimp only
                have hc : a = 91 ∨ a = 92 ∨ a = 93 ∨ a = 94 ∨ a = 95 ∨ a = 96 ∨ a = 97 := by omega
                rcases hc with rfl | rfl | rfl | rfl | rfl | rfl | rfl
                · rw [if_neg (by omega), if_neg (by omega), if_neg (by omega), if_neg (by omega), if_neg (by omega), if_neg (by omega), if_neg (by omega), k1 91 (by decide) (by decide)]
                  exact eG.1 91 (by decide) (by decide) x
                · rw [if_neg (by omega)]
                  by_cases e : x = m
                  · rw [if_pos ⟨rfl, e⟩, e, w0]
                  · rw [if_neg (fun z => e z.2), if_neg (by omega), if_neg (by omega), if_neg (by omega), if_neg (by omega), if_neg (by omega), (k5 x e).1]
                    exact eG.1 92 (by decide) (by decide) x
                · rw [if_neg (by omega), if_neg (by omega)]
                  by_cases e : x = m
                  · rw [if_pos ⟨rfl, e⟩, e, w1]
                  · rw [if_neg (fun z => e z.2), if_neg (by omega), if_neg (by omega), if_neg (by omega), if_neg (by omega), (k5 x e).2.1]
                    exact eG.1 93 (by decide) (by decide) x
                · rw [if_neg (by omega), if_neg (by omega), if_neg (by omega)]
                  by_cases e : x = m
                  · rw [if_pos ⟨rfl, e⟩, e, w2]
                  · rw [if_neg (fun z => e z.2), if_neg (by omega), if_neg (by omega), if_neg (by omega), (k5 x e).2.2.1]
                    exact eG.1 94 (by decide) (by decide) x
                · rw [if_neg (by omega), if_neg (by omega), if_neg (by omega), if_neg (by omega)]
                  by_cases e : x = m
                  · rw [if_pos ⟨rfl, e⟩, e, w3]
                  · rw [if_neg (fun z => e z.2), if_neg (by omega), if_neg (by omega), (k5 x e).2.2.2.1]
                    exact eG.1 95 (by decide) (by decide) x
                · rw [if_neg (by omega), if_neg (by omega), if_neg (by omega), if_neg (by omega), if_neg (by omega)]
                  by_cases e : x = m
                  · rw [if_pos ⟨rfl, e⟩, e, w4]
                  · rw [if_neg (fun z => e z.2), if_neg (by omega), (k5 x e).2.2.2.2]
                    exact eG.1 96 (by decide) (by decide) x
                · rw [if_neg (by omega), if_neg (by omega), if_neg (by omega), if_neg (by omega), if_neg (by omega), if_neg (by omega)]
                  by_cases e : 16 * m ≤ x ∧ x < 16 * m + 16
                  · rw [if_pos ⟨rfl, e⟩]
                    have := k6 (x - 16 * m) (by omega)
                    rw [show 16 * m + (x - 16 * m) = x by omega] at this
                    exact this
                  · rw [if_neg (fun z => e z.2), k7 x (by omega)]
                    exact eG.1 97 (by decide) (by decide) x
              · dsimp only
                by_cases e : x = 5
                · rw [if_pos ⟨rfl, e⟩, e, k3]
                · rw [if_neg (fun z => e z.2), if_neg (by omega), if_neg (by omega), if_neg (by omega), if_neg (by omega), if_neg (by omega), if_neg (by omega), k2 x e]
                  exact eG.2 x hx
            have fH : mFR G H := ⟨fun a ha hb hc => k1 a ha (by omega), k2 26 (by decide)⟩
            refine h H (fC.t (fD.t (fF.t (fG.t fH)))) (by rw [k2 27 (by decide)]; exact g3) ?_
            rw [v0, v1, v2] at eX
            exact eX
          · have hq' : ¬ (pN (wdP L s) N (mstP J 1 2) (pN (wdP L s) N (mstP J 1 1) (pN (wdP L s) N (mstP J 1 0) (pWf (wdP L s) N 1 (lnP 1) 0 p).2).2.1).2.1).1 = true := hq
            rw [pNs_f (pN_eta0 hq')] at h
            try dsimp only
            rw [if_pos rfl]
            obtain ⟨eG, fG⟩ := eqJ_small eF g1 g2
            exact h G (fC.t (fD.t (fF.t fG))) g3 eG
        · have hk' : ¬ (pN (wdP L s) N (mstP J 1 1) (pN (wdP L s) N (mstP J 1 0) (pWf (wdP L s) N 1 (lnP 1) 0 p).2).2.1).1 = true := hk
          rw [pNs_f (pN_eta0 hk')] at h
          try dsimp only
          rw [if_pos rfl]
          obtain ⟨eF, fF⟩ := eqJ_small eD f1 f2
          exact h F (fC.t (fD.t fF)) f3 eF
      · have hn' : ¬ (pN (wdP L s) N (mstP J 1 0) (pWf (wdP L s) N 1 (lnP 1) 0 p).2).1 = true := hn
        rw [pNs_f (pN_eta0 hn')] at h
        try dsimp only
        rw [if_pos rfl]
        obtain ⟨eD, fD⟩ := eqJ_small eC d1 d2
        exact h D (fC.t fD) d3 eD
    · rw [if_neg hr] at h c3 ⊢
      rw [if_pos rfl]
      exact h C fC c3 eC
  · rw [if_neg hw] at h c3 ⊢
    rw [if_pos rfl]
    exact h C fC c3 eC
theorem m_itemS (hs : s < 8) (hN : N ≤ 160) (e26 : B 87 26 = nI s) (e27 : B 87 27 = nI p) (e89 : B 89 s = nI N) (hp : p ≤ N) (hJ : eqJ B J) (j3 : J 87 3 = nI n) (j5 : J 87 5 = nI m) (hn8 : n ≤ 8) (hm8 : m ≤ 8) (h : ∀ B' : zI, mFR B B' → B' 87 27 = nI (pItem (wdP L s) N J p).2.1 → eqJ B' (pItem (wdP L s) N J p).2.2 → Q (some (vI (if (pItem (wdP L s) N J p).1 = true then 1 else 0))) B' L) : Call l g 10 M_X7_item [vR 87] B L Q := by
  obtain ⟨k1, k2⟩ := m_sgn (L := L) hs hN e26 e27 e89 hp
  refine m_X7_item ⟨k1, ?_⟩
  rw [k2]
  unfold pItem at h
  have red : ∀ x (j : Nat), sgP (wdP L s) N p = x → v_X2_wordFrom x = nI j → j < 6 → (∀ B' : zI, mFR B B' → B' 87 27 = nI (pIt (wdP L s) N J j p).2.1 → eqJ B' (pIt (wdP L s) N J j p).2.2 → Q (some (vI (if (pIt (wdP L s) N J j p).1 = true then 1 else 0))) B' L) := fun x j e1 e2 hj => by
    rw [e1, e2, if_neg (fun e => n_neg (a := -1) (by decide) j (by omega) e.symm), zcl (by omega)] at h
    exact h
  by_cases c1 : sgP (wdP L s) N p = 99
  · rw [if_pos c1]
    exact m_oneW (j := 3) (f := 12) (Or.inl ⟨rfl, rfl⟩) hs hN e26 e27 e89 hp hJ (red 99 3 c1 (by decide) (by decide))
  rw [if_neg c1]
  by_cases c2 : sgP (wdP L s) N p = 102
  · rw [if_pos c2]
    exact m_formW hs hN e26 e27 e89 hp hJ j3 hn8 (red 102 0 c2 (by decide) (by decide))
  rw [if_neg c2]
  by_cases c3 : sgP (wdP L s) N p = 104
  · rw [if_pos c3]
    exact m_hangW hs hN e26 e27 e89 hp hJ j5 hm8 (red 104 2 c3 (by decide) (by decide))
  rw [if_neg c3]
  by_cases c4 : sgP (wdP L s) N p = 111
  · rw [if_pos c4]
    exact m_oneW (j := 5) (f := 14) (Or.inr (Or.inr ⟨rfl, rfl⟩)) hs hN e26 e27 e89 hp hJ (red 111 5 c4 (by decide) (by decide))
  rw [if_neg c4]
  by_cases c5 : sgP (wdP L s) N p = 112
  · rw [if_pos c5]
    exact m_paneW hs hN e26 e27 e89 hp hJ j5 hm8 (red 112 1 c5 (by decide) (by decide))
  rw [if_neg c5]
  by_cases c6 : sgP (wdP L s) N p = 119
  · rw [if_pos c6]
    exact m_oneW (j := 4) (f := 13) (Or.inr (Or.inl ⟨rfl, rfl⟩)) hs hN e26 e27 e89 hp hJ (red 119 4 c6 (by decide) (by decide))
  rw [if_neg c6]
  have hw : v_X2_wordFrom (sgP (wdP L s) N p) = -1 := by
    unfold v_X2_wordFrom
    rw [if_neg c1, if_neg c2, if_neg c3, if_neg c4, if_neg c5, if_neg c6]
  rw [if_pos hw] at h
  exact h B ⟨fun _ _ _ _ => rfl, rfl⟩ e27 hJ
end ZMI
