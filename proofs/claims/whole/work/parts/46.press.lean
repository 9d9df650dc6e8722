/-! OPERATIONS: press -/
theorem keepJ_run {w : Nat → Int32} {N : Nat} {J0 : zI} {n0 m0 : Nat} : ∀ f (J : zI) p c, p ≤ N → keepJ J0 n0 m0 J → keepJ J0 n0 m0 (pRun w N f J p c).2.2
  | 0, J, p, c, _, h => h
  | f + 1, J, p, c, hp, h => by
    have hk := keepJ_item (w := w) hp h
    obtain ⟨q1, q2, q3⟩ := pItem_pos (w := w) (N := N) (J := J) hp
    unfold pRun
    by_cases e : (pItem w N J p).1 = true
    · rw [if_pos e]
      by_cases e2 : (pItem w N J p).2.1 = N
      · rw [if_pos e2]; exact hk
      · rw [if_neg e2]
        by_cases e3 : sgP w N (pItem w N J p).2.1 = 59
        · rw [if_pos e3]
          obtain ⟨h1, -⟩ := sg_in (by decide) e3
          exact keepJ_run f _ _ _ (by omega) hk
        · rw [if_neg e3]; exact hk
    · rw [if_neg e]; exact hk
theorem pRun_pos {w : Nat → Int32} {N : Nat} : ∀ f (J : zI) p c, N - p < f → p ≤ N → ¬ (pRun w N f J p c).1 = true → (pRun w N f J p c).2.1 ≤ N
  | 0, J, p, c, h, _ => by omega
  | f + 1, J, p, c, h, hp => by
    obtain ⟨q1, q2, q3⟩ := pItem_pos (w := w) (N := N) (J := J) hp
    unfold pRun
    by_cases e : (pItem w N J p).1 = true
    · rw [if_pos e]
      by_cases e2 : (pItem w N J p).2.1 = N
      · rw [if_pos e2]; exact fun z => absurd rfl z
      · rw [if_neg e2]
        by_cases e3 : sgP w N (pItem w N J p).2.1 = 59
        · rw [if_pos e3]
          obtain ⟨h1, -⟩ := sg_in (by decide) e3
          have := (q2 e).1
          exact pRun_pos f _ _ _ (by omega) (by omega)
        · rw [if_neg e3]; exact fun _ => q1
    · rw [if_neg e]; exact fun _ => q1
section ZPX
variable {l : Launch} {g : zG} {Q : Option zv → zI → zL → Prop} {I B J : zI} {L : zL} {s N p n m : Nat} {y3 y4 y5 y6 y7 : Int32}
theorem m_run {k : zK} (X : zX k g cX7_press RX7 11 (some .int) 11) (E : zE k g Q) (hs : s < 8) (hN : N ≤ 160) (e26 : B 87 26 = nI s) (e27 : B 87 27 = nI 0) (e89 : B 89 s = nI N) (hJ : eqJ B J) (hk0 : keepJ J 0 0 J) (h1 : (pRun (wdP L s) N (N + 1) J 0 0).1 = true → ∀ B' : zI, mFR B B' → eqJ B' (pRun (wdP L s) N (N + 1) J 0 0).2.2 → Q (some (vI (nI (pRun (wdP L s) N (N + 1) J 0 0).2.1))) (zs B' 87 18 (-1)) L) (h0 : ¬ (pRun (wdP L s) N (N + 1) J 0 0).1 = true → ∀ (B' : zI) (y8 : Int32), mFR B B' → eqJ B' (pRun (wdP L s) N (N + 1) J 0 0).2.2 → B' 87 27 = nI (pRun (wdP L s) N (N + 1) J 0 0).2.1 → AW k g 11 B' L 91 [(0, vR 87), (1, vI (nI s)), (3, vI y3), (4, vI y4), (5, vI y5), (6, vI y6), (7, vI y7), (8, vI y8), (9, vI 0)] []) : AW k g 11 B L 91 [(0, vR 87), (1, vI (nI s)), (3, vI y3), (4, vI y4), (5, vI y5), (6, vI y6), (7, vI y7), (8, vI 0), (9, vI 1)] [] := by
  generalize hR : pRun (wdP L s) N (N + 1) J 0 0 = Rz at h1 h0
  have lp : ∀ f (J' : zI) q c (C : zI), N - q < f → q ≤ N → keepJ J 0 0 J' → mFR B C → C 87 27 = nI q → eqJ C J' → pRun (wdP L s) N f J' q c = Rz → AW k g 11 C L 91 [(0, vR 87), (1, vI (nI s)), (3, vI y3), (4, vI y4), (5, vI y5), (6, vI y6), (7, vI y7), (8, vI (nI c)), (9, vI 1)] [] := by
    intro f
    induction f with
    | zero => intro J' q c C hf; omega
    | succ f ih =>
      intro J' q c C hf hq hkp fC c3 eC he
      refine s_X7_press_91 X E ?_
      rw [if_neg (show ¬ (1 : Int32) = 0 by decide)]
      have c26 : C 87 26 = nI s := fC.2.trans e26
      have c89 : C 89 s = nI N := by rw [fC.1 89 (by decide) (by decide) (by decide)]; exact e89
      obtain ⟨-, -, -, -, n, m, -, -, hn8, hm8, j3, j5⟩ := id hkp
      have hpos := pItem_pos (w := wdP L s) (N := N) (J := J') hq
      have hk2 := keepJ_item (w := wdP L s) hq hkp
      unfold pRun at he
      refine m_itemS hs hN c26 c3 c89 hq eC j3 j5 hn8 hm8 (fun D fD d3 eD => ⟨_, rfl, ?_⟩)
      dsimp only
      by_cases hok : (pItem (wdP L s) N J' q).1 = true
      · rw [if_pos hok] at he
        have hgt := (hpos.2.1 hok).1
        rw [if_pos hok, if_neg (show ¬ (1 : Int32) = 0 by decide), if_neg (show ¬ (1 : Int32) = 0 by decide), zcl (by omega), d3, fD.1 89 (by decide) (by decide) (by decide), c89, ← nI_succ]
        refine ⟨zvin hs (by decide), ?_⟩
        by_cases hend : (pItem (wdP L s) N J' q).2.1 = N
        · rw [if_pos hend] at he
          rw [if_pos (by rw [hend])]
          rw [← he] at h1
          exact h1 rfl D (fC.t fD) eD
        · rw [if_neg hend] at he
          rw [if_neg (fun e => hend ((n_eq (by omega) (by omega)).mp e)), if_neg (show ¬ (1 : Int32) = 0 by decide)]
          refine m_isS (B := D) (b := 59) hs hN (fD.2.trans c26) d3 (by rw [fD.1 89 (by decide) (by decide) (by decide)]; exact c89) hpos.1 (fun hsg => ⟨_, rfl, ?_⟩) (fun hsg => ⟨_, rfl, ?_⟩)
          · rw [if_pos hsg] at he
            obtain ⟨hlt, -⟩ := sg_in (by decide) hsg
            obtain ⟨eF, fF⟩ := eqJ_small (B' := zs D 87 27 (nI ((pItem (wdP L s) N J' q).2.1 + 1))) eD (fun a ha _ => by rw [zs_nec ha]) (fun x hx => by rw [zs_ne (fun z => hx z.2)])
            exact ih _ _ (c + 1) _ (by omega) (by omega) hk2 (fC.t (fD.t fF)) (by rw [zs_same]) eF he
          · rw [if_neg hsg] at he
            rw [← he] at h0
            exact h0 Bool.false_ne_true D _ (fC.t fD) eD d3
      · rw [if_neg hok] at he
        rw [if_neg hok, if_pos rfl, if_pos rfl]
        rw [← he] at h0
        exact h0 Bool.false_ne_true D _ (fC.t fD) eD d3
  exact lp (N + 1) J 0 0 B (by omega) (by omega) hk0 ⟨fun _ _ _ _ => rfl, rfl⟩ e27 hJ hR
end ZPX
/-- a press: the street and the place of the fault -/
theorem Rn_press {I I' : zI} {L : zL} {n m n' m' : Nat} (h : Rn I L n m) (hI : ∀ a, 20 < a → ¬ scr a → a ≠ 82 → a ≠ 87 → ¬ (91 ≤ a ∧ a ≤ 97) → I' a = I a) (hI1 : I' 1 = I 1) (h87 : ∀ j, (j = 20 ∨ j = 22) → I' 87 j = I 87 j) (hf : I' 82 2 = I' 87 18) (hm : m ≤ m') (hC : RC I' n' m') : Rn I' L n' m' := by
  obtain ⟨a1, a2, a3, a4, a5, a6⟩ := h
  have e : ∀ a, 20 < a → (a < 40 ∨ 64 < a) → a ≠ 83 → a < 101 → a ≠ 82 → a ≠ 87 → (a < 91 ∨ 97 < a) → I' a = I a := fun a h1 h2 h3 h4 h0 h5 h6 => hI a h1 (by unfold scr; omega) h0 h5 (by omega)
  refine ⟨hC, ?_, ?_, ?_, hf, ?_⟩
  · unfold RI RO at *
    rw [hI1, h87 22 (by simp), e 100 (by omega) (by omega) (by omega) (by omega) (by omega) (by omega) (by omega)]
    refine ⟨a2.1, a2.2.imp id (fun ⟨q, n', m', h⟩ => ⟨q, n', m', RS_cong (fun a ha hb => e a (by omega) (by omega) (by omega) (by omega) (by omega) (by omega) (by omega)) h⟩)⟩
  · intro s hs
    have := a3 s hs
    unfold RSh v_X3_lowestBits at *
    rw [e (66 + 2 * s) (by omega) (by omega) (by omega) (by omega) (by omega) (by omega) (by omega), e 88 (by omega) (by omega) (by omega) (by omega) (by omega) (by omega) (by omega), e 89 (by omega) (by omega) (by omega) (by omega) (by omega) (by omega) (by omega)]
    refine this.imp id (fun ⟨q1, q2, q3, q4⟩ => ⟨q1, q2, q3, q4.imp id (fun ⟨q, hq, eq⟩ => ⟨q, by omega, eq⟩)⟩)
  · unfold RF at *
    rw [e 86 (by omega) (by omega) (by omega) (by omega) (by omega) (by omega) (by omega), e 98 (by omega) (by omega) (by omega) (by omega) (by omega) (by omega) (by omega)]
    exact a4
  · unfold RA at *
    rw [e 84 (by omega) (by omega) (by omega) (by omega) (by omega) (by omega) (by omega), h87 20 (by simp), e 85 (by omega) (by omega) (by omega) (by omega) (by omega) (by omega) (by omega), e 99 (by omega) (by omega) (by omega) (by omega) (by omega) (by omega) (by omega)]
    exact a6
theorem sim_press (a1 : Int32) : Sim M_X6_press 11 M_X7_press 11 [vI a1] := by
  rintro l g I L ⟨n, m, h⟩
  obtain ⟨hW, hNl, hn8, hm8, e2, e2', e3, e3', e4, e5, e6, hf⟩ := Rn_wx h
  refine m_X6_press ?_
  rcases row_cases h a1 with ⟨c1, c2, c3⟩ | ⟨s, u, k, hs, rfl, c1, c2, c3, c4, hk, hu, hn⟩ | ⟨s, hs, rfl, c1, c2, c3⟩
  · rw [if_pos c1, c1, show v_X6_lackOfRow I 0 = -1 from rfl]
    refine ⟨fun hh => absurd rfl hh, ?_⟩
    exact both_norow (k := 1) (by decide) rfl (by decide) h a1 c3 (fun Q hn hq => m_X7_press (fun k hk X E => ⟨fun hh => absurd c2 hh, by rw [if_pos hn, hk]; exact hq⟩))
  · rw [if_neg (by rw [c1]; omega), c1]
    refine ⟨Or.inl c2, ?_⟩
    rw [if_pos (show v_X3_hasRow I (66 + 2 * s) = 0 from c2), c3]
    refine ⟨fun _ => zshS s hs, ?_⟩
    exact both_norow hk hu hn h (nI s) c4 (fun Q hn hq => m_X7_press (fun k hk X E => ⟨fun _ _ => zvin hs (by decide), by rw [if_pos hn, hk]; exact hq⟩))
  rw [if_neg (by rw [c1]; omega), c1]
  refine ⟨Or.inr c2, ?_⟩
  rw [if_neg (show ¬ v_X3_hasRow I (66 + 2 * s) = 0 from ne0 c2)]
  obtain ⟨x1, x2, N, hN, x3, x4, x5⟩ := Rn_row h hs c2
  have hnn : ¬ v_X7_noRow I (nI s) < 0 := by rw [c3]; decide
  have kk : ∀ J : zI, k_X7_noRow J (nI s) := fun J _ _ => zvin hs (by decide)
  have hC := wdC_of h hs c2 x3 hN (Nat.le_refl N)
  have hk0 : keepJ I 0 0 I := ⟨fun _ hh => absurd hh (Nat.not_lt_zero _), fun _ hh => absurd hh (Nat.not_lt_zero _), fun _ hh => absurd hh (by omega), fun _ _ _ _ _ _ => rfl, n, m, Nat.zero_le _, Nat.zero_le _, hn8, hm8, e2', e3'⟩
  have hkn : keepJ I n m I := ⟨fun _ _ => rfl, fun _ _ => ⟨rfl, rfl, rfl, rfl⟩, fun _ _ => rfl, fun _ _ _ _ _ _ => rfl, n, m, Nat.le_refl _, Nat.le_refl _, hn8, hm8, e2', e3'⟩
  have hkR := keepJ_run (w := wdP L s) (N := N) (N + 1) I 0 0 (Nat.zero_le _) hkn
  -- the reference, from a memory that has its street
  have ref : ∀ (B : zI) (Q : Option zv → zI → zL → Prop), v_X7_noRow B (nI s) = v_X7_noRow I (nI s) → B 87 = I 87 → B 89 = I 89 → (∀ a, 91 ≤ a → a ≤ 97 → B a = I a) → ((pRun (wdP L s) N (N + 1) I 0 0).1 = true → ∀ B' : zI, (∀ a, a ≠ 87 → a ≠ 103 → a ≠ 104 → (a < 91 ∨ 97 < a) → B' a = B a) → eqJ B' (pRun (wdP L s) N (N + 1) I 0 0).2.2 → Q (some (vI (nI (pRun (wdP L s) N (N + 1) I 0 0).2.1))) (zs B' 87 18 (-1)) L) → (¬ (pRun (wdP L s) N (N + 1) I 0 0).1 = true → ∀ B' : zI, (∀ a, a ≠ 87 → a ≠ 103 → a ≠ 104 → (a < 91 ∨ 97 < a) → B' a = B a) → (∀ j, j < 26 → j ≠ 18 → B' 87 j = I 87 j) → B' 87 18 = nI (pRun (wdP L s) N (N + 1) I 0 0).2.1 → (∀ j, j < n → B' 91 j = I 91 j) → (∀ i, i < m → B' 92 i = I 92 i ∧ B' 93 i = I 93 i ∧ B' 94 i = I 94 i ∧ B' 95 i = I 95 i ∧ B' 96 i = I 96 i) → (∀ x, x < 16 * m → B' 97 x = I 97 x) → Call l g 1 M_X7_no [vR 87, vI (-6)] B' L (zi fun r3 I3 L3 => Q (some (vI r3)) I3 L3)) → Call l g 11 M_X7_press [vR 87, vI (nI s)] B L Q := by
    intro B Q b0 b87 b89 b9 q1 q0
    refine m_X7_press (fun k hk X E => ⟨kk _, ?_⟩)
    rw [b0, if_neg hnn, b87]
    refine zdown (N := 8) (P := fun c => ∀ C : zI, (∀ a, a ≠ 104 → C a = B a) → (∀ j, j < c → C 104 j = I 95 j) → AW k g 11 C L 48 [(0, vR 87), (1, vI (nI s)), (3, vI (I 87 3)), (4, vI (I 87 5)), (5, vI (I 87 12)), (6, vI (I 87 13)), (7, vI (I 87 14)), (8, vI (nI c))] []) (fun C d1 d2 => ?_) (fun c hc ih C d1 d2 => ?_) (c := 0) (by omega) B (fun _ _ => rfl) (fun _ hh => absurd hh (Nat.not_lt_zero _))
    · refine s_X7_press_48 X E ?_
      rw [if_neg (show ¬ nI 8 < 8 by decide)]
      rintro I3 rfl
      have D1 : ∀ a, a ≠ 87 → a ≠ 104 → zs (zs C 87 26 (nI s)) 87 27 0 a = B a := fun a ha hb => by rw [zs_nec ha, zs_nec ha]; exact d1 a hb
      have D2 : ∀ x, x ≠ 26 → x ≠ 27 → zs (zs C 87 26 (nI s)) 87 27 0 87 x = I 87 x := fun x hx hy => by rw [zs_ne (fun z => hy z.2), zs_ne (fun z => hx z.2), d1 87 (by decide), b87]
      have D4 : ∀ j, j < 8 → zs (zs C 87 26 (nI s)) 87 27 0 104 j = I 95 j := fun j hj => by rw [zs_nec (by decide), zs_nec (by decide)]; exact d2 j hj
      have D26 : zs (zs C 87 26 (nI s)) 87 27 0 87 26 = nI s := by rw [zs_ne (by omega), zs_same]
      have D27 : zs (zs C 87 26 (nI s)) 87 27 0 87 27 = nI 0 := by rw [zs_same]; rfl
      generalize zs (zs C 87 26 (nI s)) 87 27 0 = D at D1 D2 D4 D26 D27 ⊢
      have eD : eqJ D I := ⟨fun a ha hb j => by rw [D1 a (by omega) (by omega), b9 a ha hb], fun j hj => D2 j (by omega) (by omega)⟩
      refine m_run X E hs hN D26 D27 (by rw [D1 89 (by decide) (by decide), b89]; exact x4) eD hk0 (fun hok F fF eF => q1 hok F (fun a ha hb hc hd => by rw [fF.1 a ha hb hd]; exact D1 a ha hc) eF) (fun hok F y8 fF eF f3 => ?_)
      refine s_X7_press_91 X E ?_
      rw [if_pos rfl, f3]
      intro I2 i2
      intro I3' i3
      intro I4 i4
      intro I5 i5
      intro I6 i6
      have hG : ∀ x, zs I6 87 14 (I 87 14) 87 x = if x = 14 then I 87 14 else if x = 13 then I 87 13 else if x = 12 then I 87 12 else if x = 5 then I 87 5 else if x = 3 then I 87 3 else if x = 18 then nI (pRun (wdP L s) N (N + 1) I 0 0).2.1 else F 87 x := fun x => by
        rw [zs_at, i6, zs_at, i5, zs_at, i4, zs_at, i3, zs_at, i2, zs_at]
      have hO : ∀ a, a ≠ 87 → zs I6 87 14 (I 87 14) a = F a := fun a ha => by rw [zs_nec ha, i6, zs_nec ha, i5, zs_nec ha, i4, zs_nec ha, i3, zs_nec ha, i2, zs_nec ha]
      generalize zs I6 87 14 (I 87 14) = G at hG hO ⊢
      obtain ⟨k1, k2, k3, k4, -⟩ := hkR
      have g87 : ∀ j, j < 26 → j ≠ 18 → G 87 j = I 87 j := fun j hj h18 => by
        rw [hG]
        by_cases c14 : j = 14
        · rw [if_pos c14, c14]
        · by_cases c13 : j = 13
          · rw [if_neg c14, if_pos c13, c13]
          · by_cases c12 : j = 12
            · rw [if_neg c14, if_neg c13, if_pos c12, c12]
            · by_cases c5 : j = 5
              · rw [if_neg c14, if_neg c13, if_neg c12, if_pos c5, c5]
              · by_cases c3' : j = 3
                · rw [if_neg c14, if_neg c13, if_neg c12, if_neg c5, if_pos c3', c3']
                · rw [if_neg c14, if_neg c13, if_neg c12, if_neg c5, if_neg c3', if_neg h18, eF.2 j hj]
                  exact k4 j c3' c5 c12 c13 c14
      have f104 : ∀ j, j < 8 → G 104 j = I 95 j := fun j hj => by rw [hO 104 (by decide), fF.1 104 (by decide) (by decide) (by decide)]; exact D4 j hj
      refine zdown (N := 8) (P := fun c => ∀ H : zI, (∀ a, a ≠ 95 → H a = G a) → (∀ j, j < c → H 95 j = I 95 j) → AW k g 11 H L 192 [(0, vR 87), (10, vI (nI c))] []) (fun H h1 h2 => ?_) (fun c hc ih H h1 h2 => ?_) (c := 0) (by omega) G (fun _ _ => rfl) (fun _ hh => absurd hh (Nat.not_lt_zero _))
      · refine s_X7_press_192 X E ?_
        rw [if_neg (show ¬ nI 8 < 8 by decide), hk]
        refine q0 hok H (fun a ha hb hc hd => by rw [h1 a (by omega), hO a ha, fF.1 a ha hb hd]; exact D1 a ha hc) (fun j hj h18 => by rw [h1 87 (by decide)]; exact g87 j hj h18) (by rw [h1 87 (by decide), hG]; rfl) (fun j hj => by rw [h1 91 (by decide), hO 91 (by decide), eF.1 91 (by decide) (by decide)]; exact k1 j hj) (fun i hi => ?_) (fun x hx => by rw [h1 97 (by decide), hO 97 (by decide), eF.1 97 (by decide) (by decide)]; exact k3 x hx)
        rw [h1 92 (by decide), h1 93 (by decide), h1 94 (by decide), h1 96 (by decide), hO 92 (by decide), hO 93 (by decide), hO 94 (by decide), hO 96 (by decide), eF.1 92 (by decide) (by decide), eF.1 93 (by decide) (by decide), eF.1 94 (by decide) (by decide), eF.1 96 (by decide) (by decide), h2 i (by omega)]
        obtain ⟨t1, t2, t3, t4⟩ := k2 i hi
        exact ⟨t1, t2, t3, rfl, t4⟩
      · refine s_X7_press_192 X E ?_
        rw [if_pos (n8 hc), zcl (by omega), ← nI_succ, h1 104 (by decide), f104 c hc]
        refine ⟨zvin hc (by decide), ih _ (fun a ha => by rw [zs_nec ha]; exact h1 a ha) (fun j hj => ?_)⟩
        rw [zs_at]
        by_cases e : j = c
        · rw [if_pos e, e]
        · rw [if_neg e]; exact h2 j (by omega)
    · refine s_X7_press_48 X E ?_
      rw [if_pos (n8 hc), zcl (by omega), ← nI_succ, d1 95 (by decide), b9 95 (by decide) (by decide)]
      refine ⟨zvin hc (by decide), ih _ (fun a ha => by rw [zs_nec ha]; exact d1 a ha) (fun j hj => ?_)⟩
      rw [zs_at]
      by_cases e : j = c
      · rw [if_pos e, e]
      · rw [if_neg e]; exact d2 j (by omega)
  refine c_streetAll (p := 40) (q := 2) (by decide) (by decide) (by decide) h.1 (fun A g1 g2 => ⟨rfl, ?_⟩)
  have A66 : A (66 + 2 * s) = I (66 + 2 * s) := g1 _ (by omega)
  have hDJ : DJ A I n m := g2
  refine c_run (J := I) (n := n) (m := m) hs hN (by rw [A66]; exact x3) (wdC_t hC A66) hDJ (fun hok A2 n' m' a1 a2 a3 a4 => ⟨_, rfl, ?_⟩) (fun hok A2 a1 a2 => ⟨_, rfl, ?_⟩)
  · dsimp only
    rw [if_neg (fun e => n_neg (a := -1) (by decide) _ (by omega) e.symm)]
    have o2 : ∀ a, a ≠ 82 → a ≠ 83 → (a < 40 ∨ 58 < a) → A2 a = I a := fun a ha hb hc => (a1 a ha hb hc).trans (g1 a (by omega))
    refine c_streetAll (p := 2) (q := 40) (by decide) (by decide) (by decide) a3 (fun A3 b1 b2 => ⟨rfl, _, rfl, ?_⟩)
    have o3 : ∀ a, 20 < a → a ≠ 82 → a ≠ 83 → (a < 40 ∨ 58 < a) → A3 a = I a := fun a h0 ha hb hc => (b1 a (by omega)).trans (o2 a ha hb hc)
    have j0 : v_X7_noRow A3 (nI s) = v_X7_noRow I (nI s) := by unfold v_X7_noRow v_X7_isRow; rw [o3 88 (by decide) (by decide) (by decide) (by decide)]
    refine ref A3 _ j0 (o3 87 (by decide) (by decide) (by decide) (by decide)) (o3 89 (by decide) (by decide) (by decide) (by decide)) (fun a ha hb => o3 a (by omega) (by omega) (by omega) (by omega)) (fun _ B f1 f2 => ⟨_, rfl, rfl, n', m', ?_⟩) (fun hno => absurd hok hno)
    obtain ⟨k1, k2, k3, k4, nn, mm, kn, km, kn8, km8, kk3, kk5⟩ := hkR
    obtain ⟨t1, t2, ⟨t3, t3'⟩, ⟨t4, t4'⟩, -⟩ := id b2
    have hmm : m ≤ m' := by
      rw [kk5, n_eq (by omega) (by omega)] at t4'
      omega
    refine Rn_press h (fun a h0 hsc ha hb hc => ?_) ?_ (fun j hj => ?_) ?_ hmm ?_
    · rw [zs_nec hb, f1 a hb (by unfold scr at hsc; omega) (by unfold scr at hsc; omega) (by omega)]
      exact o3 a h0 ha (by unfold scr at hsc; omega) (by unfold scr at hsc; omega)
    · rw [zs_nec (by decide), f1 1 (by decide) (by decide) (by decide) (by decide), b1 1 (by decide)]
      exact o2 1 (by decide) (by decide) (by decide)
    · rw [zs_ne (by omega), f2.2 j (by omega)]
      exact k4 j (by omega) (by omega) (by omega) (by omega) (by omega)
    · rw [zs_same, zs_nec (by decide), f1 82 (by decide) (by decide) (by decide) (by decide), b1 82 (by decide)]
      exact a2
    · have hRS : RS (zs B 87 18 (-1)) 2 ((pRun (wdP L s) N (N + 1) I 0 0).2.2 91) ((pRun (wdP L s) N (N + 1) I 0 0).2.2 92) ((pRun (wdP L s) N (N + 1) I 0 0).2.2 93) ((pRun (wdP L s) N (N + 1) I 0 0).2.2 94) ((pRun (wdP L s) N (N + 1) I 0 0).2.2 95) ((pRun (wdP L s) N (N + 1) I 0 0).2.2 96) ((pRun (wdP L s) N (N + 1) I 0 0).2.2 97) _ _ _ _ _ _ _ _ n' m' := RS_cong (fun a ha hb => by rw [zs_nec (by omega), f1 a (by omega) (by omega) (by omega) (by omega)]) b2
      unfold RC
      rw [zs_nec (show 91 ≠ 87 by decide), zs_nec (show 92 ≠ 87 by decide), zs_nec (show 93 ≠ 87 by decide), zs_nec (show 94 ≠ 87 by decide), zs_nec (show 95 ≠ 87 by decide), zs_nec (show 96 ≠ 87 by decide), zs_nec (show 97 ≠ 87 by decide), zs_ne (M := B) (j := 3) (by omega), zs_ne (M := B) (j := 5) (by omega), zs_ne (M := B) (j := 12) (by omega), zs_ne (M := B) (j := 13) (by omega), zs_ne (M := B) (j := 14) (by omega), zs_ne (M := B) (j := 15) (by omega), zs_ne (M := B) (j := 16) (by omega), zs_ne (M := B) (j := 17) (by omega), f2.2 3 (by decide), f2.2 5 (by decide), f2.2 12 (by decide), f2.2 13 (by decide), f2.2 14 (by decide), f2.2 15 (by decide), f2.2 16 (by decide), f2.2 17 (by decide)]
      exact RS_fun hRS (fun j hj => ⟨f2.1 91 (by decide) (by decide) j, f2.1 92 (by decide) (by decide) j, f2.1 93 (by decide) (by decide) j, f2.1 94 (by decide) (by decide) j, f2.1 95 (by decide) (by decide) j, f2.1 96 (by decide) (by decide) j⟩) (fun x hx => f2.1 97 (by decide) (by decide) x)
  · dsimp only
    rw [if_pos rfl]
    have o2 : ∀ a, a ≠ 82 → a ≠ 83 → (a < 40 ∨ 58 < a) → A2 a = I a := fun a ha hb hc => (a1 a ha hb hc).trans (g1 a (by omega))
    refine c_refuse (k := 6) (by decide) rfl ⟨_, rfl, _, rfl, ?_⟩
    have j0 : v_X7_noRow (rf1 A2 6) (nI s) = v_X7_noRow I (nI s) := by rw [noRow_rf]; unfold v_X7_noRow v_X7_isRow; rw [o2 88 (by decide) (by decide) (by decide)]
    have o3 : ∀ a, a ≠ 82 → a ≠ 83 → a ≠ 86 → (a < 40 ∨ 58 < a) → rf1 A2 6 a = I a := fun a ha hb hd hc => by rw [rf1_ne hd]; exact o2 a ha hb hc
    refine ref (rf1 A2 6) _ j0 (o3 87 (by decide) (by decide) (by decide) (by decide)) (o3 89 (by decide) (by decide) (by decide) (by decide)) (fun a ha hb => o3 a (by omega) (by omega) (by omega) (by omega)) (fun hyes => absurd hyes hok) (fun _ B f1 f2 f3 f4 f5 f6 => ?_)
    refine m_no (k := 6) (by decide) rfl ⟨_, rfl, _, rfl, rfl, n, m, ?_⟩
    -- as if nothing were refused, then refused
    have hX : Rn (fun a => if a = 86 then I 86 else B a) L n m := by
      refine Rn_press h (fun a h0 hsc ha hb hc => ?_) ?_ (fun j hj => ?_) ?_ (Nat.le_refl _) ?_
      · by_cases e86 : a = 86
        · subst e86
          exact if_pos rfl
        · try dsimp only
          rw [if_neg e86, f1 a hb (by unfold scr at hsc; omega) (by unfold scr at hsc; omega) (by omega)]
          exact o3 a ha (by unfold scr at hsc; omega) e86 (by unfold scr at hsc; omega)
      · try dsimp only
        rw [if_neg (by decide), f1 1 (by decide) (by decide) (by decide) (by decide)]
        exact o3 1 (by decide) (by decide) (by decide) (by decide)
      · try dsimp only
        rw [if_neg (by decide)]
        exact f2 j (by omega) (by omega)
      · try dsimp only
        rw [if_neg (by decide), if_neg (by decide), f3, f1 82 (by decide) (by decide) (by decide) (by decide), rf1_ne (by decide)]
        exact a2
      · have hRS : RS (fun a => if a = 86 then I 86 else B a) 2 (I 91) (I 92) (I 93) (I 94) (I 95) (I 96) (I 97) (I 87 3) (I 87 5) (I 87 12) (I 87 13) (I 87 14) (I 87 15) (I 87 16) (I 87 17) n m := RS_cong (fun a ha hb => by
          try dsimp only
          rw [if_neg (by omega), f1 a (by omega) (by omega) (by omega) (by omega)]
          exact o3 a (by omega) (by omega) (by omega) (by omega)) h.1
        unfold RC
        try dsimp only
        rw [if_neg (show ¬ 91 = 86 by decide), if_neg (show ¬ 92 = 86 by decide), if_neg (show ¬ 93 = 86 by decide), if_neg (show ¬ 94 = 86 by decide), if_neg (show ¬ 95 = 86 by decide), if_neg (show ¬ 96 = 86 by decide), if_neg (show ¬ 97 = 86 by decide), if_neg (show ¬ 87 = 86 by decide), f2 3 (by decide) (by decide), f2 5 (by decide) (by decide), f2 12 (by decide) (by decide), f2 13 (by decide) (by decide), f2 14 (by decide) (by decide), f2 15 (by decide) (by decide), f2 16 (by decide) (by decide), f2 17 (by decide) (by decide)]
        obtain ⟨r1, r2, r3, r4, r5, r6, r7, r8, r9, r10, r11, r12⟩ := hRS
        refine ⟨r1, r2, r3, r4, r5, r6, r7, r8, r9, r10, fun j hj => by rw [f4 j hj]; exact r11 j hj, fun i hi => ?_⟩
        obtain ⟨w1, w2, w3, w4, w5⟩ := f5 i hi
        have := r12 i hi
        unfold RPn at *
        rw [w1, w2, w3, w4, w5]
        refine ⟨this.1, this.2.1, this.2.2.1, this.2.2.2.1, this.2.2.2.2.1, fun c hc => ?_⟩
        have := this.2.2.2.2.2 c hc
        try dsimp only at this ⊢
        rw [f6 (16 * i + c) (by omega)]
        exact this
    refine Rn_refuse (k := 6) (by decide) hX (fun a h1 h2 => ?_) (fun j => ?_) (fun j => ?_)
    · try dsimp only
      rw [rf2_ne h2, if_neg h1]
    · try dsimp only
      rw [if_pos rfl, rf2_ne (by decide), f1 86 (by decide) (by decide) (by decide) (by decide)]
      unfold rf1
      rw [zs_at, o2 86 (by decide) (by decide) (by decide)]
    · try dsimp only
      rw [if_neg (show ¬ 98 = 86 by decide)]
      unfold rf2
      rw [zs_at]
