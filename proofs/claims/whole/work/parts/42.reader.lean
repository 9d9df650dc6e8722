/-! PRESSES: the class's reader -/
section ZRD
variable {l : Launch} {g : zG} {Q : Option zv → zI → zL → Prop} {I A J : zI} {L : zL} {s N p n m : Nat}
theorem c_sign (hs : s < 8) (hN : N ≤ 160) (eN : A (66 + 2 * s) 2 = nI N) (hC : wdC A L s N) (e1 : A 82 1 = nI p) (hp : p ≤ N) {b : Int32} (hb : ¬ b = -1) (h1 : sgP (wdP L s) N p = b → Q (some (vI 1)) (zs A 82 1 (nI (p + 1))) L) (h0 : ¬ sgP (wdP L s) N p = b → Q (some (vI 0)) (zs A 82 2 (nI p)) L) : Call l g 3 M_X2_signStands [vR 82, vR (66 + 2 * s), vI b] A L Q := by
  refine m_X2_signStands ⟨zshS s hs, ?_⟩
  rw [e1, eN]
  by_cases c : p < N
  · rw [if_pos (nI_lt c (by omega)), hC p c]
    by_cases d : wdP L s p = b
    · rw [if_pos d, ← nI_succ]
      exact h1 (by rw [sg_lt c]; exact d)
    · rw [if_neg d]
      exact m_X2_failAt ⟨_, rfl, Or.inl rfl, h0 (by rw [sg_lt c]; exact d)⟩
  · rw [if_neg (nI_nlt (by omega) (by omega))]
    exact m_X2_failAt ⟨_, rfl, Or.inl rfl, h0 (by rw [sg_ge c]; exact fun e => hb e.symm)⟩
theorem zsln_j (j : Nat) : zsln (2000 + j) = nI (lnP j) := by
  unfold zsln lnP
  rw [show 2000 + j - 2000 = j by omega]
  rfl
theorem zsin_j {j i : Nat} (hj : j < 6) (hi : i < lnP j) : zsin (2000 + j) (nI i) := by
  unfold zsin
  rw [show 2000 + j - 2000 = j by omega]
  have := (bs_tab j hj).1
  exact zvin hi (show lnP j < 2147483648 by omega)
theorem c_letters {j : Nat} (hj : j < 6) (hs : s < 8) (hN : N ≤ 160) (eN : A (66 + 2 * s) 2 = nI N) (hC : wdC A L s N) (e1 : A 82 1 = nI p) (hp : p ≤ N) (h1 : (pWf (wdP L s) N j (lnP j) 0 p).1 = true → ∀ A' : zI, (∀ a, a ≠ 82 → A' a = A a) → (∀ x, x ≠ 1 → A' 82 x = A 82 x) → A' 82 1 = nI (pWf (wdP L s) N j (lnP j) 0 p).2 → Q (some (vI 1)) A' L) (h0 : ¬ (pWf (wdP L s) N j (lnP j) 0 p).1 = true → ∀ A' : zI, (∀ a, a ≠ 82 → A' a = A a) → A' 82 2 = nI (pWf (wdP L s) N j (lnP j) 0 p).2 → Q (some (vI 0)) A' L) : Call l g 8 M_X2_lettersStand [vR 82, vR (66 + 2 * s), vR (2000 + j)] A L Q := by
  obtain ⟨t1, t2, t3⟩ := bs_tab j hj
  generalize hR : pWf (wdP L s) N j (lnP j) 0 p = Rz at h1 h0
  refine m_X2_lettersStand (fun k hk X E => ?_)
  have lp : ∀ k2 i q (B : zI), i + k2 = lnP j → q ≤ N → (∀ a, a ≠ 82 → B a = A a) → (∀ x, x ≠ 1 → B 82 x = A 82 x) → B 82 1 = nI q → pWf (wdP L s) N j k2 i q = Rz → AW k g 4 B L 2 [(0, vR 82), (1, vR (66 + 2 * s)), (2, vR (2000 + j)), (3, vI (nI i))] [] := by
    intro k2
    induction k2 with
    | zero =>
      intro i q B hi hq b1 b2 b3 he
      refine s_X2_lettersStand_2 X E ⟨⟨j, hj, rfl⟩, ?_⟩
      rw [zsln_j, if_neg (nI_nlt (by omega) (by omega))]
      have e : pWf (wdP L s) N j 0 i q = (true, q) := rfl
      rw [e] at he
      exact h1 (by rw [← he]) B b1 b2 (by rw [← he]; exact b3)
    | succ k2 ih =>
      intro i q B hi hq b1 b2 b3 he
      refine s_X2_lettersStand_2 X E ⟨⟨j, hj, rfl⟩, ?_⟩
      have hil : i < lnP j := by omega
      rw [zsln_j, if_pos (nI_lt hil (by omega))]
      refine ⟨zsin_j hj hil, ?_⟩
      unfold pWf at he
      have b66 : B (66 + 2 * s) = A (66 + 2 * s) := b1 _ (by omega)
      refine c_sign (A := B) (p := q) (b := bsP j i) hs hN (by rw [b66]; exact eN) (wdC_t hC b66) b3 hq (t3 i hil) (fun hsg => ⟨_, rfl, ?_⟩) (fun hsg => ⟨_, rfl, ?_⟩)
      · rw [if_pos hsg] at he
        obtain ⟨hqN, -⟩ := sg_in (t3 i hil) hsg
        rw [if_neg (by decide), ← nI_succ]
        exact ih (i + 1) (q + 1) _ (by omega) (by omega) (fun a ha => by rw [zs_nec ha]; exact b1 a ha) (fun x hx => by rw [zs_ne (fun z => hx z.2)]; exact b2 x hx) (by rw [zs_same]) he
      · rw [if_neg hsg] at he
        rw [if_pos rfl]
        exact h0 (by rw [← he]; exact Bool.false_ne_true) _ (fun a ha => by rw [zs_nec ha]; exact b1 a ha) (by rw [zs_same, ← he])
  exact lp (lnP j) 0 p A (by omega) hp (fun _ _ => rfl) (fun _ _ => rfl) e1 hR
theorem isDig (hN : N ≤ 160) (eN : A (66 + 2 * s) 2 = nI N) (hC : wdC A L s N) (e1 : A 82 1 = nI p) (hp : p ≤ N) : v_X2_isDigitAt A L (66 + 2 * s) = if sgP (wdP L s) N p < 48 then 0 else if 57 < sgP (wdP L s) N p then 0 else 1 := by
  unfold v_X2_isDigitAt
  rw [e1, eN]
  by_cases c : p < N
  · rw [if_pos (nI_lt c (by omega)), hC p c, sg_lt c]
  · rw [if_neg (nI_nlt (by omega) (by omega)), sg_ge c, if_pos (by decide)]
theorem c_number {i : Nat} {most : Int32} (hi : i < 3) (hs : s < 8) (hN : N ≤ 160) (eN : A (66 + 2 * s) 2 = nI N) (hC : wdC A L s N) (e1 : A 82 1 = nI p) (hp : p ≤ N) (h1 : ¬ (pD (wdP L s) N 5 p 0).1 = p → ¬ most < (pD (wdP L s) N 5 p 0).2 → ∀ A' : zI, (∀ a, a ≠ 82 → a ≠ 83 → A' a = A a) → (∀ x, x ≠ 1 → A' 82 x = A 82 x) → A' 82 1 = nI (pD (wdP L s) N 5 p 0).1 → (∀ x, A' 83 x = if x = i then (pD (wdP L s) N 5 p 0).2 else A 83 x) → Q (some (vI 1)) A' L) (h0 : ((pD (wdP L s) N 5 p 0).1 = p ∨ most < (pD (wdP L s) N 5 p 0).2) → ∀ A' : zI, (∀ a, a ≠ 82 → A' a = A a) → A' 82 2 = nI p → Q (some (vI 0)) A' L) : Call l g 4 M_X2_numberStands [vR 82, vR (66 + 2 * s), vI most, vI (nI i)] A L Q := by
  refine m_X2_numberStands (fun k hk X E => ?_)
  rw [e1]
  have fin : ∀ q v (B : zI), q ≤ N → (∀ a, a ≠ 82 → B a = A a) → (∀ x, x ≠ 1 → B 82 x = A 82 x) → B 82 1 = nI q → (q, v) = pD (wdP L s) N 5 p 0 → if (B 82 1) = nI p then (Call (kl k) g 1 M_X2_failAt [vR 82, vI (nI p)] B L (zi fun r5 I5 L5 => (r5 = 0 ∨ r5 = 1) ∧ (Q (some (vI r5)) I5 L5))) else (if most < v then (Call (kl k) g 1 M_X2_failAt [vR 82, vI (nI p)] B L (zi fun r8 I8 L8 => (r8 = 0 ∨ r8 = 1) ∧ (Q (some (vI r8)) I8 L8))) else (if nI i < 0 then (Q (some (vI 1)) B L) else (if nI i < 3 then (Q (some (vI 1)) (zs B 83 (nI i).toNatClampNeg v) L) else (Q (some (vI 1)) B L)))) := by
    intro q v B hq b1 b2 b3 he
    rw [← he] at h1 h0
    rw [b3]
    by_cases c1 : q = p
    · rw [if_pos (by rw [c1])]
      exact m_X2_failAt ⟨_, rfl, Or.inl rfl, h0 (Or.inl c1) _ (fun a ha => by rw [zs_nec ha]; exact b1 a ha) (by rw [zs_same])⟩
    · rw [if_neg (fun e => c1 ((n_eq (by omega) (by omega)).mp e))]
      by_cases c2 : most < v
      · rw [if_pos c2]
        exact m_X2_failAt ⟨_, rfl, Or.inl rfl, h0 (Or.inr c2) _ (fun a ha => by rw [zs_nec ha]; exact b1 a ha) (by rw [zs_same])⟩
      · rw [if_neg c2, if_neg (nI_pos (by omega)), if_pos (show nI i < 3 from (nI_lt hi (by decide) : nI i < nI 3)), zcl (by omega)]
        refine h1 c1 c2 _ (fun a ha hb => by rw [zs_nec hb]; exact b1 a ha) (fun x hx => by rw [zs_nec (by decide)]; exact b2 x hx) (by rw [zs_nec (by decide)]; exact b3) (fun x => ?_)
        rw [zs_at, b1 83 (by decide)]
  have lp : ∀ k2 q v (B : zI), k2 ≤ 5 → q ≤ N → (∀ a, a ≠ 82 → B a = A a) → (∀ x, x ≠ 1 → B 82 x = A 82 x) → B 82 1 = nI q → pD (wdP L s) N k2 q v = pD (wdP L s) N 5 p 0 → AW k g 7 B L 12 [(0, vR 82), (1, vR (66 + 2 * s)), (2, vI most), (3, vI (nI i)), (4, vI (nI p)), (5, vI v), (6, vI (nI (5 - k2)))] [] := by
    intro k2
    induction k2 with
    | zero =>
      intro q v B _ hq b1 b2 b3 he
      refine s_X2_numberStands_12 X E ?_
      rw [if_neg (show ¬ nI (5 - 0) < 5 by decide)]
      exact fin q v B hq b1 b2 b3 he
    | succ k2 ih =>
      intro q v B h5 hq b1 b2 b3 he
      refine s_X2_numberStands_12 X E ?_
      have b66 : B (66 + 2 * s) = A (66 + 2 * s) := b1 _ (by omega)
      rw [if_pos (show nI (5 - (k2 + 1)) < 5 from (nI_lt (by omega) (by decide) : nI (5 - (k2 + 1)) < nI 5)), isDig hN (by rw [b66]; exact eN) (wdC_t hC b66) b3 hq]
      refine ⟨zshS s hs, ?_⟩
      unfold pD at he
      by_cases d1 : sgP (wdP L s) N q < 48
      · rw [if_pos d1] at he ⊢
        rw [if_pos rfl]
        exact fin q v B hq b1 b2 b3 he
      · by_cases d2 : 57 < sgP (wdP L s) N q
        · rw [if_neg d1, if_pos d2] at he ⊢
          rw [if_pos rfl]
          exact fin q v B hq b1 b2 b3 he
        · rw [if_neg d1, if_neg d2] at he ⊢
          have hqN := dig_pos d1
          rw [if_neg (by decide), b3, wdC_t hC b66 q hqN, ← sg_lt (w := wdP L s) hqN, ← nI_succ, ← nI_succ, show 5 - (k2 + 1) + 1 = 5 - k2 by omega]
          exact ⟨zshS s hs, ih (q + 1) _ _ (by omega) (by omega) (fun a ha => by rw [zs_nec ha]; exact b1 a ha) (fun x hx => by rw [zs_ne (fun z => hx z.2)]; exact b2 x hx) (by rw [zs_same]) he⟩
  have := lp 5 p 0 A (Nat.le_refl _) hp (fun _ _ => rfl) (fun _ _ => rfl) e1 rfl
  exact this
theorem c_mostOf {j i : Nat} (hj : j < 6) (hi : i < 3) (e3 : A 40 3 = J 87 5) (e2 : A 40 2 = J 87 3) (h : Q (some (vI (mstP J j i))) A L) : Call l g 1 M_X2_mostOf [vI (nI j), vI (nI i), vR 40] A L Q := by
  have i0 : nI i = 0 ↔ i = 0 := by
    rw [show (0 : Int32) = nI 0 from rfl, n_eq (by omega) (by decide)]
  refine m_X2_mostOf ?_
  have hc : j = 0 ∨ j = 1 ∨ j = 2 ∨ j = 3 ∨ j = 4 ∨ j = 5 := by omega
  unfold mstP at h
  rcases hc with rfl | rfl | rfl | rfl | rfl | rfl
  · rw [if_pos (by decide)]
    exact h
  · rw [if_neg (by decide), if_pos (by decide)]
    rw [if_neg (by decide), if_pos rfl] at h
    by_cases e : i = 0
    · rw [if_pos e] at h; rw [if_pos (i0.mpr e)]; exact h
    · rw [if_neg e] at h; rw [if_neg (fun z => e (i0.mp z))]; exact h
  · rw [if_neg (by decide), if_neg (by decide), if_pos (by decide)]
    rw [if_neg (by decide), if_neg (by decide), if_pos rfl] at h
    refine ⟨fun _ => rfl, fun _ => rfl, ?_⟩
    rw [e3, e2]
    by_cases e : i = 0
    · rw [if_pos e] at h; rw [if_pos (i0.mpr e)]; exact h
    · rw [if_neg e] at h; rw [if_neg (fun z => e (i0.mp z))]; exact h
  · rw [if_neg (by decide), if_neg (by decide), if_neg (by decide), if_pos (by decide)]
    exact h
  · rw [if_neg (by decide), if_neg (by decide), if_neg (by decide), if_neg (by decide), if_pos (by decide)]
    exact h
  · rw [if_neg (by decide), if_neg (by decide), if_neg (by decide), if_neg (by decide), if_neg (by decide)]
    exact h
/-- the draft as the reference's street -/
def DJ (A J : zI) (n m : Nat) : Prop := RS A 40 (J 91) (J 92) (J 93) (J 94) (J 95) (J 96) (J 97) (J 87 3) (J 87 5) (J 87 12) (J 87 13) (J 87 14) (J 87 15) (J 87 16) (J 87 17) n m
theorem DJ_cong {A A' : zI} (h : DJ A J n m) (e : ∀ a, 40 ≤ a → a ≤ 58 → A' a = A a) : DJ A' J n m := RS_cong e h
theorem zle_of {b u : Nat} {v : Int32} (hb : b < 2147483648) (hu : u < 100000) (e : v = nI u) (h : ¬ nI b < nI u) : zle b v := by
  rw [n_lt hb (by omega)] at h
  exact ⟨u, by omega, e⟩
theorem lt_of_m1 {b u : Nat} (hb : b ≤ 8) (hu : u < 100000) (h : ¬ nI b - 1 < nI u) : u < b := by
  rw [i_lt, n_pre (by omega), n_toInt (by omega)] at h
  omega
theorem c_tell {j : Nat} {vs : Nat → Int32} (hj : j < 6) (hD : DJ A J n m) (hr : roomP J j = true) (hv : ∀ i, i < cntJ j → A 83 i = vs i) (hb : ∀ i, i < cntJ j → ∃ u, u < 100000 ∧ vs i = nI u ∧ ¬ mstP J j i < nI u) (h : ∀ (A' : zI) (n' m' : Nat), (∀ a, (a < 40 ∨ 58 < a) → A' a = A a) → DJ A' (updJ J j vs) n' m' → Q none A' L) : Call l g 3 M_X2_tell [vR 82, vI (nI j), vR 40] A L Q := by
  obtain ⟨hn, hm, ⟨f2, f2'⟩, ⟨f3, f3'⟩, f4, f5, f6, f7, f8, f9, hf, hP⟩ := id hD
  refine m_X2_tell ?_
  have hc : j = 0 ∨ j = 1 ∨ j = 2 ∨ j = 3 ∨ j = 4 ∨ j = 5 := by omega
  rcases hc with rfl | rfl | rfl | rfl | rfl | rfl
  · rw [if_pos (by decide), hv 0 (by decide)]
    refine ⟨rfl, m_X4_addLetter rfl ?_⟩
    have hlt : n < 8 := by
      unfold roomP at hr
      rw [if_pos rfl, f2'] at hr
      exact (n_lt (by omega) (by decide)).mp (of_decide_eq_true hr : nI n < nI 8)
    obtain ⟨u, hu, eu, nu⟩ := hb 0 (by decide)
    rw [if_neg (show ¬ v_X4_hasLetterRoom A 40 = 0 from by unfold v_X4_hasLetterRoom; rw [f2, if_neg (nI_pos (by omega)), if_pos (n8 hlt)]; decide), f2, zcl (by omega)]
    rintro I2 rfl I3 rfl
    refine ⟨_, rfl, h _ (n + 1) m (fun a ha => by rw [zs_nec (by omega), zs_nec (by omega)]) ?_⟩
    have e2 : zs A (40 + 1) n (vs 0) 40 2 = nI n := by rw [zs_nec (by decide)]; exact f2
    rw [e2, ← nI_succ]
    show DJ _ (uLet J (vs 0)) (n + 1) m
    have g40 : ∀ x, zs (zs A (40 + 1) n (vs 0)) 40 2 (nI (n + 1)) 40 x = if x = 2 then nI (n + 1) else A 40 x := fun x => by rw [zs_at, zs_nec (by decide)]
    have g41 : ∀ x, zs (zs A (40 + 1) n (vs 0)) 40 2 (nI (n + 1)) 41 x = if x = n then vs 0 else A 41 x := fun x => by rw [zs_nec (by decide), zs_at]
    have go : ∀ a, a ≠ 40 → a ≠ 41 → zs (zs A (40 + 1) n (vs 0)) 40 2 (nI (n + 1)) a = A a := fun a h1 h2 => by rw [zs_nec h1, zs_nec h2]
    have u87 : ∀ x, uLet J (vs 0) 87 x = if x = 3 then nI (n + 1) else J 87 x := fun x => by unfold uLet; rw [zs_nec (by decide), zs_at, f2', nI_succ]
    have u91 : ∀ x, uLet J (vs 0) 91 x = if x = n then vs 0 else J 91 x := fun x => by unfold uLet; rw [f2', zcl (by omega), zs_at, zs_nec (by decide)]
    have uo : ∀ a, a ≠ 87 → a ≠ 91 → uLet J (vs 0) a = J a := fun a h1 h2 => by unfold uLet; rw [zs_nec h2, zs_nec h1]
    unfold DJ RS
    rw [uo 92 (by decide) (by decide), uo 93 (by decide) (by decide), uo 94 (by decide) (by decide), uo 95 (by decide) (by decide), uo 96 (by decide) (by decide), uo 97 (by decide) (by decide)]
    refine ⟨by omega, hm, ⟨g40 2, u87 3⟩, ⟨(g40 3).trans f3, (u87 5).trans f3'⟩, by rw [u87 12]; exact ⟨(g40 4).trans f4.1, f4.2⟩, by rw [u87 13]; exact ⟨(g40 5).trans f5.1, f5.2⟩, by rw [u87 14]; exact ⟨(g40 6).trans f6.1, f6.2⟩, by rw [u87 15]; exact ⟨(g40 7).trans f7.1, f7.2⟩, by rw [u87 16]; exact (g40 8).trans f8, by rw [u87 17]; exact (g40 9).trans f9, fun x hx => ?_, fun i hi => ?_⟩
    · rw [show 40 + 1 = 41 from rfl, g41, u91]
      by_cases e : x = n
      · rw [if_pos e, if_pos e]
        exact ⟨rfl, zle_of (b := 65535) (by decide) hu eu nu⟩
      · rw [if_neg e, if_neg e]
        exact hf x (by omega)
    · have := hP i hi
      unfold RPn at *
      rw [go (40 + 3 + 2 * i) (by omega) (by omega), go (40 + 3 + 2 * i + 1) (by omega) (by omega)]
      exact ⟨this.1, this.2.1, this.2.2.1, ⟨this.2.2.2.1.1, this.2.2.2.1.2.imp id (fun ⟨q, hq, e⟩ => ⟨q, by omega, e⟩)⟩, this.2.2.2.2.1, this.2.2.2.2.2⟩
  · rw [if_neg (by decide), if_pos (by decide), hv 0 (by decide), hv 1 (by decide), hv 2 (by decide)]
    have hlt : m < 8 := by
      unfold roomP at hr
      rw [if_neg (by decide), if_pos rfl, f3'] at hr
      exact (n_lt (by omega) (by decide)).mp (of_decide_eq_true hr : nI m < nI 8)
    obtain ⟨u0, hu0, eu0, nu0⟩ := hb 0 (by decide)
    obtain ⟨u1, hu1, eu1, nu1⟩ := hb 1 (by decide)
    obtain ⟨u2, hu2, eu2, nu2⟩ := hb 2 (by decide)
    have z0 : zle 6 (vs 0) := zle_of (b := 6) (by decide) hu0 eu0 nu0
    have z1 : zle 9 (vs 1) := zle_of (b := 9) (by decide) hu1 eu1 nu1
    have z2 : zle 9 (vs 2) := zle_of (b := 9) (by decide) hu2 eu2 nu2
    refine ⟨rfl, c_addPane (p := 40) rfl f3 hlt (fun A' g1 g2 g3 g4 g5 => ⟨_, rfl, h A' n (m + 1) (fun a ha => g1 a (by omega) (by omega) (by omega)) ?_⟩)⟩
    show DJ A' (uPane J (vs 0) (vs 1) (vs 2)) n (m + 1)
    have v87 : ∀ x, uPane J (vs 0) (vs 1) (vs 2) 87 x = if x = 5 then nI (m + 1) else J 87 x := fun x => by
      unfold uPane
      by_cases e : x = 5
      · rw [if_pos ⟨rfl, e⟩, if_pos e, f3', nI_succ]
      · rw [if_neg (fun z => e z.2), if_neg (by omega), if_neg (by omega), if_neg (by omega), if_neg (by omega), if_neg (by omega), if_neg (by omega), if_neg e]
    have v91 : ∀ x, uPane J (vs 0) (vs 1) (vs 2) 91 x = J 91 x := fun x => by
      unfold uPane
      rw [if_neg (by omega), if_neg (by omega), if_neg (by omega), if_neg (by omega), if_neg (by omega), if_neg (by omega), if_neg (by omega)]
    have v92 : ∀ x, uPane J (vs 0) (vs 1) (vs 2) 92 x = if x = m then vs 0 else J 92 x := fun x => by
      unfold uPane
      rw [f3', zcl (by omega), if_neg (by omega)]
      by_cases e : x = m
      · rw [if_pos ⟨rfl, e⟩, if_pos e]
      · rw [if_neg (fun z => e z.2), if_neg (by omega), if_neg (by omega), if_neg (by omega), if_neg (by omega), if_neg (by omega), if_neg e]
    have v93 : ∀ x, uPane J (vs 0) (vs 1) (vs 2) 93 x = if x = m then vs 1 else J 93 x := fun x => by
      unfold uPane
      rw [f3', zcl (by omega), if_neg (by omega), if_neg (by omega)]
      by_cases e : x = m
      · rw [if_pos ⟨rfl, e⟩, if_pos e]
      · rw [if_neg (fun z => e z.2), if_neg (by omega), if_neg (by omega), if_neg (by omega), if_neg (by omega), if_neg e]
    have v94 : ∀ x, uPane J (vs 0) (vs 1) (vs 2) 94 x = if x = m then vs 2 else J 94 x := fun x => by
      unfold uPane
      rw [f3', zcl (by omega), if_neg (by omega), if_neg (by omega), if_neg (by omega)]
      by_cases e : x = m
      · rw [if_pos ⟨rfl, e⟩, if_pos e]
      · rw [if_neg (fun z => e z.2), if_neg (by omega), if_neg (by omega), if_neg (by omega), if_neg e]
    have v95 : ∀ x, uPane J (vs 0) (vs 1) (vs 2) 95 x = if x = m then -1 else J 95 x := fun x => by
      unfold uPane
      rw [f3', zcl (by omega), if_neg (by omega), if_neg (by omega), if_neg (by omega), if_neg (by omega)]
      by_cases e : x = m
      · rw [if_pos ⟨rfl, e⟩, if_pos e]
      · rw [if_neg (fun z => e z.2), if_neg (by omega), if_neg (by omega), if_neg e]
    have v96 : ∀ x, uPane J (vs 0) (vs 1) (vs 2) 96 x = if x = m then 0 else J 96 x := fun x => by
      unfold uPane
      rw [f3', zcl (by omega), if_neg (by omega), if_neg (by omega), if_neg (by omega), if_neg (by omega), if_neg (by omega)]
      by_cases e : x = m
      · rw [if_pos ⟨rfl, e⟩, if_pos e]
      · rw [if_neg (fun z => e z.2), if_neg (by omega), if_neg e]
    have v97 : ∀ x, uPane J (vs 0) (vs 1) (vs 2) 97 x = if 16 * m ≤ x ∧ x < 16 * m + 16 then 0 else J 97 x := fun x => by
      unfold uPane
      rw [f3', zcl (by omega), if_neg (by omega), if_neg (by omega), if_neg (by omega), if_neg (by omega), if_neg (by omega), if_neg (by omega)]
      by_cases e : 16 * m ≤ x ∧ x < 16 * m + 16
      · rw [if_pos ⟨rfl, e⟩, if_pos e]
      · rw [if_neg (fun z => e z.2), if_neg e]
    unfold DJ RS
    refine ⟨hn, by omega, ⟨(g2 2 (by decide)).trans f2, (v87 3).trans f2'⟩, ⟨g3, v87 5⟩, by rw [v87 12]; exact ⟨(g2 4 (by decide)).trans f4.1, f4.2⟩, by rw [v87 13]; exact ⟨(g2 5 (by decide)).trans f5.1, f5.2⟩, by rw [v87 14]; exact ⟨(g2 6 (by decide)).trans f6.1, f6.2⟩, by rw [v87 15]; exact ⟨(g2 7 (by decide)).trans f7.1, f7.2⟩, by rw [v87 16]; exact (g2 8 (by decide)).trans f8, by rw [v87 17]; exact (g2 9 (by decide)).trans f9, fun x hx => ?_, fun i hi => ?_⟩
    · rw [g1 (40 + 1) (by omega) (by omega) (by omega), v91]
      exact hf x hx
    · rw [v92, v93, v94, v95, v96]
      by_cases e : i = m
      · subst e
        obtain ⟨q0, q1, q2, q3, q4⟩ := g4
        rw [if_pos rfl, if_pos rfl, if_pos rfl, if_pos rfl, if_pos rfl]
        refine ⟨⟨q0, z0⟩, ⟨q1, z1⟩, ⟨q2, z2⟩, ⟨q3, Or.inl rfl⟩, q4, fun c hc => ?_⟩
        dsimp only
        rw [g5 c hc, v97, if_pos (by omega)]
        exact ⟨rfl, 0, by decide, rfl⟩
      · rw [if_neg e, if_neg e, if_neg e, if_neg e, if_neg e]
        have := hP i (by omega)
        unfold RPn at *
        rw [g1 (40 + 3 + 2 * i) (by omega) (by omega) (by omega), g1 (40 + 3 + 2 * i + 1) (by omega) (by omega) (by omega)]
        refine ⟨this.1, this.2.1, this.2.2.1, this.2.2.2.1, this.2.2.2.2.1, fun c hc => ?_⟩
        dsimp only
        rw [v97, if_neg (by omega)]
        exact this.2.2.2.2.2 c hc
  · rw [if_neg (by decide), if_neg (by decide), if_pos (by decide), hv 0 (by decide), hv 1 (by decide)]
    refine ⟨rfl, ?_⟩
    obtain ⟨u0, hu0, eu0, nu0⟩ := hb 0 (by decide)
    obtain ⟨u1, hu1, eu1, nu1⟩ := hb 1 (by decide)
    have nu0' : ¬ nI m - 1 < nI u0 := by rw [← f3']; exact nu0
    have nu1' : ¬ nI n - 1 < nI u1 := by rw [← f2']; exact nu1
    have l0 := lt_of_m1 hm hu0 nu0'
    have l1 := lt_of_m1 hn hu1 nu1'
    have ep : v_X4_paneAt A 40 (vs 0) = 43 + 2 * u0 := by
      rw [eu0]
      rcases paneAt_g (I := A) (s := 40) (m := m) (i := u0) f3 hm (by omega) with ⟨-, w2⟩ | ⟨w1, -⟩
      · rw [w2]
      · omega
    rw [ep, if_neg (by omega)]
    refine h _ n m (fun a ha => by rw [zs_nec (by omega)]) ?_
    show DJ _ (zs J 95 (vs 0).toNatClampNeg (vs 1)) n m
    rw [eu0, zcl (by omega)]
    unfold DJ RS
    rw [zs_nec (show 91 ≠ 95 by decide), zs_nec (show 92 ≠ 95 by decide), zs_nec (show 93 ≠ 95 by decide), zs_nec (show 94 ≠ 95 by decide), zs_nec (show 96 ≠ 95 by decide), zs_nec (show 97 ≠ 95 by decide), zs_nec (show 87 ≠ 95 by decide), zs_nec (show 40 ≠ 43 + 2 * u0 by omega), zs_nec (show 40 + 1 ≠ 43 + 2 * u0 by omega)]
    refine ⟨hn, hm, ⟨f2, f2'⟩, ⟨f3, f3'⟩, f4, f5, f6, f7, f8, f9, hf, fun i hi => ?_⟩
    have := hP i hi
    unfold RPn at *
    rw [zs_nec (show 40 + 3 + 2 * i + 1 ≠ 43 + 2 * u0 by omega), zs_at]
    by_cases e : i = u0
    · subst e
      rw [show 40 + 3 + 2 * i = 43 + 2 * i by omega] at this ⊢
      rw [zs_ne (M := A) (j := 0) (by omega), zs_ne (M := A) (j := 1) (by omega), zs_ne (M := A) (j := 2) (by omega), zs_same (M := A), zs_ne (M := A) (j := 4) (by omega), if_pos rfl]
      exact ⟨this.1, this.2.1, this.2.2.1, ⟨rfl, Or.inr ⟨u1, l1, eu1⟩⟩, this.2.2.2.2.1, this.2.2.2.2.2⟩
    · rw [zs_nec (show 40 + 3 + 2 * i ≠ 43 + 2 * u0 by omega), if_neg e]
      exact this
  · obtain ⟨u0, hu0, eu0, nu0⟩ := hb 0 (by decide)
    rw [if_neg (by decide), if_neg (by decide), if_neg (by decide), if_pos (by decide), hv 0 (by decide)]
    refine ⟨rfl, h _ n m (fun a ha => by rw [zs_nec (by omega)]) ?_⟩
    show DJ _ (zs J 87 12 (vs 0)) n m
    have g40 : ∀ x, zs A 40 4 (vs 0) 40 x = if x = 4 then vs 0 else A 40 x := fun x => zs_at
    have u87 : ∀ x, zs J 87 12 (vs 0) 87 x = if x = 12 then vs 0 else J 87 x := fun x => zs_at
    unfold DJ RS
    rw [zs_nec (show 91 ≠ 87 by decide), zs_nec (show 92 ≠ 87 by decide), zs_nec (show 93 ≠ 87 by decide), zs_nec (show 94 ≠ 87 by decide), zs_nec (show 95 ≠ 87 by decide), zs_nec (show 96 ≠ 87 by decide), zs_nec (show 97 ≠ 87 by decide), zs_nec (show 40 + 1 ≠ 40 by decide)]
    refine ⟨hn, hm, ⟨(g40 2).trans f2, (u87 3).trans f2'⟩, ⟨(g40 3).trans f3, (u87 5).trans f3'⟩, ⟨(g40 4).trans (u87 12).symm, ?_⟩, by rw [u87 13]; exact ⟨(g40 5).trans f5.1, f5.2⟩, by rw [u87 14]; exact ⟨(g40 6).trans f6.1, f6.2⟩, by rw [u87 15]; exact ⟨(g40 7).trans f7.1, f7.2⟩, by rw [u87 16]; exact (g40 8).trans f8, by rw [u87 17]; exact (g40 9).trans f9, hf, fun i hi => ?_⟩
    · rw [u87 12]
      exact zle_of (b := 40) (by decide) hu0 eu0 nu0
    · exact RPn_cong (by rw [zs_nec (by omega)]) (by rw [zs_nec (by omega)]) (hP i hi)
  · obtain ⟨u0, hu0, eu0, nu0⟩ := hb 0 (by decide)
    rw [if_neg (by decide), if_neg (by decide), if_neg (by decide), if_neg (by decide), if_pos (by decide), hv 0 (by decide)]
    refine ⟨rfl, h _ n m (fun a ha => by rw [zs_nec (by omega)]) ?_⟩
    show DJ _ (zs J 87 13 (vs 0)) n m
    have g40 : ∀ x, zs A 40 5 (vs 0) 40 x = if x = 5 then vs 0 else A 40 x := fun x => zs_at
    have u87 : ∀ x, zs J 87 13 (vs 0) 87 x = if x = 13 then vs 0 else J 87 x := fun x => zs_at
    unfold DJ RS
    rw [zs_nec (show 91 ≠ 87 by decide), zs_nec (show 92 ≠ 87 by decide), zs_nec (show 93 ≠ 87 by decide), zs_nec (show 94 ≠ 87 by decide), zs_nec (show 95 ≠ 87 by decide), zs_nec (show 96 ≠ 87 by decide), zs_nec (show 97 ≠ 87 by decide), zs_nec (show 40 + 1 ≠ 40 by decide)]
    refine ⟨hn, hm, ⟨(g40 2).trans f2, (u87 3).trans f2'⟩, ⟨(g40 3).trans f3, (u87 5).trans f3'⟩, by rw [u87 12]; exact ⟨(g40 4).trans f4.1, f4.2⟩, ⟨(g40 5).trans (u87 13).symm, ?_⟩, by rw [u87 14]; exact ⟨(g40 6).trans f6.1, f6.2⟩, by rw [u87 15]; exact ⟨(g40 7).trans f7.1, f7.2⟩, by rw [u87 16]; exact (g40 8).trans f8, by rw [u87 17]; exact (g40 9).trans f9, hf, fun i hi => ?_⟩
    · rw [u87 13]
      exact zle_of (b := 9) (by decide) hu0 eu0 nu0
    · exact RPn_cong (by rw [zs_nec (by omega)]) (by rw [zs_nec (by omega)]) (hP i hi)
  · obtain ⟨u0, hu0, eu0, nu0⟩ := hb 0 (by decide)
    rw [if_neg (by decide), if_neg (by decide), if_neg (by decide), if_neg (by decide), if_neg (by decide), hv 0 (by decide)]
    refine ⟨rfl, h _ n m (fun a ha => by rw [zs_nec (by omega)]) ?_⟩
    show DJ _ (zs J 87 14 (vs 0)) n m
    have g40 : ∀ x, zs A 40 6 (vs 0) 40 x = if x = 6 then vs 0 else A 40 x := fun x => zs_at
    have u87 : ∀ x, zs J 87 14 (vs 0) 87 x = if x = 14 then vs 0 else J 87 x := fun x => zs_at
    unfold DJ RS
    rw [zs_nec (show 91 ≠ 87 by decide), zs_nec (show 92 ≠ 87 by decide), zs_nec (show 93 ≠ 87 by decide), zs_nec (show 94 ≠ 87 by decide), zs_nec (show 95 ≠ 87 by decide), zs_nec (show 96 ≠ 87 by decide), zs_nec (show 97 ≠ 87 by decide), zs_nec (show 40 + 1 ≠ 40 by decide)]
    refine ⟨hn, hm, ⟨(g40 2).trans f2, (u87 3).trans f2'⟩, ⟨(g40 3).trans f3, (u87 5).trans f3'⟩, by rw [u87 12]; exact ⟨(g40 4).trans f4.1, f4.2⟩, by rw [u87 13]; exact ⟨(g40 5).trans f5.1, f5.2⟩, ⟨(g40 6).trans (u87 14).symm, ?_⟩, by rw [u87 15]; exact ⟨(g40 7).trans f7.1, f7.2⟩, by rw [u87 16]; exact (g40 8).trans f8, by rw [u87 17]; exact (g40 9).trans f9, hf, fun i hi => ?_⟩
    · rw [u87 14]
      exact zle_of (b := 9) (by decide) hu0 eu0 nu0
    · exact RPn_cong (by rw [zs_nec (by omega)]) (by rw [zs_nec (by omega)]) (hP i hi)
end ZRD
