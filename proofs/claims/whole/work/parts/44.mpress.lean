/-! PRESSES: the reference's -/
def eqJ (B J : zI) : Prop := (∀ a, 91 ≤ a → a ≤ 97 → ∀ j, B a j = J a j) ∧ ∀ j, j < 26 → B 87 j = J 87 j
def mFR (A B : zI) : Prop := (∀ a, a ≠ 87 → a ≠ 103 → (a < 91 ∨ 97 < a) → B a = A a) ∧ B 87 26 = A 87 26
theorem mFR.t {A B C : zI} (h1 : mFR A B) (h2 : mFR B C) : mFR A C := ⟨fun a ha hb hc => (h2.1 a ha hb hc).trans (h1.1 a ha hb hc), h2.2.trans h1.2⟩
theorem eqJ_small {B B' J : zI} (h : eqJ B J) (h1 : ∀ a, a ≠ 87 → a ≠ 103 → B' a = B a) (h2 : ∀ x, x ≠ 27 → B' 87 x = B 87 x) : eqJ B' J ∧ mFR B B' := ⟨⟨fun a ha hb j => by rw [h1 a (by omega) (by omega)]; exact h.1 a ha hb j, fun j hj => by rw [h2 j (by omega)]; exact h.2 j hj⟩, fun a ha hb _ => h1 a ha hb, h2 26 (by decide)⟩
theorem eqJ_w {B J : zI} {f : Nat} {v : Int32} (h : eqJ B J) : eqJ (zs B 87 f v) (zs J 87 f v) := ⟨fun a ha hb x => by rw [zs_nec (by omega), zs_nec (by omega)]; exact h.1 a ha hb x, fun x hx => by
  rw [zs_at, zs_at]
  by_cases e : x = f
  · rw [if_pos e, if_pos e]
  · rw [if_neg e, if_neg e]; exact h.2 x hx⟩
section ZMP
variable {l : Launch} {g : zG} {Q : Option zv → zI → zL → Prop} {I B J : zI} {L : zL} {s N p n m : Nat}
theorem m_sgn (hs : s < 8) (hN : N ≤ 160) (e26 : B 87 26 = nI s) (e27 : B 87 27 = nI p) (e89 : B 89 s = nI N) (hp : p ≤ N) : k_X7_sign B L ∧ v_X7_sign B L = sgP (wdP L s) N p := by
  unfold k_X7_sign v_X7_sign
  rw [e26, zcl (by omega), e27, e89]
  by_cases c : p < N
  · obtain ⟨t1, t2, t3⟩ := at160 hs (show p < 160 by omega)
    rw [if_pos (nI_lt c (by omega)), t2, sg_lt c]
    exact ⟨⟨zvin hs (by decide), fun _ => t3⟩, rfl⟩
  · rw [if_neg (nI_nlt (by omega) (by omega)), sg_ge c]
    exact ⟨⟨zvin hs (by decide), fun h => absurd h (nI_nlt (by omega) (by omega))⟩, rfl⟩
theorem m_isS (hs : s < 8) (hN : N ≤ 160) (e26 : B 87 26 = nI s) (e27 : B 87 27 = nI p) (e89 : B 89 s = nI N) (hp : p ≤ N) {b : Int32} (h1 : sgP (wdP L s) N p = b → Q (some (vI 1)) (zs B 87 27 (nI (p + 1))) L) (h0 : ¬ sgP (wdP L s) N p = b → Q (some (vI 0)) B L) : Call l g 2 M_X7_is [vR 87, vI b] B L Q := by
  obtain ⟨k1, k2⟩ := m_sgn (L := L) hs hN e26 e27 e89 hp
  refine m_X7_is ⟨k1, ?_⟩
  rw [k2]
  by_cases c : sgP (wdP L s) N p = b
  · rw [if_pos c, e27, ← nI_succ]; exact h1 c
  · rw [if_neg c]; exact h0 c
theorem m_wordS {j : Nat} (hj : j < 6) (hs : s < 8) (hN : N ≤ 160) (e26 : B 87 26 = nI s) (e27 : B 87 27 = nI p) (e89 : B 89 s = nI N) (hp : p ≤ N) (h : ∀ B' : zI, (∀ a, a ≠ 87 → B' a = B a) → (∀ x, x ≠ 27 → B' 87 x = B 87 x) → B' 87 27 = nI (pWf (wdP L s) N j (lnP j) 0 p).2 → Q (some (vI (if (pWf (wdP L s) N j (lnP j) 0 p).1 = true then 1 else 0))) B' L) : Call l g 8 M_X7_word [vR 87, vR (2000 + j)] B L Q := by
  obtain ⟨t1, t2, t3⟩ := bs_tab j hj
  generalize hR : pWf (wdP L s) N j (lnP j) 0 p = Rz at h
  refine m_X7_word (fun k hk X E => ?_)
  have lp : ∀ k2 i q (C : zI), i + k2 = lnP j → q ≤ N → (∀ a, a ≠ 87 → C a = B a) → (∀ x, x ≠ 27 → C 87 x = B 87 x) → C 87 27 = nI q → pWf (wdP L s) N j k2 i q = Rz → AW k g 3 C L 2 [(0, vR 87), (1, vR (2000 + j)), (2, vI (nI i))] [] := by
    intro k2
    induction k2 with
    | zero =>
      intro i q C hi hq c1 c2 c3 he
      refine s_X7_word_2 X E ⟨⟨j, hj, rfl⟩, ?_⟩
      rw [zsln_j, if_neg (nI_nlt (by omega) (by omega))]
      have e : pWf (wdP L s) N j 0 i q = (true, q) := rfl
      rw [e] at he
      have := h C c1 c2 (by rw [← he]; exact c3)
      rw [← he, if_pos rfl] at this
      exact this
    | succ k2 ih =>
      intro i q C hi hq c1 c2 c3 he
      refine s_X7_word_2 X E ⟨⟨j, hj, rfl⟩, ?_⟩
      have hil : i < lnP j := by omega
      rw [zsln_j, if_pos (nI_lt hil (by omega))]
      refine ⟨zsin_j hj hil, ?_⟩
      unfold pWf at he
      refine m_isS (B := C) (p := q) (b := bsP j i) hs hN (by rw [c2 26 (by decide)]; exact e26) c3 (by rw [c1 89 (by decide)]; exact e89) hq (fun hsg => ⟨_, rfl, ?_⟩) (fun hsg => ⟨_, rfl, ?_⟩)
      · rw [if_pos hsg] at he
        obtain ⟨hqN, -⟩ := sg_in (t3 i hil) hsg
        try dsimp only
        rw [if_neg (by decide), ← nI_succ]
        exact ih (i + 1) (q + 1) _ (by omega) (by omega) (fun a ha => by rw [zs_nec ha]; exact c1 a ha) (fun x hx => by rw [zs_ne (fun z => hx z.2)]; exact c2 x hx) (by rw [zs_same]) he
      · rw [if_neg hsg] at he
        try dsimp only
        rw [if_pos rfl]
        have := h C c1 c2 (by rw [← he]; exact c3)
        rw [← he, if_neg (show ¬ (false, q).1 = true from Bool.false_ne_true)] at this
        exact this
  exact lp (lnP j) 0 p B (by omega) hp (fun _ _ => rfl) (fun _ _ => rfl) e27 hR
theorem m_word_S {j : Nat} {rm : Bool} {v : Int32} (hv : v = if rm = true then 1 else 0) (hj : j < 6) (hs : s < 8) (hN : N ≤ 160) (e26 : B 87 26 = nI s) (e27 : B 87 27 = nI p) (e89 : B 89 s = nI N) (hp : p ≤ N) (h : ∀ B' : zI, (∀ a, a ≠ 87 → B' a = B a) → (∀ x, x ≠ 27 → B' 87 x = B 87 x) → B' 87 27 = nI (if (pWf (wdP L s) N j (lnP j) 0 p).1 = true then (if rm = true then (pWf (wdP L s) N j (lnP j) 0 p).2 else p) else (pWf (wdP L s) N j (lnP j) 0 p).2) → Q (some (vI (if (pWf (wdP L s) N j (lnP j) 0 p).1 = true then (if rm = true then 1 else 0) else 0))) B' L) : Call l g 9 M_X7_word_ [vR 87, vR (2000 + j), vI v] B L Q := by
  refine m_X7_word_ (m_wordS hj hs hN e26 e27 e89 hp (fun C c1 c2 c3 => ⟨_, rfl, ?_⟩))
  dsimp only
  by_cases hw : (pWf (wdP L s) N j (lnP j) 0 p).1 = true
  · rw [if_pos hw] at h ⊢
    rw [if_neg (show ¬ (1 : Int32) = 0 by decide), if_neg (show ¬ (1 : Int32) = 0 by decide)]
    rw [if_pos hw] at h
    cases rm
    · rw [if_neg Bool.false_ne_true] at hv h
      rw [hv, if_pos rfl]
      rintro I10 rfl
      rw [if_pos rfl]
      rw [if_neg Bool.false_ne_true] at h
      exact h _ (fun a ha => by rw [zs_nec ha]; exact c1 a ha) (fun x hx => by rw [zs_ne (fun z => hx z.2)]; exact c2 x hx) (by rw [zs_same]; exact e27)
    · rw [if_pos rfl] at hv h
      rw [hv, if_neg (show ¬ (1 : Int32) = 0 by decide), if_neg (show ¬ (1 : Int32) = 0 by decide)]
      rw [if_pos rfl] at h
      exact h C c1 c2 c3
  · rw [if_neg hw] at h ⊢
    rw [if_neg hw] at h
    rw [if_pos rfl, if_pos rfl]
    exact h C c1 c2 c3
theorem m_numS {i : Nat} {most : Int32} (hi : i < 3) (hs : s < 8) (hN : N ≤ 160) (e26 : B 87 26 = nI s) (e27 : B 87 27 = nI p) (e89 : B 89 s = nI N) (hp : p ≤ N) (h1 : (pN (wdP L s) N most p).1 = true → ∀ B' : zI, (∀ a, a ≠ 87 → a ≠ 103 → B' a = B a) → (∀ x, x ≠ 27 → B' 87 x = B 87 x) → B' 87 27 = nI (pN (wdP L s) N most p).2.1 → (∀ x, B' 103 x = if x = i then (pN (wdP L s) N most p).2.2 else B 103 x) → Q (some (vI 1)) B' L) (h0 : ¬ (pN (wdP L s) N most p).1 = true → ∀ B' : zI, (∀ a, a ≠ 87 → a ≠ 103 → B' a = B a) → (∀ x, x ≠ 27 → B' 87 x = B 87 x) → B' 87 27 = nI (pN (wdP L s) N most p).2.1 → Q (some (vI 0)) B' L) : Call l g 3 M_X7_number [vR 87, vI (nI i), vI most] B L Q := by
  refine m_X7_number (fun k hk X E => ?_)
  refine m_isS (b := 32) hs hN e26 e27 e89 hp (fun hsg => ⟨_, rfl, ?_⟩) (fun hsg => ⟨_, rfl, ?_⟩)
  · obtain ⟨hpN, -⟩ := sg_in (by decide) hsg
    try dsimp only
    rw [if_neg (by decide), zs_same]
    have fin : ∀ q v (C : zI), q ≤ N → p + 1 ≤ q → (∀ a, a ≠ 87 → C a = B a) → (∀ x, x ≠ 27 → C 87 x = B 87 x) → C 87 27 = nI q → (q, v) = pD (wdP L s) N 5 (p + 1) 0 → if (C 87 27) = nI (p + 1) then (Q (some (vI 0)) C L) else (vp_in (nI i) 3 ∧ ((∀ I6 : zI, I6 = (zs C 103 (nI i).toNatClampNeg v) → if most < v then (Q (some (vI 0)) (zs I6 87 27 (nI (p + 1))) L) else (Q (some (vI 1)) I6 L)))) := by
      intro q v C hq hpq c1 c2 c3 he
      rw [c3]
      by_cases g1 : q = p + 1
      · rw [if_pos (by rw [g1])]
        have hf := pN_f1 (most := most) hsg (Or.inl (by rw [← he]; exact g1))
        rw [hf] at h0
        exact h0 Bool.false_ne_true C (fun a ha _ => c1 a ha) c2 (by rw [c3, g1])
      · rw [if_neg (fun e => g1 ((n_eq (by omega) (by omega)).mp e)), zcl (by omega)]
        refine ⟨zvin hi (by decide), ?_⟩
        rintro I6 rfl
        by_cases g2 : most < v
        · rw [if_pos g2]
          have hf := pN_f1 (most := most) hsg (Or.inr (by rw [← he]; exact g2))
          rw [hf] at h0
          exact h0 Bool.false_ne_true _ (fun a ha hb => by rw [zs_nec ha, zs_nec hb]; exact c1 a ha) (fun x hx => by rw [zs_ne (fun z => hx z.2), zs_nec (by decide)]; exact c2 x hx) (by rw [zs_same])
        · rw [if_neg g2]
          have hf := pN_t (most := most) hsg (by rw [← he]; exact g1) (by rw [← he]; exact g2)
          rw [← he] at hf
          rw [hf] at h1
          exact h1 rfl _ (fun a ha hb => by rw [zs_nec hb]; exact c1 a ha) (fun x hx => by rw [zs_nec (by decide)]; exact c2 x hx) (by rw [zs_nec (by decide)]; exact c3) (fun x => by rw [zs_at, c1 103 (by decide)])
    have lp : ∀ k2 q v (C : zI), k2 ≤ 5 → q = p + 1 + (5 - k2) → q ≤ N → (∀ a, a ≠ 87 → C a = B a) → (∀ x, x ≠ 27 → C 87 x = B 87 x) → C 87 27 = nI q → pD (wdP L s) N k2 q v = pD (wdP L s) N 5 (p + 1) 0 → AW k g 5 C L 19 [(0, vR 87), (1, vI (nI i)), (2, vI most), (3, vI (nI (p + 1))), (4, vI v)] [] := by
      intro k2
      induction k2 with
      | zero =>
        intro q v C _ hq5 hq c1 c2 c3 he
        refine s_X7_number_19 X E ?_
        have := fin q v C hq (by omega) c1 c2 c3 he
        rw [c3] at this ⊢
        rw [pk_sub (by omega), if_neg (show ¬ nI (q - (p + 1)) < 5 from (nI_nlt (a := q - (p + 1)) (b := 5) (by omega) (by omega) : ¬ nI (q - (p + 1)) < nI 5))]
        exact this
      | succ k2 ih =>
        intro q v C h5 hq5 hq c1 c2 c3 he
        refine s_X7_number_19 X E ?_
        have hfin : (q, v) = pD (wdP L s) N 5 (p + 1) 0 → _ := fin q v C hq (by omega) c1 c2 c3
        obtain ⟨k1, k2'⟩ := m_sgn (L := L) hs hN (by rw [c2 26 (by decide)]; exact e26) c3 (by rw [c1 89 (by decide)]; exact e89) hq
        rw [k2']
        rw [c3] at hfin ⊢
        rw [pk_sub (by omega), if_pos (show nI (q - (p + 1)) < 5 from (nI_lt (b := 5) (show q - (p + 1) < 5 by omega) (by decide) : nI (q - (p + 1)) < nI 5))]
        refine ⟨k1, ?_⟩
        unfold pD at he
        by_cases d1 : sgP (wdP L s) N q < 48
        · rw [if_pos d1] at he ⊢
          exact hfin he
        · by_cases d2 : 57 < sgP (wdP L s) N q
          · rw [if_neg d1, if_pos d2] at he ⊢
            exact ⟨k1, hfin he⟩
          · rw [if_neg d1, if_neg d2] at he ⊢
            have hqN := dig_pos d1
            refine ⟨k1, k1, ?_⟩
            rw [← nI_succ, Int32.mul_comm 10 v]
            exact ih (q + 1) _ _ (by omega) (by omega) (by omega) (fun a ha => by rw [zs_nec ha]; exact c1 a ha) (fun x hx => by rw [zs_ne (fun z => hx z.2)]; exact c2 x hx) (by rw [zs_same]) he
    exact lp 5 (p + 1) 0 _ (Nat.le_refl _) (by omega) (by omega) (fun a ha => by rw [zs_nec ha]) (fun x hx => by rw [zs_ne (fun z => hx z.2)]) (by rw [zs_same]) rfl
  · try dsimp only
    rw [if_pos rfl]
    rw [pN_f0 hsg] at h0
    exact h0 Bool.false_ne_true B (fun _ _ _ => rfl) (fun _ _ => rfl) e27
theorem pIt_1 {w : Nat → Int32} {j : Nat} (hc : cntJ j = 1) : pIt w N J j p = if (pWf w N j (lnP j) 0 p).1 = true then (if roomP J j = true then (if (pN w N (mstP J j 0) (pWf w N j (lnP j) 0 p).2).1 = true then (true, (pN w N (mstP J j 0) (pWf w N j (lnP j) 0 p).2).2.1, updJ J j (upd (fun _ => 0) 0 (pN w N (mstP J j 0) (pWf w N j (lnP j) 0 p).2).2.2)) else (false, (pN w N (mstP J j 0) (pWf w N j (lnP j) 0 p).2).2.1, J)) else (false, p, J)) else (false, (pWf w N j (lnP j) 0 p).2, J) := by
  unfold pIt
  rw [hc]
  by_cases h : (pN w N (mstP J j 0) (pWf w N j (lnP j) 0 p).2).1 = true
  · have e : pNs w N (mstP J j) 1 0 (pWf w N j (lnP j) 0 p).2 (fun _ => 0) = (true, (pN w N (mstP J j 0) (pWf w N j (lnP j) 0 p).2).2.1, upd (fun _ => 0) 0 (pN w N (mstP J j 0) (pWf w N j (lnP j) 0 p).2).2.2) := by
      show (if (pN w N (mstP J j 0) (pWf w N j (lnP j) 0 p).2).1 = true then _ else _) = _
      rw [if_pos h]
      rfl
    rw [e, if_pos rfl, if_pos h]
  · have e : pNs w N (mstP J j) 1 0 (pWf w N j (lnP j) 0 p).2 (fun _ => 0) = (false, (pN w N (mstP J j 0) (pWf w N j (lnP j) 0 p).2).2.1, fun _ => 0) := by
      show (if (pN w N (mstP J j 0) (pWf w N j (lnP j) 0 p).2).1 = true then _ else _) = _
      rw [if_neg h]
    rw [e, if_neg (show ¬ (false, (pN w N (mstP J j 0) (pWf w N j (lnP j) 0 p).2).2.1, fun (_ : Nat) => (0 : Int32)).1 = true from Bool.false_ne_true), if_neg h]
/-- a word with one number: cold, wet, out -/
theorem m_oneW {j f : Nat} (hj : j = 3 ∧ f = 12 ∨ j = 4 ∧ f = 13 ∨ j = 5 ∧ f = 14) (hs : s < 8) (hN : N ≤ 160) (e26 : B 87 26 = nI s) (e27 : B 87 27 = nI p) (e89 : B 89 s = nI N) (hp : p ≤ N) (hJ : eqJ B J) (h : ∀ B' : zI, mFR B B' → B' 87 27 = nI (pIt (wdP L s) N J j p).2.1 → eqJ B' (pIt (wdP L s) N J j p).2.2 → Q (some (vI (if (pIt (wdP L s) N J j p).1 = true then 1 else 0))) B' L) : Call l g 8 M_X7_word [vR 87, vR (2000 + j)] B L (zi fun r4 I4 L4 => if r4 = 0 then (Q (some (vI 0)) I4 L4) else (Call l g 3 M_X7_number [vR 87, vI 0, vI (mstP J j 0)] I4 L4 (zi fun r6 I6 L6 => if r6 = 0 then (Q (some (vI 0)) I6 L6) else (Q (some (vI 1)) (zs I6 87 f (I6 103 0)) L6)))) := by
  have hj6 : j < 6 := by omega
  have hcn : cntJ j = 1 := by rcases hj with ⟨rfl, -⟩ | ⟨rfl, -⟩ | ⟨rfl, -⟩ <;> rfl
  have hrm : roomP J j = true := by rcases hj with ⟨rfl, -⟩ | ⟨rfl, -⟩ | ⟨rfl, -⟩ <;> rfl
  have hup : ∀ v : Int32, updJ J j (upd (fun _ => 0) 0 v) = zs J 87 f v := fun v => by rcases hj with ⟨rfl, rfl⟩ | ⟨rfl, rfl⟩ | ⟨rfl, rfl⟩ <;> rfl
  have hf26 : f < 26 := by omega
  rw [pIt_1 hcn, if_pos hrm] at h
  have hpos := pWf_pos (w := wdP L s) (N := N) hj6 (lnP j) 0 p (by omega) hp
  refine m_wordS hj6 hs hN e26 e27 e89 hp (fun C c1 c2 c3 => ⟨_, rfl, ?_⟩)
  dsimp only
  obtain ⟨eC, fC⟩ := eqJ_small hJ (fun a ha _ => c1 a ha) c2
  by_cases hw : (pWf (wdP L s) N j (lnP j) 0 p).1 = true
  · rw [if_pos hw] at h ⊢
    rw [if_neg (by decide)]
    refine m_numS (i := 0) (by decide) hs hN (by rw [c2 26 (by decide)]; exact e26) c3 (by rw [c1 89 (by decide)]; exact e89) hpos.1 (fun hn D d1 d2 d3 d4 => ⟨_, rfl, ?_⟩) (fun hn D d1 d2 d3 => ⟨_, rfl, ?_⟩)
    · rw [if_pos hn, hup] at h
      try dsimp only
      rw [if_neg (by decide), d4 0, if_pos rfl]
      obtain ⟨eD, fD⟩ := eqJ_small eC d1 d2
      exact h _ (fC.t (fD.t ⟨fun a ha hb hc => by rw [zs_nec ha], by rw [zs_ne (by omega)]⟩)) (by rw [zs_ne (by omega)]; exact d3) (eqJ_w eD)
    · rw [if_neg hn] at h
      try dsimp only
      rw [if_pos rfl]
      obtain ⟨eD, fD⟩ := eqJ_small eC d1 d2
      exact h D (fC.t fD) d3 eD
  · rw [if_neg hw] at h ⊢
    rw [if_pos rfl]
    exact h C fC c3 eC
end ZMP
