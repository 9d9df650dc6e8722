/-! PRESSES: the class's items -/
theorem pN_t {w : Nat → Int32} {N p : Nat} {most : Int32} (h : sgP w N p = 32) (h1 : ¬ (pD w N 5 (p + 1) 0).1 = p + 1) (h2 : ¬ most < (pD w N 5 (p + 1) 0).2) : pN w N most p = (true, (pD w N 5 (p + 1) 0).1, (pD w N 5 (p + 1) 0).2) := by
  unfold pN
  rw [if_pos h, if_neg h1, if_neg h2]
theorem pN_f1 {w : Nat → Int32} {N p : Nat} {most : Int32} (h : sgP w N p = 32) (h1 : (pD w N 5 (p + 1) 0).1 = p + 1 ∨ most < (pD w N 5 (p + 1) 0).2) : pN w N most p = (false, p + 1, 0) := by
  unfold pN
  rw [if_pos h]
  by_cases c : (pD w N 5 (p + 1) 0).1 = p + 1
  · rw [if_pos c]
  · rw [if_neg c, if_pos (h1.resolve_left c)]
theorem pN_f0 {w : Nat → Int32} {N p : Nat} {most : Int32} (h : ¬ sgP w N p = 32) : pN w N most p = (false, p, 0) := by
  unfold pN
  rw [if_neg h]
theorem pNs_t {w : Nat → Int32} {N p k i q : Nat} {mst vs : Nat → Int32} {v : Int32} (h : pN w N (mst i) p = (true, q, v)) : pNs w N mst (k + 1) i p vs = pNs w N mst k (i + 1) q (upd vs i v) := by
  show (if (pN w N (mst i) p).1 = true then _ else _) = _
  rw [h]
  rfl
theorem pNs_f {w : Nat → Int32} {N p k i q : Nat} {mst vs : Nat → Int32} {v : Int32} (h : pN w N (mst i) p = (false, q, v)) : pNs w N mst (k + 1) i p vs = (false, q, vs) := by
  show (if (pN w N (mst i) p).1 = true then _ else _) = _
  rw [h]
  rfl
theorem tab_no : ∀ j, j < 6 → v_X2_numbersOf (nI j) = nI (cntJ j) ∧ v_X2_lettersOf (nI j) = 2000 + j ∧ cntJ j ≤ 3 := by decide +kernel
section ZIT
variable {l : Launch} {g : zG} {Q : Option zv → zI → zL → Prop} {I A J : zI} {L : zL} {s N p n m : Nat}
theorem c_nums {k : zK} (X : zX k g cX2_itemStands RX2 6 (some .boolean) 9) (E : zE k g Q) {j : Nat} (hj : j < 6) (hs : s < 8) (hN : N ≤ 160) (eN : A (66 + 2 * s) 2 = nI N) (hC : wdC A L s N) (e1 : A 82 1 = nI p) (hp : p ≤ N) (e3 : A 40 3 = J 87 5) (e2 : A 40 2 = J 87 3) (h1 : (pNs (wdP L s) N (mstP J j) (cntJ j) 0 p (fun _ => 0)).1 = true → ∀ B : zI, (∀ a, a ≠ 82 → a ≠ 83 → B a = A a) → (∀ x, x ≠ 1 → B 82 x = A 82 x) → B 82 1 = nI (pNs (wdP L s) N (mstP J j) (cntJ j) 0 p (fun _ => 0)).2.1 → (∀ i, i < cntJ j → B 83 i = (pNs (wdP L s) N (mstP J j) (cntJ j) 0 p (fun _ => 0)).2.2 i) → Call (kl k) g 3 M_X2_tell [vR 82, vI (nI j), vR 40] B L (zn fun I8 L8 => Q (some (vI 1)) I8 L8)) (h0 : ¬ (pNs (wdP L s) N (mstP J j) (cntJ j) 0 p (fun _ => 0)).1 = true → ∀ B : zI, (∀ a, a ≠ 82 → a ≠ 83 → B a = A a) → B 82 2 = nI (pNs (wdP L s) N (mstP J j) (cntJ j) 0 p (fun _ => 0)).2.1 → Q (some (vI 0)) B L) : AW k g 6 A L 81 [(0, vR 82), (1, vR (66 + 2 * s)), (2, vR 40), (4, vI (nI j)), (5, vI 0)] [] := by
  obtain ⟨t1, t2, t3⟩ := tab_no j hj
  have lp : ∀ k2 i q (vs : Nat → Int32) (B : zI), i + k2 = cntJ j → q ≤ N → (∀ a, a ≠ 82 → a ≠ 83 → B a = A a) → (∀ x, x ≠ 1 → B 82 x = A 82 x) → B 82 1 = nI q → (∀ i', i' < i → B 83 i' = vs i') → pNs (wdP L s) N (mstP J j) k2 i q vs = pNs (wdP L s) N (mstP J j) (cntJ j) 0 p (fun _ => 0) → AW k g 6 B L 81 [(0, vR 82), (1, vR (66 + 2 * s)), (2, vR 40), (4, vI (nI j)), (5, vI (nI i))] [] := by
    intro k2
    induction k2 with
    | zero =>
      intro i q vs B hi hq b1 b2 b3 b4 he
      refine s_X2_itemStands_81 X E ?_
      rw [t1, if_neg (nI_nlt (by omega) (by omega))]
      have e : pNs (wdP L s) N (mstP J j) 0 i q vs = (true, q, vs) := rfl
      rw [e] at he
      rw [← he] at h1
      exact h1 rfl B b1 b2 b3 (fun i' hi' => b4 i' (by omega))
    | succ k2 ih =>
      intro i q vs B hi hq b1 b2 b3 b4 he
      refine s_X2_itemStands_81 X E ?_
      have hi3 : i < 3 := by omega
      rw [t1, if_pos (nI_lt (show i < cntJ j by omega) (by omega)), if_pos (show nI i < 3 from (nI_lt hi3 (by decide) : nI i < nI 3))]
      have b66 : B (66 + 2 * s) = A (66 + 2 * s) := b1 _ (by omega) (by omega)
      have b40 : B 40 = A 40 := b1 40 (by decide) (by decide)
      refine c_sign (A := B) (p := q) (b := 32) hs hN (by rw [b66]; exact eN) (wdC_t hC b66) b3 hq (by decide) (fun hsg => ⟨_, rfl, ?_⟩) (fun hsg => ⟨_, rfl, ?_⟩)
      · obtain ⟨hqN, -⟩ := sg_in (by decide) hsg
        try dsimp only
        rw [if_neg (by decide)]
        refine c_mostOf hj hi3 (by rw [zs_nec (by decide), b40]; exact e3) (by rw [zs_nec (by decide), b40]; exact e2) ⟨_, rfl, ?_⟩
        refine c_number (A := zs B 82 1 (nI (q + 1))) (p := q + 1) hi3 hs hN (by rw [zs_nec (by omega), b66]; exact eN) (wdC_t hC (by rw [zs_nec (by omega), b66])) (by rw [zs_same]) (by omega) (fun g1 g2 C k1 k2' k3 k4 => ⟨_, rfl, ?_⟩) (fun g1 C k1 k3 => ⟨_, rfl, ?_⟩)
        · try dsimp only
          rw [if_neg (by decide), ← nI_succ]
          have hpn := pN_t (most := mstP J j i) hsg g1 g2
          rw [pNs_t hpn] at he
          have hd := pD5 (w := wdP L s) (N := N) (p := q + 1) (by omega)
          refine ih (i + 1) _ _ C (by omega) hd.2.1 (fun a ha hb => by rw [k1 a ha hb, zs_nec ha]; exact b1 a ha hb) (fun x hx => by rw [k2' x hx, zs_ne (fun z => hx z.2)]; exact b2 x hx) k3 (fun i' hi' => ?_) he
          rw [k4 i']
          by_cases e : i' = i
          · rw [if_pos e, e]; simp [upd]
          · rw [if_neg e, zs_nec (by decide), b4 i' (by omega)]; simp [upd, e]
        · try dsimp only
          rw [if_pos rfl]
          rw [pNs_f (pN_f1 (most := mstP J j i) hsg g1)] at he
          rw [← he] at h0
          exact h0 Bool.false_ne_true C (fun a ha hb => by rw [k1 a ha, zs_nec ha]; exact b1 a ha hb) k3
      · try dsimp only
        rw [if_pos rfl]
        rw [pNs_f (pN_f0 (most := mstP J j i) hsg)] at he
        rw [← he] at h0
        exact h0 Bool.false_ne_true _ (fun a ha hb => by rw [zs_nec ha]; exact b1 a ha hb) (by rw [zs_same])
  exact lp (cntJ j) 0 p (fun _ => 0) A (by omega) hp (fun _ _ _ => rfl) (fun _ _ => rfl) e1 (fun _ hh => absurd hh (Nat.not_lt_zero _)) rfl
theorem c_room {j : Nat} (hj : j < 6) (hD : DJ A J n m) (h : Q (some (vI (if roomP J j = true then 1 else 0))) A L) : Call l g 2 M_X2_hasRoomFor [vI (nI j), vR 40] A L Q := by
  obtain ⟨hn, hm, ⟨f2, f2'⟩, ⟨f3, f3'⟩, -⟩ := hD
  refine m_X2_hasRoomFor ?_
  unfold roomP at h
  have hc : j = 0 ∨ j = 1 ∨ (¬ j = 0 ∧ ¬ j = 1 ∧ ¬ nI j = 0 ∧ ¬ nI j = 1) := by
    by_cases e0 : j = 0
    · exact Or.inl e0
    · by_cases e1 : j = 1
      · exact Or.inr (Or.inl e1)
      · refine Or.inr (Or.inr ⟨e0, e1, ?_, ?_⟩)
        · rw [show (0 : Int32) = nI 0 from rfl, n_eq (by omega) (by decide)]; exact e0
        · rw [show (1 : Int32) = nI 1 from rfl, n_eq (by omega) (by decide)]; exact e1
  rcases hc with rfl | rfl | ⟨e0, e1, e2, e3⟩
  · rw [if_pos (by decide)]
    rw [if_pos rfl, f2'] at h
    refine ⟨rfl, ?_⟩
    unfold v_X4_hasLetterRoom
    rw [f2, if_neg (nI_pos (by omega))]
    by_cases c : nI n < 8
    · rw [if_pos (decide_eq_true c)] at h; rw [if_pos c]; exact h
    · rw [if_neg (fun e => c (of_decide_eq_true e))] at h; rw [if_neg c]; exact h
  · try dsimp only
    rw [if_neg (by decide), if_pos (by decide)]
    rw [if_neg (show ¬ (1 : Nat) = 0 by decide), if_pos rfl, f3'] at h
    refine ⟨rfl, ?_⟩
    unfold v_X4_hasPaneRoom
    rw [f3, if_neg (nI_pos (by omega))]
    by_cases c : nI m < 8
    · rw [if_pos (decide_eq_true c)] at h; rw [if_pos c]; exact h
    · rw [if_neg (fun e => c (of_decide_eq_true e))] at h; rw [if_neg c]; exact h
  · rw [if_neg e2, if_neg e3]
    rw [if_neg e0, if_neg e1, if_pos rfl] at h
    exact h
theorem c_item (hs : s < 8) (hN : N ≤ 160) (eN : A (66 + 2 * s) 2 = nI N) (hC : wdC A L s N) (e1 : A 82 1 = nI p) (hp : p ≤ N) (hD : DJ A J n m) (h1 : (pItem (wdP L s) N J p).1 = true → ∀ (A' : zI) (n' m' : Nat), (∀ a, a ≠ 82 → a ≠ 83 → (a < 40 ∨ 58 < a) → A' a = A a) → A' 82 2 = A 82 2 → A' 82 1 = nI (pItem (wdP L s) N J p).2.1 → DJ A' (pItem (wdP L s) N J p).2.2 n' m' → Q (some (vI 1)) A' L) (h0 : ¬ (pItem (wdP L s) N J p).1 = true → ∀ A' : zI, (∀ a, a ≠ 82 → a ≠ 83 → (a < 40 ∨ 58 < a) → A' a = A a) → A' 82 2 = nI (pItem (wdP L s) N J p).2.1 → Q (some (vI 0)) A' L) : Call l g 9 M_X2_itemStands [vR 82, vR (66 + 2 * s), vR 40] A L Q := by
  refine m_X2_itemStands (fun k hk X E => ⟨zshS s hs, ?_⟩)
  intro u4 e4
  have eu : u4 = v_X2_wordFrom (sgP (wdP L s) N p) := by
    rw [e4, e1, eN]
    by_cases c : p < N
    · rw [if_pos (nI_lt c (by omega)), hC p c, sg_lt c]
    · rw [if_neg (nI_nlt (by omega) (by omega)), sg_ge c]; rfl
  rw [eu, e1]
  unfold pItem at h1 h0
  rcases wf_cases (sgP (wdP L s) N p) with hw | ⟨j, hj, ej, -⟩
  · rw [if_pos hw] at h1 h0
    rw [if_pos hw]
    exact m_X2_failAt ⟨_, rfl, Or.inl rfl, h0 Bool.false_ne_true _ (fun a ha hb hc => by rw [zs_nec ha]) (by rw [zs_same])⟩
  have hne : ¬ nI j = -1 := fun e => n_neg (a := -1) (by decide) j (by omega) e.symm
  rw [ej, if_neg hne, zcl (by omega)] at h1 h0
  obtain ⟨t1, t2, t3⟩ := tab_no j hj
  rw [ej, if_neg hne, t2]
  unfold pIt at h1 h0
  have hpos := pWf_pos (w := wdP L s) (N := N) hj (lnP j) 0 p (by omega) hp
  refine c_letters hj hs hN eN hC e1 hp (fun hl B b1 b2 b3 => ⟨_, rfl, ?_⟩) (fun hl B b1 b3 => ⟨_, rfl, ?_⟩)
  · rw [if_pos hl] at h1 h0
    try dsimp only
    rw [if_neg (by decide)]
    have hDB : DJ B J n m := DJ_cong hD (fun a ha hb => b1 a (by omega))
    refine c_room hj hDB ⟨_, rfl, ?_⟩
    by_cases hr : roomP J j = true
    · rw [if_pos hr] at h1 h0
      try dsimp only
      rw [if_pos hr, if_neg (by decide)]
      obtain ⟨hn, hm, ⟨f2, f2'⟩, ⟨f3, f3'⟩, -⟩ := id hDB
      have b66 : B (66 + 2 * s) = A (66 + 2 * s) := b1 _ (by omega)
      have hns := pNs_pos (w := wdP L s) (N := N) (mst := mstP J j) (cntJ j) 0 (pWf (wdP L s) N j (lnP j) 0 p).2 (fun _ => 0) hpos.1 (fun i' hi' => absurd hi' (Nat.not_lt_zero _))
      refine c_nums X E hj hs hN (by rw [b66]; exact eN) (wdC_t hC b66) b3 hpos.1 (f3.trans f3'.symm) (f2.trans f2'.symm) (fun hok C c1 c2 c3 c4 => ?_) (fun hok C c1 c3 => ?_)
      · rw [if_pos hok] at h1
        refine c_tell (n := n) (m := m) hj (DJ_cong hDB (fun a ha hb => c1 a (by omega) (by omega))) hr c4 (fun i hi => (hns.2 hok).2 i (by omega)) (fun D n' m' d1 d2 => ⟨rfl, h1 rfl D n' m' (fun a ha hb hc => by rw [d1 a hc, c1 a ha hb]; exact b1 a ha) ?_ ?_ d2⟩)
        · rw [d1 82 (by decide), c2 2 (by decide)]; exact b2 2 (by decide)
        · rw [d1 82 (by decide)]; exact c3
      · rw [if_neg hok] at h0
        exact h0 Bool.false_ne_true C (fun a ha hb hc => by rw [c1 a ha hb]; exact b1 a ha) c3
    · rw [if_neg hr] at h0
      try dsimp only
      rw [if_neg hr, if_pos rfl]
      exact m_X2_failAt ⟨_, rfl, Or.inl rfl, h0 Bool.false_ne_true _ (fun a ha hb hc => by rw [zs_nec ha]; exact b1 a ha) (by rw [zs_same])⟩
  · rw [if_neg hl] at h0
    try dsimp only
    rw [if_pos rfl]
    exact h0 Bool.false_ne_true B (fun a ha hb hc => b1 a ha) b3
theorem c_run (hs : s < 8) (hN : N ≤ 160) (eN : A (66 + 2 * s) 2 = nI N) (hC : wdC A L s N) (hD : DJ A J n m) (h1 : (pRun (wdP L s) N (N + 1) J 0 0).1 = true → ∀ (A' : zI) (n' m' : Nat), (∀ a, a ≠ 82 → a ≠ 83 → (a < 40 ∨ 58 < a) → A' a = A a) → A' 82 2 = -1 → DJ A' (pRun (wdP L s) N (N + 1) J 0 0).2.2 n' m' → (pRun (wdP L s) N (N + 1) J 0 0).2.1 ≤ 200 → Q (some (vI (nI (pRun (wdP L s) N (N + 1) J 0 0).2.1))) A' L) (h0 : ¬ (pRun (wdP L s) N (N + 1) J 0 0).1 = true → ∀ A' : zI, (∀ a, a ≠ 82 → a ≠ 83 → (a < 40 ∨ 58 < a) → A' a = A a) → A' 82 2 = nI (pRun (wdP L s) N (N + 1) J 0 0).2.1 → Q (some (vI (-1))) A' L) : Call l g 10 M_X2_itemsOf [vR 82, vR (66 + 2 * s), vR 40] A L Q := by
  generalize hR : pRun (wdP L s) N (N + 1) J 0 0 = Rz at h1 h0
  refine m_X2_itemsOf (fun k hk X E => ?_)
  rintro I1 rfl
  have lp : ∀ f (J' : zI) q c (B : zI) (n' m' : Nat), N - q < f → 2 * c ≤ q → q ≤ N → (∀ a, a ≠ 82 → a ≠ 83 → (a < 40 ∨ 58 < a) → B a = A a) → B 82 2 = -1 → B 82 1 = nI q → DJ B J' n' m' → pRun (wdP L s) N f J' q c = Rz → AW k g 4 B L 12 [(0, vR 82), (1, vR (66 + 2 * s)), (2, vR 40), (3, vI (nI (c + 1)))] [] := by
    intro f
    induction f with
    | zero => intro J' q c B n' m' hf; omega
    | succ f ih =>
      intro J' q c B n' m' hf hcq hq b1 b2 b3 hDB he
      refine s_X2_itemsOf_12 X E ?_
      rw [if_neg (show ¬ 160 < nI (c + 1) from (nI_nlt (a := 160) (b := c + 1) (by omega) (by decide) : ¬ nI 160 < nI (c + 1)))]
      have b66 : B (66 + 2 * s) = A (66 + 2 * s) := b1 _ (by omega) (by omega) (by omega)
      have hpos := pItem_pos (w := wdP L s) (N := N) (J := J') hq
      unfold pRun at he
      refine c_item (A := B) (J := J') (p := q) hs hN (by rw [b66]; exact eN) (wdC_t hC b66) b3 hq hDB (fun hok C n2 m2 c1 c2 c3 c4 => ⟨_, rfl, ?_⟩) (fun hok C c1 c3 => ⟨_, rfl, ?_⟩)
      · rw [if_pos hok] at he
        have c66 : C (66 + 2 * s) = A (66 + 2 * s) := (c1 _ (by omega) (by omega) (by omega)).trans b66
        try dsimp only
        rw [if_neg (by decide)]
        refine ⟨zshS s hs, ?_⟩
        rw [c3, c66, eN]
        have hgt := (hpos.2.1 hok).1
        by_cases hend : (pItem (wdP L s) N J' q).2.1 = N
        · rw [if_pos hend] at he
          rw [hend, if_neg (nI_nlt (Nat.le_refl _) (by omega))]
          rw [← he] at h1
          exact h1 rfl C n2 m2 (fun a ha hb hc => (c1 a ha hb hc).trans (b1 a ha hb hc)) (c2.trans b2) c4 (by show c + 1 ≤ 200; omega)
        · rw [if_neg hend] at he
          rw [if_pos (nI_lt (show (pItem (wdP L s) N J' q).2.1 < N by omega) (by omega))]
          refine c_sign (A := C) (p := (pItem (wdP L s) N J' q).2.1) (b := 59) hs hN (by rw [c66]; exact eN) (wdC_t hC c66) c3 hpos.1 (by decide) (fun hsg => ⟨_, rfl, ?_⟩) (fun hsg => ⟨_, rfl, ?_⟩)
          · rw [if_pos hsg] at he
            try dsimp only
            rw [if_neg (by decide), ← nI_succ]
            exact ih _ _ (c + 1) _ n2 m2 (by omega) (by omega) (by omega) (fun a ha hb hc => by rw [zs_nec ha]; exact (c1 a ha hb hc).trans (b1 a ha hb hc)) (by rw [zs_ne (by omega)]; exact c2.trans b2) (by rw [zs_same]) (DJ_cong c4 (fun a ha hb => by rw [zs_nec (by omega)])) he
          · rw [if_neg hsg] at he
            try dsimp only
            rw [if_pos rfl]
            rw [← he] at h0
            exact h0 Bool.false_ne_true _ (fun a ha hb hc => by rw [zs_nec ha]; exact (c1 a ha hb hc).trans (b1 a ha hb hc)) (by rw [zs_same])
      · rw [if_neg hok] at he
        try dsimp only
        rw [if_pos rfl]
        rw [← he] at h0
        exact h0 Bool.false_ne_true C (fun a ha hb hc => (c1 a ha hb hc).trans (b1 a ha hb hc)) c3
  exact lp (N + 1) J 0 0 _ n m (by omega) (by omega) (by omega) (fun a ha hb hc => by rw [zs_nec ha, zs_nec ha]) (by rw [zs_same]) (by rw [zs_ne (by omega), zs_same]; rfl) (DJ_cong hD (fun a ha hb => by rw [zs_nec (by omega), zs_nec (by omega)])) hR
end ZIT
