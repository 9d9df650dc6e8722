/-! OPERATIONS: prints; the reference, and both -/
section ZPS
variable {l : Launch} {g : zG} {Q : Option zv → zI → zL → Prop} {I : zI} {L : zL} {nl m s n N h : Nat} {k : zK} {a4 y6 y7 y9 y10 : Int32}
theorem ne_bool {a b : Bool} (h : a ≠ b) : (a = true ∧ b = false) ∨ (a = false ∧ b = true) := by
  cases a <;> cases b <;> simp_all
theorem m_cmp (X : zX k g cX7_prints RX7 12 (some .int) 5) (E : zE k g Q) {A : zI} (hm : m ≤ 8) (hnm : n ≤ m) {c c' : Nat} (hc : c < 2 ^ m) (hc' : c' < 2 ^ m) (hne : c ≠ c') (n1 : cnA (chP m c) m = n) (n2 : cnA (chP m c') m = n) (h4 : ∀ p, p < m → chP m c p = true → A 104 (cnA (chP m c) p) = nI p) (h5 : ∀ p, p < m → chP m c' p = true → A 105 (cnA (chP m c') p) = nI p) (hY : c' < c → AW k g 12 A L 343 [(0, vR 87), (1, vI (nI s)), (2, vI (nI n)), (3, vI (nI h)), (4, vI a4), (6, vI y9), (7, vI y7), (11, vI 0)] []) (hN : c < c' → AW k g 12 A L 140 [(0, vR 87), (1, vI (nI s)), (2, vI (nI n)), (3, vI (nI h)), (4, vI a4), (6, vI y9), (7, vI (y7 + 1))] []) : AW k g 12 A L 262 [(0, vR 87), (1, vI (nI s)), (2, vI (nI n)), (3, vI (nI h)), (4, vI a4), (6, vI y9), (7, vI y7), (9, vI y9), (10, vI 0), (11, vI 0)] [] := by
  obtain ⟨p, hp, hdp, hbef⟩ := ch_diff hc hc' hne
  have hcc : cnA (chP m c) p = cnA (chP m c') p := cnA_cong hbef
  have hq0 : cnA (chP m c) p < n := by
    rcases ne_bool hdp with ⟨b1, b2⟩ | ⟨b1, b2⟩
    · rw [← n1]; exact cnA_lt b1 hp
    · rw [hcc, ← n2]; exact cnA_lt b2 hp
  refine zdown (N := cnA (chP m c) p) (P := fun q => AW k g 12 A L 262 [(0, vR 87), (1, vI (nI s)), (2, vI (nI n)), (3, vI (nI h)), (4, vI a4), (6, vI y9), (7, vI y7), (9, vI y9), (10, vI 0), (11, vI (nI q))] []) ?_ (fun q hq ih => ?_) (c := 0) (by omega)
  · refine s_X7_prints_262 X E ?_
    rw [if_pos (nI_lt hq0 (by omega)), if_pos rfl, zcl (by omega)]
    refine ⟨zvin (by omega) (by decide), ?_⟩
    rcases ne_bool hdp with ⟨b1, b2⟩ | ⟨b1, b2⟩
    · obtain ⟨j, hj, hBj, hcj⟩ := cnA_at (A := chP m c') m (cnA (chP m c) p) (by rw [n2]; exact hq0)
      have hpj : p < j := by
        by_cases e : j = p
        · rw [e, b2] at hBj; cases hBj
        · by_cases lt : j < p
          · have := cnA_lt hBj lt
            omega
          · omega
      have e1 : A 104 (cnA (chP m c) p) = nI p := h4 p hp b1
      have e2 : A 105 (cnA (chP m c) p) = nI j := by rw [← hcj]; exact h5 j hj hBj
      rw [e1, e2, if_neg (fun e => by rw [n_eq (by omega) (by omega)] at e; omega)]
      intro u8 e8
      rw [if_pos (nI_lt hpj (by omega))] at e8
      rw [e8, if_neg (by decide)]
      exact hY (ch_lt hc hc' hp b1 b2 hbef)
    · obtain ⟨j, hj, hAj, hcj⟩ := cnA_at (A := chP m c) m (cnA (chP m c) p) (by rw [n1]; exact hq0)
      have hpj : p < j := by
        by_cases e : j = p
        · rw [e, b1] at hAj; cases hAj
        · by_cases lt : j < p
          · have := cnA_lt hAj lt
            omega
          · omega
      have e1 : A 104 (cnA (chP m c) p) = nI j := by rw [← hcj]; exact h4 j hj hAj
      have e2 : A 105 (cnA (chP m c) p) = nI p := by rw [hcc]; exact h5 p hp b2
      rw [e1, e2, if_neg (fun e => by rw [n_eq (by omega) (by omega)] at e; omega)]
      intro u8 e8
      rw [if_neg (nI_nlt (by omega) (by omega))] at e8
      rw [e8, if_pos rfl]
      exact hN (ch_lt hc' hc hp b2 b1 (fun j hj => (hbef j hj).symm))
  · refine s_X7_prints_262 X E ?_
    obtain ⟨j, hj, hAj, hcj⟩ := cnA_at (A := chP m c) p q hq
    have hBj : chP m c' j = true := by rw [← hbef j hj]; exact hAj
    have hcj' : cnA (chP m c') j = q := by rw [← hcj]; exact (cnA_cong (fun i hi => hbef i (by omega))).symm
    have e1 : A 104 q = nI j := by rw [← hcj]; exact h4 j (by omega) hAj
    have e2 : A 105 q = nI j := by rw [← hcj']; exact h5 j (by omega) hBj
    rw [if_pos (nI_lt (show q < n by omega) (by omega)), if_pos rfl, zcl (by omega), e1, e2, if_pos rfl, ← nI_succ]
    exact ⟨zvin (by omega) (by decide), ih⟩
theorem m_262 (X : zX k g cX7_prints RX7 12 (some .int) 5) (E : zE k g Q) {A : zI} (hne : ¬ y9 = y6) (h1 : ¬ y10 = 0 → AW k g 12 A L 343 [(0, vR 87), (1, vI (nI s)), (2, vI (nI n)), (3, vI (nI h)), (4, vI a4), (6, vI y9), (7, vI y7), (11, vI 0)] []) (h0 : y10 = 0 → AW k g 12 A L 140 [(0, vR 87), (1, vI (nI s)), (2, vI (nI n)), (3, vI (nI h)), (4, vI a4), (6, vI y6), (7, vI (y7 + 1))] []) : AW k g 12 A L 262 [(0, vR 87), (1, vI (nI s)), (2, vI (nI n)), (3, vI (nI h)), (4, vI a4), (6, vI y6), (7, vI y7), (9, vI y9), (10, vI y10), (11, vI 0)] [] := by
  refine s_X7_prints_262 X E ?_
  have key : if y10 = 0 then AW k g 12 A L 140 [(0, vR 87), (1, vI (nI s)), (2, vI (nI n)), (3, vI (nI h)), (4, vI a4), (6, vI y6), (7, vI (y7 + 1))] [] else AW k g 12 A L 343 [(0, vR 87), (1, vI (nI s)), (2, vI (nI n)), (3, vI (nI h)), (4, vI a4), (6, vI y9), (7, vI y7), (11, vI 0)] [] := by
    by_cases e : y10 = 0
    · rw [if_pos e]; exact h0 e
    · rw [if_neg e]; exact h1 e
  by_cases hn : (0 : Int32) < nI n
  · rw [if_pos hn, if_neg hne]
    exact key
  · rw [if_neg hn]
    exact key
theorem m_best (X : zX k g cX7_prints RX7 12 (some .int) 5) (E : zE k g Q) {A : zI} (hn : n ≤ 8) (hQ : ∀ B : zI, (∀ a, a ≠ 105 → B a = A a) → (∀ q, q < n → B 105 q = A 104 q) → AW k g 12 B L 140 [(0, vR 87), (1, vI (nI s)), (2, vI (nI n)), (3, vI (nI h)), (4, vI a4), (6, vI y6), (7, vI (y7 + 1))] []) : AW k g 12 A L 343 [(0, vR 87), (1, vI (nI s)), (2, vI (nI n)), (3, vI (nI h)), (4, vI a4), (6, vI y6), (7, vI y7), (11, vI 0)] [] := by
  refine zdown (N := n) (P := fun c => ∀ B : zI, (∀ a, a ≠ 105 → B a = A a) → (∀ q, q < c → B 105 q = A 104 q) → AW k g 12 B L 343 [(0, vR 87), (1, vI (nI s)), (2, vI (nI n)), (3, vI (nI h)), (4, vI a4), (6, vI y6), (7, vI y7), (11, vI (nI c))] []) (fun B b1 b2 => ?_) (fun c hc ih B b1 b2 => ?_) (c := 0) (by omega) A (fun _ _ => rfl) (fun _ hh => absurd hh (Nat.not_lt_zero _))
  · refine s_X7_prints_343 X E ?_
    rw [if_neg (nI_nlt (Nat.le_refl _) (by omega))]
    exact hQ B b1 b2
  · refine s_X7_prints_343 X E ?_
    rw [if_pos (nI_lt hc (by omega)), zcl (by omega), ← nI_succ]
    refine ⟨zvin (by omega) (by decide), ih _ (fun a ha => by rw [zs_nec ha]; exact b1 a ha) (fun q hq => ?_)⟩
    rw [zs_at]
    by_cases e : q = c
    · rw [if_pos e, b1 104 (by decide), e]
    · rw [if_neg e]; exact b2 q (by omega)
theorem sc105 {a : Nat} (h : ¬ scr a) : a ≠ 104 ∧ a ≠ 105 := by unfold scr at h; omega
theorem m_row' (X : zX k g cX7_prints RX7 12 (some .int) 5) (E : zE k g Q) (hR : Rn I L nl m) (hs : s < 8) (hn : n ≤ 160) (hw : ∀ k, k < n → ∃ j, j < nl ∧ wdP L s k = nI j) (hh : h ≤ 24) {A : zI} (hA : ∀ a, ¬ scr a → A a = I a) {t : Nat} (ht : t < 2 ^ m) (hcn : cnA (chP m (rvP m t)) m = n) (hQ : ∀ B : zI, (∀ a, ¬ scr a → B a = I a) → B 105 = A 105 → (∀ p, p < m → chP m (rvP m t) p = true → B 104 (cnA (chP m (rvP m t)) p) = nI p) → AW k g 12 B L 262 [(0, vR 87), (1, vI (nI s)), (2, vI (nI n)), (3, vI (nI h)), (4, vI a4), (6, vI y6), (7, vI (nI t)), (9, vI (nI (rtA (chP m (rvP m t)) (okW' I L s h) m))), (10, vI (if y6 < nI (rtA (chP m (rvP m t)) (okW' I L s h) m) then 1 else (0 : Int32))), (11, vI 0)] []) : AW k g 12 A L 172 [(0, vR 87), (1, vI (nI s)), (2, vI (nI n)), (3, vI (nI h)), (4, vI a4), (6, vI y6), (7, vI (nI t)), (8, vI 0), (9, vI 0), (10, vI 0)] [] := by
  obtain ⟨hW, hNl, hn8, hm, e2, e2', e3, e3', e4, e5, e6, hf⟩ := Rn_wx hR
  obtain ⟨-, tb, -⟩ := rv_tab m (by omega) t ht
  refine zdown (N := m) (P := fun p => ∀ B : zI, (∀ a, ¬ scr a → B a = I a) → B 105 = A 105 → (∀ j, j < p → chP m (rvP m t) j = true → B 104 (cnA (chP m (rvP m t)) j) = nI j) → AW k g 12 B L 172 [(0, vR 87), (1, vI (nI s)), (2, vI (nI n)), (3, vI (nI h)), (4, vI a4), (6, vI y6), (7, vI (nI t)), (8, vI (nI (cnA (chP m (rvP m t)) p))), (9, vI (nI (rtA (chP m (rvP m t)) (okW' I L s h) p))), (10, vI (nI p))] []) (fun B b1 b2 b3 => ?_) (fun p hp ih B b1 b2 b3 => ?_) (c := 0) (by omega) A hA rfl (fun _ hh => absurd hh (Nat.not_lt_zero _))
  · refine s_X7_prints_172 X E ?_
    rw [b1 87 s87, e3', if_neg (nI_nlt (Nat.le_refl _) (by omega))]
    exact hQ B b1 b2 b3
  · refine s_X7_prints_172 X E ?_
    rw [b1 87 s87, e3', if_pos (nI_lt hp (by omega)), cellbit (show p < 32 by omega) rfl, bt_nI, decide_eq_true (show p < 32 by omega), Bool.true_and, tb p hp, ← nI_succ p]
    by_cases hch : chP m (rvP m t) p = true
    · have hk : cnA (chP m (rvP m t)) p < n := by rw [← hcn]; exact cnA_lt hch hp
      have hk8 := cnA_le (chP m (rvP m t)) p
      obtain ⟨j, hj, ej⟩ := hw _ hk
      rw [if_pos hch, if_neg (by decide), (at160 hs (show cnA (chP m (rvP m t)) p < 160 by omega)).2.1]
      refine ⟨(at160 hs (show cnA (chP m (rvP m t)) p < 160 by omega)).2.2, ?_⟩
      rw [cnA_s hch] at ih
      refine R_readAt (R_scr b1 hR) hp (x := wdP L s (cnA (chP m (rvP m t)) p)) (Or.inr ⟨j, hj, ej⟩) hh (fun C f1 => ⟨_, rfl, ?_⟩)
      intro u7 e7
      rw [ob_t b1] at e7
      rw [zcl (by omega), ← nI_succ (cnA (chP m (rvP m t)) p)]
      refine ⟨zvin (by omega) (by decide), ?_⟩
      have go := ih (zs C 104 (cnA (chP m (rvP m t)) p) (nI p)) (fun a ha => by rw [zs_nec (sc105 ha).1]; exact (sc2 f1 a ha).trans (b1 a ha)) (by rw [zs_nec (by decide), f1 105 (by decide) (by decide)]; exact b2) (fun i hi hci => by
        rw [zs_at]
        by_cases e : i = p
        · rw [e, if_pos rfl]
        · have := cnA_lt hci (show i < p by omega)
          rw [if_neg (by omega), f1 104 (by decide) (by decide)]
          exact b3 i (by omega) hci)
      by_cases ho : ob I p (wdP L s (cnA (chP m (rvP m t)) p)) h = wdP L s (cnA (chP m (rvP m t)) p)
      · rw [rtA_1 hch (show okW' I L s h p (cnA (chP m (rvP m t)) p) = true from decide_eq_true ho)] at go
        have e7' : u7 = nI (rtA (chP m (rvP m t)) (okW' I L s h) p + 1) := by
          rw [e7, nI_succ]
          exact if_pos ho
        rw [e7']
        exact go
      · rw [rtA_0 hch (show ¬ okW' I L s h p (cnA (chP m (rvP m t)) p) = true from fun e => ho (of_decide_eq_true e))] at go
        have e7' : u7 = nI (rtA (chP m (rvP m t)) (okW' I L s h) p) := by
          rw [e7]
          exact if_neg ho
        rw [e7']
        exact go
    · rw [if_neg hch, if_pos rfl]
      rw [cnA_n hch, rtA_n hch] at ih
      refine ih B b1 b2 (fun j hj hcj => ?_)
      by_cases e : j = p
      · rw [e] at hcj; exact absurd hcj hch
      · exact b3 j (by omega) hcj
theorem nI_gt_m1 {r : Nat} (hr : r < 2147483648) : (-1 : Int32) < nI r := by
  rw [i_lt, n_toInt hr]
  show (-1 : Int) < r
  omega
theorem m_sets (X : zX k g cX7_prints RX7 12 (some .int) 5) (E : zE k g Q) (hR : Rn I L nl m) (hs : s < 8) (hnm : n ≤ m) (hw : ∀ k, k < n → ∃ j, j < nl ∧ wdP L s k = nI j) (hh : h ≤ 24) {A : zI} (hA : ∀ a, ¬ scr a → A a = I a) (hQ : ∀ (B : zI) (c : Nat), (∀ a, ¬ scr a → B a = I a) → BstP m n (okW' I L s h) c → (∀ p, p < m → chP m c p = true → B 105 (cnA (chP m c) p) = nI p) → (¬ (a4 = (-1)) → vp_in a4 8) ∧ Q (some (vI (if a4 = -1 then nI (rtA (chP m c) (okW' I L s h) m) else B 105 a4.toNatClampNeg))) B L) : AW k g 12 A L 140 [(0, vR 87), (1, vI (nI s)), (2, vI (nI n)), (3, vI (nI h)), (4, vI a4), (6, vI (-1)), (7, vI 0)] [] := by
  obtain ⟨hW, hNl, hn8, hm, e2, e2', e3, e3', e4, e5, e6, hf⟩ := Rn_wx hR
  obtain ⟨sh1, sh2⟩ := sh_tab m (by omega)
  refine zdown (N := 2 ^ m) (P := fun t => ∀ (B : zI) (y6 : Int32), (∀ a, ¬ scr a → B a = I a) → ((y6 = -1 ∧ ∀ s', s' < t → ¬ cnA (chP m (rvP m s')) m = n) ∨ ∃ c, c < 2 ^ m ∧ cnA (chP m c) m = n ∧ rvP m c < t ∧ y6 = nI (rtA (chP m c) (okW' I L s h) m) ∧ (∀ p, p < m → chP m c p = true → B 105 (cnA (chP m c) p) = nI p) ∧ ∀ s', s' < t → cnA (chP m (rvP m s')) m = n → rtA (chP m (rvP m s')) (okW' I L s h) m < rtA (chP m c) (okW' I L s h) m ∨ (rtA (chP m (rvP m s')) (okW' I L s h) m = rtA (chP m c) (okW' I L s h) m ∧ rvP m s' ≤ c)) → AW k g 12 B L 140 [(0, vR 87), (1, vI (nI s)), (2, vI (nI n)), (3, vI (nI h)), (4, vI a4), (6, vI y6), (7, vI (nI t))] []) (fun B y6 b1 b2 => ?_) (fun t ht ih B y6 b1 b2 => ?_) (c := 0) (Nat.zero_le _) A (-1) hA (Or.inl ⟨rfl, fun _ hh => absurd hh (Nat.not_lt_zero _)⟩)
  · refine s_X7_prints_140 X E ?_
    rw [b1 87 s87, e3', sh1, if_neg (nI_nlt (Nat.le_refl _) (by omega))]
    rcases b2 with ⟨-, b2⟩ | ⟨c, c1, c2, c3, c4, c5, c6⟩
    · exfalso
      obtain ⟨x1, x2⟩ := ex_tab m (by omega) n (by omega)
      obtain ⟨r1, r2, r3⟩ := rv_tab m (by omega) (2 ^ n - 1) x1
      exact b2 (rvP m (2 ^ n - 1)) r1 (by rw [r3]; exact x2)
    · rw [c4]
      refine hQ B c b1 ⟨c1, c2, fun c' h1 h2 => ?_⟩ c5
      obtain ⟨r1, r2, r3⟩ := rv_tab m (by omega) c' h1
      have := c6 (rvP m c') r1 (by rw [r3]; exact h2)
      rw [r3] at this
      exact this
  · refine s_X7_prints_140 X E ?_
    rw [b1 87 s87, e3', sh1, if_pos (nI_lt ht (by omega))]
    have ebc : v_J6_bitCount_0f7a4 (nI t) = nI (cnA (chP m (rvP m t)) m) := rv_cn (by omega) ht
    have hle := cnA_le (chP m (rvP m t)) m
    obtain ⟨r1, r2, r3⟩ := rv_tab m (by omega) t ht
    rw [ebc]
    by_cases hcn : cnA (chP m (rvP m t)) m = n
    · rw [hcn, if_pos rfl]
      have hrl := rtA_le (chP m (rvP m t)) (okW' I L s h) m
      refine m_row' X E hR hs (by omega) hw hh b1 ht hcn (fun C k1 k2 k3 => ?_)
      -- the new row is taken
      have take : (∀ s', s' < t → cnA (chP m (rvP m s')) m = n → rtA (chP m (rvP m s')) (okW' I L s h) m < rtA (chP m (rvP m t)) (okW' I L s h) m ∨ (rtA (chP m (rvP m s')) (okW' I L s h) m = rtA (chP m (rvP m t)) (okW' I L s h) m ∧ rvP m s' ≤ rvP m t)) → AW k g 12 C L 343 [(0, vR 87), (1, vI (nI s)), (2, vI (nI n)), (3, vI (nI h)), (4, vI a4), (6, vI (nI (rtA (chP m (rvP m t)) (okW' I L s h) m))), (7, vI (nI t)), (11, vI 0)] [] := by
        intro hall
        refine m_best X E (by omega) (fun D d1 d2 => ?_)
        rw [← nI_succ]
        refine ih D _ (fun a ha => by rw [d1 a (sc105 ha).2]; exact k1 a ha) (Or.inr ⟨rvP m t, r1, hcn, by rw [r3]; omega, rfl, fun p hp hc => ?_, fun s' h1 h2 => ?_⟩)
        · have := cnA_lt hc hp
          rw [d2 _ (by omega)]
          exact k3 p hp hc
        · by_cases e : s' = t
          · rw [e]; exact Or.inr ⟨rfl, Nat.le_refl _⟩
          · exact hall s' (by omega) h2
      rcases b2 with ⟨b3, b2⟩ | ⟨c, c1, c2, c3, c4, c5, c6⟩
      · subst b3
        rw [if_pos (nI_gt_m1 (by omega))]
        refine m_262 X E (fun e => n_neg (a := -1) (by decide) _ (by omega) e.symm) (fun _ => take (fun s' h1 h2 => absurd h2 (b2 s' h1))) (fun e => absurd e (by decide))
      · have hrl2 := rtA_le (chP m c) (okW' I L s h) m
        -- the old one is kept
        have keep : (rtA (chP m (rvP m t)) (okW' I L s h) m < rtA (chP m c) (okW' I L s h) m ∨ (rtA (chP m (rvP m t)) (okW' I L s h) m = rtA (chP m c) (okW' I L s h) m ∧ rvP m t ≤ c)) → AW k g 12 C L 140 [(0, vR 87), (1, vI (nI s)), (2, vI (nI n)), (3, vI (nI h)), (4, vI a4), (6, vI y6), (7, vI (nI t + 1))] [] := by
          intro hkeep
          rw [← nI_succ]
          refine ih C y6 k1 (Or.inr ⟨c, c1, c2, by omega, c4, fun p hp hc => by rw [k2]; exact c5 p hp hc, fun s' h1 h2 => ?_⟩)
          by_cases e : s' = t
          · rw [e]; exact hkeep
          · exact c6 s' (by omega) h2
        by_cases hgt : rtA (chP m c) (okW' I L s h) m < rtA (chP m (rvP m t)) (okW' I L s h) m
        · rw [c4, if_pos (nI_lt hgt (by omega))]
          refine m_262 X E (fun e => by rw [n_eq (by omega) (by omega)] at e; omega) (fun _ => take (fun s' h1 h2 => by have := c6 s' h1 h2; omega)) (fun e => absurd e (by decide))
        · rw [if_neg (by rw [c4]; exact nI_nlt (by omega) (by omega))]
          by_cases heq : rtA (chP m (rvP m t)) (okW' I L s h) m = rtA (chP m c) (okW' I L s h) m
          · have hne : rvP m t ≠ c := fun e => by rw [← e, r3] at c3; omega
            rw [heq, ← c4]
            refine m_cmp X E hm hnm r1 c1 hne hcn c2 k3 (fun p hp hc => by rw [k2]; exact c5 p hp hc) (fun hlt => ?_) (fun hlt => keep (Or.inr ⟨heq, by omega⟩))
            rw [c4, ← heq]
            exact take (fun s' h1 h2 => by have := c6 s' h1 h2; omega)
          · refine m_262 X E (fun e => by rw [c4, n_eq (by omega) (by omega)] at e; exact heq e) (fun e => absurd rfl e) (fun _ => keep (Or.inl (by omega)))
    · rw [if_neg (fun e => hcn ((n_eq (by omega) (by omega)).mp e)), ← nI_succ]
      refine ih B y6 b1 ?_
      rcases b2 with ⟨b3, b2⟩ | ⟨c, c1, c2, c3, c4, c5, c6⟩
      · refine Or.inl ⟨b3, fun s' h1 => ?_⟩
        by_cases e : s' = t
        · rw [e]; exact hcn
        · exact b2 s' (by omega)
      · refine Or.inr ⟨c, c1, c2, by omega, c4, c5, fun s' h1 h2 => ?_⟩
        by_cases e : s' = t
        · rw [e] at h2; exact absurd h2 hcn
        · exact c6 s' (by omega) h2
theorem m_word (X : zX k g cX7_prints RX7 12 (some .int) 5) (E : zE k g Q) (hR : Rn I L nl m) {J : zI} (j87 : J 87 = I 87) (hs : s < 8) (hn : n ≤ 160) (hw : ∀ k, k < n → ∃ j, j < nl ∧ wdP L s k = nI j) {a3 : Int32} (hQ : if (v_X7_within a3 0 24) = 0 then (Call (kl k) g 1 M_X7_no [vR 87, vI (-6)] J L (zi fun r8 I8 L8 => Q (some (vI r8)) I8 L8)) else (if (J 87 5) < nI n then (Call (kl k) g 1 M_X7_no [vR 87, vI (-7)] J L (zi fun r7 I7 L7 => Q (some (vI r7)) I7 L7)) else (AW k g 12 J L 140 [(0, vR 87), (1, vI (nI s)), (2, vI (nI n)), (3, vI a3), (4, vI a4), (6, vI (-1)), (7, vI 0)] []))) : AW k g 12 J L 62 [(0, vR 87), (1, vI (nI s)), (2, vI (nI n)), (3, vI a3), (4, vI a4), (6, vI 0)] [] := by
  refine zdown (N := n) (P := fun c => AW k g 12 J L 62 [(0, vR 87), (1, vI (nI s)), (2, vI (nI n)), (3, vI a3), (4, vI a4), (6, vI (nI c))] []) ?_ (fun c hc ih => ?_) (c := 0) (by omega)
  · refine s_X7_prints_62 X E ?_
    rw [if_neg (nI_nlt (Nat.le_refl _) (by omega))]
    exact hQ
  · refine s_X7_prints_62 X E ?_
    obtain ⟨j, hj, ej⟩ := hw c hc
    obtain ⟨t1, t2, t3⟩ := at160 hs (show c < 160 by omega)
    rw [if_pos (nI_lt hc (by omega)), t2, show (L 90 (160 * s + c)).toInt32 = nI j from ej, tL j87, if_neg (ne0 (isl1 hR hj).2), ← nI_succ]
    exact ⟨t3, ih⟩
theorem m_word0 (X : zX k g cX7_prints RX7 12 (some .int) 5) (E : zE k g Q) (hR : Rn I L nl m) {J : zI} (j87 : J 87 = I 87) (hs : s < 8) (hn : n ≤ 160) {q : Nat} (hq : q < n) (hw : ∀ k, k < q → ∃ j, j < nl ∧ wdP L s k = nI j) (h0 : v_X7_isLetter I (wdP L s q) = 0) {a3 : Int32} (hQ : Call (kl k) g 1 M_X7_no [vR 87, vI (-6)] J L (zi fun r8 I8 L8 => Q (some (vI r8)) I8 L8)) : AW k g 12 J L 62 [(0, vR 87), (1, vI (nI s)), (2, vI (nI n)), (3, vI a3), (4, vI a4), (6, vI 0)] [] := by
  refine zdown (N := q) (P := fun c => AW k g 12 J L 62 [(0, vR 87), (1, vI (nI s)), (2, vI (nI n)), (3, vI a3), (4, vI a4), (6, vI (nI c))] []) ?_ (fun c hc ih => ?_) (c := 0) (by omega)
  · refine s_X7_prints_62 X E ?_
    obtain ⟨t1, t2, t3⟩ := at160 hs (show q < 160 by omega)
    rw [if_pos (nI_lt hq (by omega)), t2, if_pos (show v_X7_isLetter J (L 90 (160 * s + q)).toInt32 = 0 from by rw [tL j87]; exact h0)]
    exact ⟨t3, hQ⟩
  · refine s_X7_prints_62 X E ?_
    obtain ⟨j, hj, ej⟩ := hw c hc
    obtain ⟨t1, t2, t3⟩ := at160 hs (show c < 160 by omega)
    rw [if_pos (nI_lt (show c < n by omega) (by omega)), t2, show (L 90 (160 * s + c)).toInt32 = nI j from ej, tL j87, if_neg (ne0 (isl1 hR hj).2), ← nI_succ]
    exact ⟨t3, ih⟩
theorem idx_cases (a : Int32) (hn : n ≤ 1000) : (a < -1 ∧ v_X7_within a (-1) (nI n - 1) = 0) ∨ (¬ a < -1 ∧ ¬ a < nI n ∧ v_X7_within a (-1) (nI n - 1) = 0) ∨ (¬ a < -1 ∧ a < nI n ∧ v_X7_within a (-1) (nI n - 1) = 1 ∧ (a = -1 ∨ ∃ i, i < n ∧ a = nI i ∧ ¬ a = -1)) := by
  unfold v_X7_within
  have e1 : (nI n - 1).toInt = (n : Int) - 1 := n_pre (by omega)
  by_cases h : a < -1
  · exact Or.inl ⟨h, by rw [if_pos h]⟩
  · by_cases h2 : a < nI n
    · refine Or.inr (Or.inr ⟨h, h2, ?_, ?_⟩)
      · rw [if_neg h, if_neg]
        rw [i_lt, e1]
        rw [i_lt, n_toInt (by omega)] at h2
        omega
      · by_cases h3 : a < 0
        · refine Or.inl ?_
          rw [i_eq]
          rw [i_lt] at h h3
          rw [show (-1 : Int32).toInt = -1 from rfl] at h ⊢
          rw [show (0 : Int32).toInt = 0 from rfl] at h3
          omega
        · obtain ⟨i, hi, rfl⟩ := n_of h3
          exact Or.inr ⟨i, (n_lt hi (by omega)).mp h2, rfl, fun e => n_neg (a := -1) (by decide) i hi e.symm⟩
    · refine Or.inr (Or.inl ⟨h, h2, ?_⟩)
      rw [if_neg h, if_pos]
      rw [i_lt, e1]
      rw [i_lt, n_toInt (by omega)] at h2
      omega
end ZPS
theorem sim_prints (a1 a2 a3 a4 : Int32) : Sim M_X6_prints 7 M_X7_prints 5 [vI a1, vI a2, vI a3, vI a4] := by
  rintro l g I L ⟨nl, m, h⟩
  obtain ⟨hW, hNl, hn8, hm, e2, e2', e3, e3', e4, e5, e6, hf⟩ := Rn_wx h
  refine m_X6_prints ?_
  rcases row_cases h a1 with ⟨c1, c2, c3⟩ | ⟨s, u, k, hs, rfl, c1, c2, c3, c4, hk, hu, hn⟩ | ⟨s, hs, rfl, c1, c2, c3⟩
  · rw [if_pos c1, c1, show v_X6_lackOfRow I 0 = -1 from rfl]
    refine ⟨fun hh => absurd rfl hh, ?_⟩
    exact both_norow (k := 1) (by decide) rfl (by decide) h a1 c3 (fun Q hn hq => m_X7_prints (fun k hk X E => ⟨fun hh => absurd c2 hh, by rw [if_pos hn, hk]; exact hq⟩))
  · rw [if_neg (by rw [c1]; omega), c1]
    refine ⟨Or.inl c2, ?_⟩
    rw [if_pos (show v_X3_hasRow I (66 + 2 * s) = 0 from c2), c3]
    refine ⟨fun _ => zshS s hs, ?_⟩
    exact both_norow hk hu hn h (nI s) c4 (fun Q hn hq => m_X7_prints (fun k hk X E => ⟨fun _ _ => zvin hs (by decide), by rw [if_pos hn, hk]; exact hq⟩))
  rw [if_neg (by rw [c1]; omega), c1]
  refine ⟨Or.inr c2, ?_⟩
  rw [if_neg (show ¬ v_X3_hasRow I (66 + 2 * s) = 0 from ne0 c2)]
  obtain ⟨x1, x2, N, hN, x3, x4, x5⟩ := Rn_row h hs c2
  have hnn : ¬ v_X7_noRow I (nI s) < 0 := by rw [c3]; decide
  have s8 : (nI s).toNatClampNeg = s := zcl (by omega)
  have kk : ∀ J : zI, k_X7_noRow J (nI s) := fun J _ _ => zvin hs (by decide)
  rw [x3]
  by_cases d1 : a2 < 0
  · rw [if_pos d1]
    exact both_no (k := 4) (by decide) rfl h (fun Q hq => m_X7_prints (fun k hk X E => ⟨kk _, by rw [if_neg (show ¬ v_X7_noRow (rf1 I 4) (nI s) < 0 from hnn), if_pos d1, hk]; exact hq⟩))
  rw [if_neg d1]
  obtain ⟨n, hn31, rfl⟩ := n_of d1
  by_cases d2 : nI N < nI n
  · rw [if_pos d2]
    exact both_no (k := 5) (by decide) rfl h (fun Q hq => m_X7_prints (fun k hk X E => ⟨kk _, by rw [if_neg (show ¬ v_X7_noRow (rf1 I 5) (nI s) < 0 from hnn), if_neg d1, s8]; exact ⟨zvin hs (by decide), by rw [if_pos (show rf1 I 5 89 s < nI n from by rw [show rf1 I 5 89 s = nI N from x4]; exact d2), hk]; exact hq⟩⟩))
  rw [if_neg d2]
  have hnN : n ≤ N := by rw [n_lt (by omega) hn31] at d2; omega
  -- the reference as far as its letters
  have pre : ∀ (J : zI) (Q : Option zv → zI → zL → Prop), v_X7_noRow J (nI s) = v_X7_noRow I (nI s) → J 89 s = nI N → (∀ k : zK, kl k = l → zX k g cX7_prints RX7 12 (some .int) 5 → zE k g Q → if (v_X7_within a4 (-1) (nI n - 1)) = 0 then (Call l g 1 M_X7_no [vR 87, vI (-5)] J L (zi fun r10 I10 L10 => Q (some (vI r10)) I10 L10)) else (AW k g 12 J L 62 [(0, vR 87), (1, vI (nI s)), (2, vI (nI n)), (3, vI a3), (4, vI a4), (6, vI 0)] [])) → Call l g 5 M_X7_prints [vR 87, vI (nI s), vI (nI n), vI a3, vI a4] J L Q := by
    intro J Q j1 j2 hh
    refine m_X7_prints (fun k hk X E => ⟨kk _, ?_⟩)
    have := hh k hk X E
    rw [j1, if_neg hnn, if_neg d1, s8, j2, if_neg d2, hk]
    exact ⟨zvin hs (by decide), this⟩
  have hC := wdC_of h hs c2 x3 hN hnN
  rcases idx_cases a4 (n := n) (by omega) with ⟨w, w2⟩ | ⟨w, w1, w2⟩ | ⟨w, w1, w2, w3⟩
  · rw [if_pos w]
    exact both_no (k := 5) (by decide) rfl h (fun Q hq => pre _ Q rfl x4 (fun k hk X E => by rw [if_pos w2]; exact hq))
  · rw [if_neg w, if_neg w1]
    exact both_no (k := 5) (by decide) rfl h (fun Q hq => pre _ Q rfl x4 (fun k hk X E => by rw [if_pos w2]; exact hq))
  rw [if_neg w, if_pos w1]
  have w2' : ¬ v_X7_within a4 (-1) (nI n - 1) = 0 := ne0 w2
  rcases hour_cases a3 with ⟨f1, f2⟩ | ⟨hh, hhh, rfl, f1, f2⟩
  · rw [if_pos f1]
    refine both_no (k := 6) (by decide) rfl h (fun Q hq => pre _ Q rfl x4 (fun k hk X E => ?_))
    rw [if_neg w2']
    rcases word_cases (s := s) h n with hw | ⟨q, hq1, hq2, hq3, hq4⟩
    · exact m_word (J := rf1 I 6) X E h (rf1_ne (by decide)) hs (by omega) hw (by rw [if_pos f2, hk]; exact hq)
    · exact m_word0 (J := rf1 I 6) X E h (rf1_ne (by decide)) hs (by omega) hq1 hq2 hq4 (by rw [hk]; exact hq)
  rw [if_neg (ne0 f1)]
  rcases word_cases (s := s) h n with hw | ⟨q, hq1, hq2, hq3, hq4⟩
  rotate_left
  · refine c_areLetters0 h hs (by omega) hC hq1 hq2 hq3 ⟨_, rfl, ?_⟩
    dsimp only
    rw [if_pos rfl]
    exact both_no (k := 6) (by decide) rfl h (fun Q hq => pre _ Q rfl x4 (fun k hk X E => by rw [if_neg w2']; exact m_word0 (J := rf1 I 6) X E h (rf1_ne (by decide)) hs (by omega) hq1 hq2 hq4 (by rw [hk]; exact hq)))
  refine c_areLetters1 h hs (by omega) hC hw ⟨_, rfl, ?_⟩
  dsimp only
  rw [if_neg (by decide), e3]
  by_cases d3 : nI m < nI n
  · rw [if_pos d3]
    exact both_no (k := 7) (by decide) rfl h (fun Q hq => pre _ Q rfl x4 (fun k hk X E => by
      rw [if_neg w2']
      refine m_word (J := rf1 I 7) X E h (rf1_ne (by decide)) hs (by omega) hw ?_
      rw [if_neg (ne0 f2), if_pos (show rf1 I 7 87 5 < nI n from by rw [show rf1 I 7 87 5 = nI m from e3']; exact d3), hk]
      exact hq))
  rw [if_neg d3]
  have hnm : n ≤ m := by rw [n_lt (by omega) hn31] at d3; omega
  refine c_noteRight h hs (by omega) hC hw hhh (fun A a1 a2 => ⟨rfl, ?_⟩)
  have A23 : A 2 3 = nI m := by rw [a1 2 scr2]; exact e3
  refine c_choose (A := A) (h := hh) A23 hm hs hnm hn8 (wdC_t hC (a1 _ (scr66 hs))) hw a2 (fun B c b1 b2 b3 b4 => ⟨rfl, ?_⟩)
  have oB : ∀ a, ¬ scr a → B a = I a := fun a ha => by
    have : a ≠ 59 := fun e => ha (by rw [e]; exact Or.inl ⟨by decide, by decide⟩)
    rw [b1 a this]
    exact a1 a ha
  -- the reference's answer
  have fin : ∀ v : Int32, (a4 = -1 → v = nI (rtA (chP m c) (okW' I L s hh) m)) → (∀ i p, a4 = nI i → ¬ a4 = -1 → p < m → chP m c p = true → cnA (chP m c) p = i → v = nI p) → SimQ l g M_X7_prints 5 [vR 87, vI (nI s), vI (nI n), vI (nI hh), vI a4] (some (vI v)) B L := by
    intro v v1 v2
    have j1 : v_X7_noRow B (nI s) = v_X7_noRow I (nI s) := by unfold v_X7_noRow v_X7_isRow; rw [oB 88 (by unfold scr; omega)]
    refine ⟨_, rfl, pre B _ j1 (by rw [oB 89 (by unfold scr; omega)]; exact x4) (fun k hk X E => ?_)⟩
    rw [if_neg w2']
    refine m_word X E h (oB 87 s87) hs (by omega) hw ?_
    rw [if_neg (ne0 f2), oB 87 s87, e3', if_neg d3]
    refine m_sets X E h hs hnm hw hhh oB (fun C c' k1 k2 k3 => ?_)
    obtain rfl : c = c' := BstP_one b2 k2
    rcases w3 with w3 | ⟨i, hi, w3, w4⟩
    · refine ⟨fun e => absurd w3 e, _, rfl, ?_, nl, m, R_scr k1 h⟩
      rw [if_pos w3]
      exact v1 w3
    · obtain ⟨p, hp, hcp, hci⟩ := cnA_at (A := chP m c) m i (by rw [b2.2.1]; exact hi)
      refine ⟨fun _ => by rw [w3]; exact zvin (by omega) (by decide), _, rfl, ?_, nl, m, R_scr k1 h⟩
      rw [if_neg w4, w3, zcl (by omega), ← hci, k3 p hp hcp]
      exact v2 i p w3 w4 hp hcp hci
  dsimp only
  rcases w3 with w3 | ⟨i, hi, w3, w4⟩
  · rw [if_pos w3, b3]
    exact fin _ (fun _ => rfl) (fun i p e1 e2 => absurd w3 e2)
  · rw [if_neg w4, w3]
    obtain ⟨p, hp, hcp, hci⟩ := cnA_at (A := chP m c) m i (by rw [b2.2.1]; exact hi)
    rw [w3] at fin
    refine c_chosenPane (by rw [oB 2 scr2]; exact e3) hm b4 hp hcp hci ⟨_, rfl, fin _ (fun e => absurd (w3.trans e) w4) (fun i' p' e1 e2 hp' hcp' hci' => ?_)⟩
    have ei : i = i' := (n_eq (by omega) (by have := cnA_le (chP m c) p'; omega)).mp e1
    by_cases lt : p < p'
    · have := cnA_lt hcp lt; omega
    · by_cases gt : p' < p
      · have := cnA_lt hcp' gt; omega
      · rw [show p = p' by omega]
