/-! OPERATIONS: prints; the class -/
def wdP (L : zL) (s k : Nat) : Int32 := (L 90 (160 * s + k)).toInt32
def okW' (I : zI) (L : zL) (s h : Nat) (p k : Nat) : Bool := decide (ob I p (wdP L s k) h = wdP L s k)
def rlfP (I : zI) (L : zL) (s h p : Nat) : Nat → Int32
  | 0 => 0
  | k + 1 => if okW' I L s h p k = true then rlfP I L s h p k ||| jshl 1 (wdP L s k) else rlfP I L s h p k
theorem rlf_bt {I : zI} {L : zL} {s h p nl : Nat} (hnl : nl ≤ 8) : ∀ n, (∀ k, k < n → ∃ j, j < nl ∧ wdP L s k = nI j) → ∀ j, j < 8 → (bt (rlfP I L s h p n) j = true ↔ ∃ k, k < n ∧ wdP L s k = nI j ∧ okW' I L s h p k = true)
  | 0, _, j, hj => by
    show bt 0 j = true ↔ _
    rw [b_0]
    constructor
    · intro e; cases e
    · rintro ⟨k, hk, -⟩; exact absurd hk (Nat.not_lt_zero _)
  | n + 1, hw, j, hj => by
    have ih := rlf_bt (I := I) (L := L) (s := s) (h := h) (p := p) hnl n (fun k hk => hw k (by omega)) j hj
    obtain ⟨q, hq, eq⟩ := hw n (by omega)
    unfold rlfP
    by_cases ho : okW' I L s h p n = true
    · rw [if_pos ho, b_or, Bool.or_eq_true, ih, eq, bt_jshl1 (by omega) (by omega)]
      constructor
      · rintro (⟨k, h1, h2, h3⟩ | e)
        · exact ⟨k, by omega, h2, h3⟩
        · have : j = q := of_decide_eq_true e
          exact ⟨n, by omega, by rw [eq, this], ho⟩
      · rintro ⟨k, h1, h2, h3⟩
        by_cases e : k = n
        · subst e
          rw [eq, n_eq (by omega) (by omega)] at h2
          exact Or.inr (decide_eq_true h2.symm)
        · exact Or.inl ⟨k, by omega, h2, h3⟩
    · rw [if_neg ho, ih]
      constructor
      · rintro ⟨k, h1, h2, h3⟩
        exact ⟨k, by omega, h2, h3⟩
      · rintro ⟨k, h1, h2, h3⟩
        by_cases e : k = n
        · subst e; exact absurd h3 ho
        · exact ⟨k, by omega, h2, h3⟩
theorem rlf_at {I : zI} {L : zL} {s h p nl n k : Nat} (hnl : nl ≤ 8) (hw : ∀ k, k < n → ∃ j, j < nl ∧ wdP L s k = nI j) (hk : k < n) : (jshr (rlfP I L s h p n) (wdP L s k)) &&& 1 = if okW' I L s h p k = true then 1 else 0 := by
  obtain ⟨j, hj, ej⟩ := hw k hk
  rw [cellbit (show j < 32 by omega) ej]
  have hb := rlf_bt (I := I) (L := L) (s := s) (h := h) (p := p) hnl n hw j (by omega)
  by_cases ho : okW' I L s h p k = true
  · rw [if_pos ho, if_pos (hb.mpr ⟨k, hk, ej, ho⟩)]
  · rw [if_neg ho, if_neg]
    intro e
    obtain ⟨k2, h1, h2, h3⟩ := hb.mp e
    apply ho
    unfold okW' at *
    rw [← ej] at h2
    rw [← h2]
    exact h3
theorem rtA_1 {A : Nat → Bool} {ok : Nat → Nat → Bool} {p : Nat} (h : A p = true) (ho : ok p (cnA A p) = true) : rtA A ok (p + 1) = rtA A ok p + 1 := by
  show (if A p = true then (if ok p (cnA A p) = true then rtA A ok p + 1 else rtA A ok p) else rtA A ok p) = _
  rw [if_pos h, if_pos ho]
theorem rtA_0 {A : Nat → Bool} {ok : Nat → Nat → Bool} {p : Nat} (h : A p = true) (ho : ¬ ok p (cnA A p) = true) : rtA A ok (p + 1) = rtA A ok p := by
  show (if A p = true then (if ok p (cnA A p) = true then rtA A ok p + 1 else rtA A ok p) else rtA A ok p) = _
  rw [if_pos h, if_neg ho]
theorem rtA_n {A : Nat → Bool} {ok : Nat → Nat → Bool} {p : Nat} (h : ¬ A p = true) : rtA A ok (p + 1) = rtA A ok p := by
  show (if A p = true then (if ok p (cnA A p) = true then rtA A ok p + 1 else rtA A ok p) else rtA A ok p) = _
  rw [if_neg h]
section ZPR
variable {l : Launch} {g : zG} {Q : Option zv → zI → zL → Prop} {I : zI} {L : zL} {nl m s n N h : Nat}
/-- the word's letters, as the class reads them -/
def wdC (I : zI) (L : zL) (s n : Nat) : Prop := ∀ k, k < n → v_X3_signAt I L (66 + 2 * s) (nI k) = wdP L s k
theorem wdC_of (hR : Rn I L nl m) (hs : s < 8) (hr : I (66 + 2 * s) 4 = 1) (hN : I (66 + 2 * s) 2 = nI N) (hN8 : N ≤ 160) (hn : n ≤ N) : wdC I L s n := by
  intro k hk
  obtain ⟨r1, r2, N', hN', r4, r5, r6⟩ := Rn_row hR hs hr
  have : N' = N := by rw [hN, n_eq (by omega) (by omega)] at r4; exact r4.symm
  subst this
  unfold v_X3_signAt v_X3_elementAt wdP
  rw [if_neg (nI_pos (by omega)), hN, if_pos (nI_lt (by omega) (by omega)), if_pos (n160 (by omega)), zcl (by omega), show 66 + 2 * s + 1 = 67 + 2 * s by omega, (r6 k (by omega)).1]
theorem wdC_t {A : zI} (h : wdC I L s n) (e : A (66 + 2 * s) = I (66 + 2 * s)) : wdC A L s n := by
  intro k hk
  rw [← h k hk]
  unfold v_X3_signAt v_X3_elementAt
  rw [e]
theorem scr66 {s : Nat} (hs : s < 8) : ¬ scr (66 + 2 * s) := by unfold scr; omega
theorem scr2 : ¬ scr 2 := by unfold scr; omega
theorem scr3 : ¬ scr 3 := by unfold scr; omega
theorem scrP (i : Nat) (hi : i < 8) : ¬ scr (5 + 2 * i) := by unfold scr; omega
/-- the letters of a word -/
theorem word_cases (hR : Rn I L nl m) : ∀ n, (∀ k, k < n → ∃ j, j < nl ∧ wdP L s k = nI j) ∨ ∃ k, k < n ∧ (∀ q, q < k → ∃ j, j < nl ∧ wdP L s q = nI j) ∧ v_X4_isLetter I 2 (wdP L s k) = 0 ∧ v_X7_isLetter I (wdP L s k) = 0
  | 0 => Or.inl (fun k hk => absurd hk (Nat.not_lt_zero _))
  | n + 1 => by
    obtain ⟨hW, hNl, hn, hm, e2, e2', e3, e3', e4, e5, e6, hf⟩ := Rn_wx hR
    rcases word_cases hR n with h | ⟨k, h1, h2, h3⟩
    · rcases let_cases hn e2 e2' (wdP L s n) with ⟨c1, c2⟩ | ⟨j, hj, ej, c1, c2⟩
      · exact Or.inr ⟨n, by omega, h, c1, c2⟩
      · refine Or.inl (fun k hk => ?_)
        by_cases e : k = n
        · rw [e]; exact ⟨j, hj, ej⟩
        · exact h k (by omega)
    · exact Or.inr ⟨k, by omega, h2, h3⟩
theorem isl1 (hR : Rn I L nl m) {j : Nat} (hj : j < nl) : v_X4_isLetter I 2 (nI j) = 1 ∧ v_X7_isLetter I (nI j) = 1 := by
  obtain ⟨hW, hNl, hn, hm, e2, e2', e3, e3', e4, e5, e6, hf⟩ := Rn_wx hR
  have hj8 : j < 8 := by omega
  rcases let_cases hn e2 e2' (nI j) with ⟨c1, c2⟩ | ⟨q, hq, eq, c1, c2⟩
  · rw [isl e2 hn hj] at c1
    exact absurd c1 (by decide)
  · exact ⟨c1, c2⟩
theorem c_areLetters1 (hR : Rn I L nl m) (hs : s < 8) (hn : n ≤ 160) (hC : wdC I L s n) (hw : ∀ k, k < n → ∃ j, j < nl ∧ wdP L s k = nI j) (h : Q (some (vI 1)) I L) : Call l g 3 M_X6_areLetters [vR 1, vR (66 + 2 * s), vI (nI n)] I L Q := by
  refine m_X6_areLetters (fun k hk X E => ?_)
  refine zdown (N := n) (P := fun c => AW k g 4 I L 2 [(0, vR 1), (1, vR (66 + 2 * s)), (2, vI (nI n)), (3, vI (nI c))] []) ?_ (fun c hc ih => ?_) (c := 0) (by omega)
  · refine s_X6_areLetters_2 X E ?_
    rw [if_neg (nI_nlt (Nat.le_refl _) (by omega))]
    exact h
  · refine s_X6_areLetters_2 X E ?_
    obtain ⟨j, hj, ej⟩ := hw c hc
    rw [if_pos (nI_lt hc (by omega)), hC c hc, ej, if_neg (ne0 (isl1 hR hj).1), ← nI_succ]
    exact ⟨zshS s hs, ih⟩
theorem c_areLetters0 (hR : Rn I L nl m) (hs : s < 8) (hn : n ≤ 160) (hC : wdC I L s n) {q : Nat} (hq : q < n) (hw : ∀ k, k < q → ∃ j, j < nl ∧ wdP L s k = nI j) (h0 : v_X4_isLetter I 2 (wdP L s q) = 0) (h : Q (some (vI 0)) I L) : Call l g 3 M_X6_areLetters [vR 1, vR (66 + 2 * s), vI (nI n)] I L Q := by
  refine m_X6_areLetters (fun k hk X E => ?_)
  refine zdown (N := q) (P := fun c => AW k g 4 I L 2 [(0, vR 1), (1, vR (66 + 2 * s)), (2, vI (nI n)), (3, vI (nI c))] []) ?_ (fun c hc ih => ?_) (c := 0) (by omega)
  · refine s_X6_areLetters_2 X E ?_
    rw [if_pos (nI_lt hq (by omega)), hC q hq, if_pos h0]
    exact ⟨zshS s hs, h⟩
  · refine s_X6_areLetters_2 X E ?_
    obtain ⟨j, hj, ej⟩ := hw c hc
    rw [if_pos (nI_lt (by omega) (by omega)), hC c (by omega), ej, if_neg (ne0 (isl1 hR hj).1), ← nI_succ]
    exact ⟨zshS s hs, ih⟩
/-- one pane's bits -/
theorem c_rightOnGlass (hR : Rn I L nl m) {A : zI} (hA : ∀ a, ¬ scr a → A a = I a) {p : Nat} (hp : p < m) (hG : A 60 0 = I 92 p ∧ A 60 1 = I 93 p ∧ A 60 2 = I 94 p ∧ A 60 4 = I 96 p) (hs : s < 8) (hn : n ≤ 160) (hC : wdC I L s n) (hw : ∀ k, k < n → ∃ j, j < nl ∧ wdP L s k = nI j) (hh : h ≤ 24) (hQ : ∀ B : zI, (∀ a, a ≠ 61 → B a = A a) → Q (some (vI (rlfP I L s h p n))) B L) : Call l g 5 M_X5_lettersRightOnGlass [vR 59, vR (66 + 2 * s), vI (nI n), vI (nI h)] A L Q := by
  obtain ⟨hW, hNl, hn8, hm, e2, e2', e3, e3', e4, e5, e6, hf⟩ := Rn_wx hR
  refine m_X5_lettersRightOnGlass (fun k hk X E => ?_)
  refine zdown (N := n) (P := fun c => ∀ B : zI, (∀ a, a ≠ 61 → B a = A a) → AW k g 7 B L 6 [(0, vR 59), (1, vR (66 + 2 * s)), (2, vI (nI n)), (3, vI (nI h)), (4, vI (rlfP I L s h p c)), (5, vI (nI c))] []) (fun B b1 => ?_) (fun c hc ih B b1 => ?_) (c := 0) (by omega) A (fun _ _ => rfl)
  · refine s_X5_lettersRightOnGlass_6 X E ?_
    rw [if_neg (nI_nlt (Nat.le_refl _) (by omega))]
    exact hQ B b1
  · refine s_X5_lettersRightOnGlass_6 X E ?_
    have b66 : B (66 + 2 * s) = I (66 + 2 * s) := by rw [b1 _ (by omega), hA _ (scr66 hs)]
    have b2 : B 2 = I 2 := by rw [b1 2 (by decide), hA 2 scr2]
    have b3 : B 3 = I 3 := by rw [b1 3 (by decide), hA 3 scr3]
    have b60 : B 60 = A 60 := b1 60 (by decide)
    obtain ⟨j, hj, ej⟩ := hw c hc
    rw [if_pos (nI_lt hc (by omega)), wdC_t hC b66 c hc, b2]
    refine ⟨zshS s hs, c_shapeOnGlass hh (fun B2 g1 g2 => ⟨_, rfl, ?_⟩)⟩
    have f2 : B2 2 = I 2 := (g1 2 (by decide)).trans b2
    have f3 : B2 3 = I 3 := (g1 3 (by decide)).trans b3
    have ec : v_X4_cellsOf B 2 (wdP L s c) = mform I (wdP L s c) := by
      rw [← cellsOf_m hn8 e2 hf (Or.inr ⟨j, hj, ej⟩)]
      unfold v_X4_cellsOf v_X4_isLetter
      rw [b2, b3]
    obtain ⟨g0, g1', g2', g4⟩ := hG
    have er : v_X4_readingOf B2 2 (shpH (B 60 0) (B 60 1) (B 60 2) (B 60 4) (v_X4_cellsOf B 2 (wdP L s c)) (I 2 4) (B 2 5) (B 2 6) h) = ob I p (wdP L s c) h := by
      rw [b60, g0, g1', g2', g4, ec, b2, e4, e5, e6]
      unfold v_X4_readingOf ob rdH
      rw [f2, f3, e2, e2', zcl (by omega), rdg_cong hf]
    dsimp only
    rw [er]
    refine ⟨⟨nl, hn8, by rw [f2]; exact e2⟩, ?_⟩
    intro u7 e7
    have ih' := ih B2 (fun a ha => (g1 a ha).trans (b1 a ha))
    unfold rlfP at ih'
    rw [← nI_succ, e7]
    by_cases ho : ob I p (wdP L s c) h = wdP L s c
    · rw [if_pos (show okW' I L s h p c = true from decide_eq_true ho)] at ih'
      rw [if_pos ho]
      exact ih'
    · rw [if_neg (show ¬ okW' I L s h p c = true from fun e => ho (of_decide_eq_true e))] at ih'
      rw [if_neg ho]
      exact ih'
theorem c_noteRight (hR : Rn I L nl m) (hs : s < 8) (hn : n ≤ 160) (hC : wdC I L s n) (hw : ∀ k, k < n → ∃ j, j < nl ∧ wdP L s k = nI j) (hh : h ≤ 24) (hQ : ∀ A : zI, (∀ a, ¬ scr a → A a = I a) → (∀ p, p < m → A 63 p = rlfP I L s h p n) → Q none A L) : Call l g 6 M_X5_noteRightLetters [vR 59, vR (66 + 2 * s), vI (nI n), vI (nI h)] I L Q := by
  obtain ⟨hW, hNl, hn8, hm, e2, e2', e3, e3', e4, e5, e6, hf⟩ := Rn_wx hR
  have sc63 : scr 63 := Or.inl ⟨by decide, by decide⟩
  refine m_X5_noteRightLetters (fun k hk X E => ?_)
  refine zdown (N := 8) (P := fun c => ∀ B : zI, (∀ a, ¬ scr a → B a = I a) → (∀ p, p < c → p < m → B 63 p = rlfP I L s h p n) → AW k g 6 B L 3 [(0, vR 59), (1, vR (66 + 2 * s)), (2, vI (nI n)), (3, vI (nI h)), (4, vI (nI c))] []) (fun B b1 b2 => ?_) (fun c hc ih B b1 b2 => ?_) (c := 0) (by omega) I (fun _ _ => rfl) (fun _ hh => absurd hh (Nat.not_lt_zero _))
  · refine s_X5_noteRightLetters_3 X E ?_
    rw [if_neg (show ¬ nI 8 < 8 by decide)]
    exact hQ B b1 (fun p hp => b2 p (by omega) hp)
  · refine s_X5_noteRightLetters_3 X E ?_
    rw [if_pos (n8 hc), zcl (by omega), ← nI_succ]
    refine ⟨zvin hc (by decide), ?_⟩
    intro I3 e3a
    have o3 : ∀ a, ¬ scr a → I3 a = I a := fun a ha => by rw [e3a, zs_nec (fun e => ha (by rw [e]; exact sc63))]; exact b1 a ha
    rcases paneAt_g (I := I3) (s := 2) (m := m) (i := c) (by rw [o3 2 scr2]; exact e3) hm hc with ⟨w1, w2⟩ | ⟨w1, w2⟩
    · rw [w2, if_neg (by omega), show 2 + 3 + 2 * c = 5 + 2 * c by omega]
      refine c_takeGlass (p := 60) rfl (zshP c hc) (by omega) (fun I5 g1 g2 => ⟨rfl, ?_⟩)
      obtain ⟨hP, p0, p1, p2, p3, p4, -, -⟩ := Rn_pane hR w1
      have sc60 : scr 60 := Or.inl ⟨by decide, by decide⟩
      have sc61 : scr 61 := Or.inl ⟨by decide, by decide⟩
      have o5 : ∀ a, ¬ scr a → I5 a = I a := fun a ha => (g1 a (fun e => ha (by rw [e]; exact sc60))).trans (o3 a ha)
      have oP : I3 (5 + 2 * c) = I (5 + 2 * c) := o3 _ (scrP c hc)
      rw [oP] at g2
      refine c_rightOnGlass hR o5 w1 ⟨(g2 0 (by decide)).trans p0, (g2 1 (by decide)).trans p1, (g2 2 (by decide)).trans p2, (g2 4 (by decide)).trans p4⟩ hs hn hC hw hh (fun B2 k1 => ⟨_, rfl, ?_⟩)
      refine ih _ (fun a ha => ?_) (fun p hp hpm => ?_)
      · rw [zs_nec (fun e => ha (by rw [e]; exact sc63)), k1 a (fun e => ha (by rw [e]; exact sc61))]
        exact o5 a ha
      · rw [zs_at]
        by_cases e : p = c
        · rw [if_pos e, e]
        · rw [if_neg e, k1 63 (by decide), g1 63 (by decide), e3a, zs_ne (fun z => e z.2)]
          exact b2 p (by omega) hpm
    · rw [w2, if_pos rfl]
      refine ih I3 o3 (fun p hp hpm => ?_)
      rw [e3a, zs_ne (fun z => by omega)]
      exact b2 p (by omega) hpm
/-- a choice -/
theorem isCh {A : zI} (hA : A 2 3 = nI m) (hm : m ≤ 8) {c p : Nat} (hp : p < m) : v_X5_isChosen A (nI c) (nI p) = if chP m c p = true then 1 else 0 := by
  unfold v_X5_isChosen
  rw [hA, show nI m - 1 - nI p = nI (m - 1 - p) from by rw [show nI m - 1 = nI (m - 1) from pk_sub (b := 1) (by omega), pk_sub (by omega)], cellbit (show m - 1 - p < 32 by omega) rfl, bt_nI, decide_eq_true (show m - 1 - p < 32 by omega), Bool.true_and]
  unfold chP
  cases c.testBit (m - 1 - p) <;> decide
theorem c_rightBy {A : zI} (hA : A 2 3 = nI m) (hm : m ≤ 8) (hs : s < 8) (hn : n ≤ 160) (hnl : nl ≤ 8) (hC : wdC A L s n) (hw : ∀ k, k < n → ∃ j, j < nl ∧ wdP L s k = nI j) (h63 : ∀ p, p < m → A 63 p = rlfP I L s h p n) {c : Nat} (hc : cnA (chP m c) m = n) (hQ : Q (some (vI (nI (rtA (chP m c) (okW' I L s h) m)))) A L) : Call l g 3 M_X5_rightBy [vR 59, vI (nI c), vR (66 + 2 * s)] A L Q := by
  refine m_X5_rightBy (fun k hk X E => ?_)
  refine zdown (N := m) (P := fun p => AW k g 6 A L 8 [(0, vR 59), (1, vI (nI c)), (2, vR (66 + 2 * s)), (3, vI (nI (rtA (chP m c) (okW' I L s h) p))), (4, vI (nI (cnA (chP m c) p))), (5, vI (nI p))] []) ?_ (fun p hp ih => ?_) (c := 0) (by omega)
  · refine s_X5_rightBy_8 X E ?_
    rw [hA, if_neg (nI_nlt (Nat.le_refl _) (by omega))]
    exact hQ
  · refine s_X5_rightBy_8 X E ?_
    rw [isCh hA hm hp, hA, if_pos (nI_lt hp (by omega)), if_pos (n8 (by omega)), ← nI_succ p, zcl (by omega), h63 p hp]
    refine ⟨fun _ => ⟨zvin (by omega) (by decide), zshS s hs⟩, ?_⟩
    intro u8 e8
    by_cases hch : chP m c p = true
    · have hk : cnA (chP m c) p < n := by rw [← hc]; exact cnA_lt hch hp
      rw [if_pos hch, if_neg (by decide), hC _ hk, rlf_at hnl hw hk] at e8
      rw [cnA_s hch] at ih
      rw [if_pos hch, if_neg (by decide), ← nI_succ]
      by_cases ho : okW' I L s h p (cnA (chP m c) p) = true
      · rw [if_pos ho] at e8
        rw [rtA_1 hch ho] at ih
        rw [← nI_succ] at e8
        rw [e8]
        exact ih
      · rw [if_neg ho] at e8
        rw [rtA_0 hch ho] at ih
        rw [Int32.add_zero] at e8
        rw [e8]
        exact ih
    · rw [if_neg hch, if_pos rfl] at e8
      rw [cnA_n hch, rtA_n hch] at ih
      rw [if_neg hch, if_pos rfl, e8]
      exact ih
theorem c_choose {A : zI} (hA : A 2 3 = nI m) (hm : m ≤ 8) (hs : s < 8) (hnm : n ≤ m) (hnl : nl ≤ 8) (hC : wdC A L s n) (hw : ∀ k, k < n → ∃ j, j < nl ∧ wdP L s k = nI j) (h63 : ∀ p, p < m → A 63 p = rlfP I L s h p n) (hQ : ∀ (B : zI) (c : Nat), (∀ a, a ≠ 59 → B a = A a) → BstP m n (okW' I L s h) c → B 59 6 = nI (rtA (chP m c) (okW' I L s h) m) → B 59 5 = nI c → Q none B L) : Call l g 4 M_X5_choosePanesFor [vR 59, vR (66 + 2 * s), vI (nI n)] A L Q := by
  obtain ⟨sh1, sh2⟩ := sh_tab m (by omega)
  refine m_X5_choosePanesFor (fun k hk X E => ?_)
  intro I1 eI1 I2 eI2
  have o2 : ∀ a, a ≠ 59 → I2 a = A a := fun a ha => by rw [eI2, zs_nec ha, eI1, zs_nec ha]
  have i6 : I2 59 6 = -1 := by rw [eI2, zs_same]
  rw [o2 2 (by decide), hA, sh1]
  have lp : ∀ t, t ≤ 2 ^ m → ∀ B : zI, (∀ a, a ≠ 59 → B a = A a) → ((B 59 6 = -1 ∧ ∀ c', t ≤ c' → c' < 2 ^ m → ¬ cnA (chP m c') m = n) ∨ ∃ c, t ≤ c ∧ c < 2 ^ m ∧ cnA (chP m c) m = n ∧ B 59 6 = nI (rtA (chP m c) (okW' I L s h) m) ∧ B 59 5 = nI c ∧ ∀ c', t ≤ c' → c' < 2 ^ m → cnA (chP m c') m = n → rtA (chP m c') (okW' I L s h) m < rtA (chP m c) (okW' I L s h) m ∨ (rtA (chP m c') (okW' I L s h) m = rtA (chP m c) (okW' I L s h) m ∧ c' ≤ c)) → AW k g 5 B L 22 [(0, vR 59), (1, vR (66 + 2 * s)), (2, vI (nI n)), (3, vI (nI t - 1))] [] := by
    intro t
    induction t with
    | zero =>
      intro _ B b1 b2
      refine s_X5_choosePanesFor_22 X E ?_
      rw [if_pos (show nI 0 - 1 < 0 by decide)]
      rcases b2 with ⟨-, b2⟩ | ⟨c, c1, c2, c3, c4, c5, c6⟩
      · exact absurd (ex_tab m (by omega) n (by omega)).2 (b2 _ (Nat.zero_le _) (ex_tab m (by omega) n (by omega)).1)
      · exact hQ B c b1 ⟨c2, c3, fun c' h1 h2 => c6 c' (Nat.zero_le _) h1 h2⟩ c4 c5
    | succ t ih =>
      intro ht B b1 b2
      refine s_X5_choosePanesFor_22 X E ?_
      have ht9 : t < 2 ^ m := by omega
      rw [nI_m1, if_neg (nI_pos (by omega)), show nI t + (-1) = nI t - 1 from (Int32.sub_eq_add_neg _ _).symm]
      have ebc : v_J6_bitCount_0f7a4 (nI t) = nI (cnA (chP m t) m) := (bc_tab m (by omega) t ht9).1
      have hle := cnA_le (chP m t) m
      rw [ebc]
      by_cases hcn : cnA (chP m t) m = n
      · rw [hcn, if_pos rfl]
        have bA : B 2 3 = nI m := by rw [b1 2 (by decide)]; exact hA
        refine c_rightBy (A := B) (h := h) bA hm hs (by omega) hnl (wdC_t hC (b1 _ (by omega))) hw (fun p hp => by rw [b1 63 (by decide)]; exact h63 p hp) hcn ⟨_, rfl, ?_⟩
        have hrl := rtA_le (chP m t) (okW' I L s h) m
        have take : ∀ hall : (∀ c', t + 1 ≤ c' → c' < 2 ^ m → cnA (chP m c') m = n → rtA (chP m c') (okW' I L s h) m < rtA (chP m t) (okW' I L s h) m), (∀ I5 : zI, I5 = (zs B 59 6 (nI (rtA (chP m t) (okW' I L s h) m))) → AW k g 5 (zs I5 59 5 (nI t)) L 22 [(0, vR 59), (1, vR (66 + 2 * s)), (2, vI (nI n)), (3, vI (nI t - 1))] []) := by
          rintro hall I5 rfl
          refine ih (by omega) _ (fun a ha => by rw [zs_nec ha, zs_nec ha]; exact b1 a ha) (Or.inr ⟨t, Nat.le_refl _, ht9, hcn, ?_, ?_, fun c' h1 h2 h3 => ?_⟩)
          · rw [zs_ne (by omega), zs_same]
          · rw [zs_same]
          · by_cases e : c' = t
            · subst e; exact Or.inr ⟨rfl, Nat.le_refl _⟩
            · exact Or.inl (hall c' (by omega) h2 h3)
        rcases b2 with ⟨b3, b2⟩ | ⟨c, c1, c2, c3, c4, c5, c6⟩
        · dsimp only
          rw [b3, if_pos (show (-1 : Int32) < nI (rtA (chP m t) (okW' I L s h) m) from by rw [i_lt, n_toInt (by omega)]; show (-1 : Int) < _; omega)]
          exact take (fun c' h1 h2 h3 => absurd h3 (b2 c' h1 h2))
        · have hrl2 := rtA_le (chP m c) (okW' I L s h) m
          dsimp only
          rw [c4]
          by_cases hgt : rtA (chP m c) (okW' I L s h) m < rtA (chP m t) (okW' I L s h) m
          · rw [if_pos (nI_lt hgt (by omega))]
            exact take (fun c' h1 h2 h3 => by have := c6 c' h1 h2 h3; omega)
          · rw [if_neg (nI_nlt (by omega) (by omega))]
            refine ih (by omega) B b1 (Or.inr ⟨c, by omega, c2, c3, c4, c5, fun c' h1 h2 h3 => ?_⟩)
            by_cases e : c' = t
            · subst e
              omega
            · exact c6 c' (by omega) h2 h3
      · rw [if_neg (fun e => hcn ((n_eq (by omega) (by omega)).mp e))]
        refine ih (by omega) B b1 ?_
        rcases b2 with ⟨b3, b2⟩ | ⟨c, c1, c2, c3, c4, c5, c6⟩
        · refine Or.inl ⟨b3, fun c' h1 h2 => ?_⟩
          by_cases e : c' = t
          · rw [e]; exact hcn
          · exact b2 c' (by omega) h2
        · refine Or.inr ⟨c, by omega, c2, c3, c4, c5, fun c' h1 h2 h3 => ?_⟩
          by_cases e : c' = t
          · rw [e] at h3; exact absurd h3 hcn
          · exact c6 c' (by omega) h2 h3
  exact lp (2 ^ m) (Nat.le_refl _) I2 o2 (Or.inl ⟨i6, fun c' h1 h2 => by omega⟩)
theorem c_chosenPane {A : zI} (hA : A 2 3 = nI m) (hm : m ≤ 8) {c i p : Nat} (h5 : A 59 5 = nI c) (hp : p < m) (hch : chP m c p = true) (hi : cnA (chP m c) p = i) (hQ : Q (some (vI (nI p))) A L) : Call l g 2 M_X5_chosenPane [vR 59, vI (nI i)] A L Q := by
  have hle := cnA_le (chP m c) p
  refine m_X5_chosenPane (fun k hk X E => ?_)
  refine zdown (N := p) (P := fun q => AW k g 4 A L 4 [(0, vR 59), (1, vI (nI i)), (2, vI (nI (cnA (chP m c) q))), (3, vI (nI q))] []) ?_ (fun q hq ih => ?_) (c := 0) (by omega)
  · refine s_X5_chosenPane_4 X E ?_
    rw [h5, isCh hA hm hp, hA, if_pos (nI_lt hp (by omega)), if_pos hch, if_neg (by decide), hi, if_pos rfl]
    exact hQ
  · refine s_X5_chosenPane_4 X E ?_
    have hleq := cnA_le (chP m c) q
    rw [h5, isCh hA hm (show q < m by omega), hA, if_pos (nI_lt (show q < m by omega) (by omega)), ← nI_succ q]
    unfold cnA at ih
    by_cases hcq : chP m c q = true
    · have hlt := cnA_lt hcq hq
      rw [if_pos hcq] at ih
      rw [if_pos hcq, if_neg (by decide), if_neg (fun e => by rw [n_eq (by omega) (by omega)] at e; omega), ← nI_succ]
      exact ih
    · rw [if_neg hcq] at ih
      rw [if_neg hcq, if_pos rfl]
      exact ih
end ZPR
