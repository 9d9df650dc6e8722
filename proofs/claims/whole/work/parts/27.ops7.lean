/-! OPERATIONS: closest, mend, element, ask, room, hang, form -/
theorem nrI_cong {f f2 : Nat → Int32} {i : Nat} {z : Int32 × Int32} : ∀ {k : Nat}, (∀ j, j < i + 1 + k → f j = f2 j) → nrI f i z k = nrI f2 i z k
  | 0, _ => rfl
  | k + 1, h => by
    unfold nrI
    rw [nrI_cong (fun j hj => h j (by omega)), h i (by omega), h (i + 1 + k) (by omega)]
theorem nrO_cong {f f2 : Nat → Int32} {N : Nat} (h : ∀ j, j < N → f j = f2 j) : ∀ i, i ≤ N → nrO f N i = nrO f2 N i
  | 0, _ => rfl
  | i + 1, hi => by
    unfold nrO
    rw [nrO_cong h i (by omega), nrI_cong (fun j hj => h j (by omega))]
theorem sim_closest : Sim M_X6_closest 5 M_X7_closest 2 [] := by
  rintro l g I L ⟨n, m, h⟩
  obtain ⟨hW, hN, hn, hm, e2, e2', e3, e3', e4, e5, e6, hf⟩ := Rn_wx h
  refine m_X6_closest ?_
  by_cases hb : I 2 2 < 2
  · rw [if_pos hb]
    have hb' : I 87 3 < 2 := by rw [e2']; rw [e2] at hb; exact hb
    exact both_no (k := 5) (by decide) rfl h (fun Q hq => m_X7_closest (fun k hk X E => by rw [if_pos (show rf1 I 5 87 3 < 2 from hb'), hk]; exact hq))
  · have hb' : ¬ I 87 3 < 2 := by rw [e2']; rw [e2] at hb; exact hb
    rw [if_neg hb]
    refine ⟨⟨n, hn, e2⟩, _, rfl, m_X7_closest (fun k hk X E => ?_)⟩
    rw [if_neg hb']
    have hv : v_X4_nearestPair I 2 = (nrO (I 91) n n).1 := by
      unfold v_X4_nearestPair
      rw [e2, zcl (by omega), nrO_cong (f := I (2 + 1)) (f2 := I 91) hf n (Nat.le_refl _)]
    refine zdown (N := n) (P := fun c => AW k g 6 I L 22 [(0, vR 87), (1, vI (nrO (I 91) n c).1), (2, vI (nrO (I 91) n c).2), (3, vI (nI c))] []) ?_ (fun c hc ih => ?_) (c := 0) (by omega)
    · refine s_X7_closest_22 X E ?_
      rw [e2', if_neg (nI_nlt (Nat.le_refl _) (by omega))]
      exact ⟨_, rfl, hv, n, m, h⟩
    · refine s_X7_closest_22 X E ?_
      rw [e2', if_pos (nI_lt hc (by omega)), ← nI_succ]
      refine zdown (N := n - (c + 1)) (P := fun j => AW k g 6 I L 35 [(0, vR 87), (1, vI (nrI (I 91) c (nrO (I 91) n c) j).1), (2, vI (nrI (I 91) c (nrO (I 91) n c) j).2), (3, vI (nI c)), (4, vI (nI (c + 1 + j)))] []) ?_ (fun j hj ih2 => ?_) (c := 0) (by omega)
      · refine s_X7_closest_35 X E ?_
        rw [e2', show c + 1 + (n - (c + 1)) = n by omega, if_neg (nI_nlt (Nat.le_refl _) (by omega)), ← nI_succ]
        exact ih
      · refine s_X7_closest_35 X E ?_
        rw [e2', if_pos (nI_lt (by omega) (by omega)), zcl (by omega), zcl (by omega), ← nI_succ]
        refine ⟨zvin (by omega) (by decide), zvin (by omega) (by decide), ?_⟩
        rintro u rfl u2 rfl
        exact ih2
theorem few_cong {f f2 : Nat → Int32} {a b : Int32} : ∀ {n : Nat}, (∀ j, j < n → f j = f2 j) → few f a b n = few f2 a b n
  | 0, _ => rfl
  | n + 1, h => by
    unfold few
    rw [few_cong (fun j hj => h j (by omega)), h n (by omega)]
theorem bst_cong {f f2 : Nat → Int32} {n : Nat} {a b : Int32} (h : ∀ j, j < n → f j = f2 j) : ∀ c, bst f n a b c = bst f2 n a b c
  | 0 => rfl
  | c + 1 => by
    unfold bst
    rw [bst_cong h c, few_cong h]
theorem sim_mend (a1 : Int32) : Sim M_X6_mend 5 M_X7_mend 3 [vI a1] := by
  rintro l g I L ⟨n, m, h⟩
  obtain ⟨hW, hN, hn, hm, e2, e2', e3, e3', e4, e5, e6, hf⟩ := Rn_wx h
  refine m_X6_mend ?_
  rcases let_cases hn e2 e2' a1 with ⟨d1, d2⟩ | ⟨x, hx, rfl, d1, d2⟩
  · rw [if_pos d1]
    exact both_no (k := 1) (by decide) rfl h (fun Q hq => m_X7_mend (fun k hk X E => by rw [if_pos (show v_X7_isLetter (rf1 I 1) a1 = 0 from d2), hk]; exact hq))
  rw [if_neg (ne0 d1)]
  by_cases hb : I 2 2 < 2
  · rw [if_pos hb]
    have hb' : I 87 3 < 2 := by rw [e2']; rw [e2] at hb; exact hb
    exact both_no (k := 5) (by decide) rfl h (fun Q hq => m_X7_mend (fun k hk X E => by rw [if_neg (show ¬ v_X7_isLetter (rf1 I 5) (nI x) = 0 from ne0 d2), if_pos (show rf1 I 5 87 3 < 2 from hb'), hk]; exact hq))
  · have hb' : ¬ I 87 3 < 2 := by rw [e2']; rw [e2] at hb; exact hb
    rw [if_neg hb]
    refine ⟨⟨n, hn, e2⟩, _, rfl, m_X7_mend (fun k hk X E => ?_)⟩
    rw [if_neg (ne0 d2), if_neg hb']
    have hv : v_X4_bestChange I 2 (nI x) = (bst (I 91) n (nI x) (I 91 x) 16).1 := by
      unfold v_X4_bestChange
      rw [e2, zcl (by omega), cellsOf_in e2 hn hx, bst_cong (f := I (2 + 1)) (f2 := I 91) hf 16]
      rw [show I (2 + 1) x = I 91 x from hf x hx]
    refine zdown (N := 16) (P := fun c => AW k g 7 I L 36 [(0, vR 87), (1, vI (nI x)), (2, vI (bst (I 91) n (nI x) (I 91 x) c).1), (3, vI (bst (I 91) n (nI x) (I 91 x) c).2), (4, vI (nI c))] []) ?_ (fun c hc ih => ?_) (c := 0) (by omega)
    · refine s_X7_mend_36 X E ?_
      rw [if_neg (show ¬ nI 16 < 16 by decide)]
      exact ⟨_, rfl, hv, n, m, h⟩
    · refine s_X7_mend_36 X E ?_
      rw [if_pos (n16 hc)]
      refine zdown (N := n) (P := fun j => AW k g 7 I L 50 [(0, vR 87), (1, vI (nI x)), (2, vI (bst (I 91) n (nI x) (I 91 x) c).1), (3, vI (bst (I 91) n (nI x) (I 91 x) c).2), (4, vI (nI c)), (5, vI (few (I 91) (I 91 x ^^^ jshl 1 (nI c)) (nI x) j)), (6, vI (nI j))] []) ?_ (fun j hj ih2 => ?_) (c := 0) (by omega)
      · refine s_X7_mend_50 X E ?_
        rw [e2', if_neg (nI_nlt (Nat.le_refl _) (by omega)), ← nI_succ]
        exact ih
      · refine s_X7_mend_50 X E ?_
        rw [e2', if_pos (nI_lt hj (by omega)), zcl (by omega), zcl (by omega), ← nI_succ]
        refine ⟨fun _ => ⟨zvin (by omega) (by decide), zvin (by omega) (by decide)⟩, ?_⟩
        rw [Int32.xor_comm (I 91 x ^^^ jshl 1 (nI c)) (I 91 j)]
        rintro u rfl
        exact ih2
def SimL (Mx : zM) (dx : Nat) (Mm : zM) (dm : Nat) (as : List zv) : Prop := ∀ (l : Launch) (g : zG) (I : zI) (L : zL), R I L → Call l g dx Mx (vR 1 :: as) I L (zl fun r1 I1 L1 => Call l g dm Mm (vR 87 :: as) I1 L1 (zl fun r2 I2 L2 => r1 = r2 ∧ R I2 L2))
theorem isRow_1 {I : zI} {L : zL} {s m : Nat} (hs : s < 8) (hm : m ≤ 8) (h : RSh I L s m) : k_X7_isRow I (nI s) ∧ v_X7_isRow I (nI s) = I (66 + 2 * s) 4 := by
  refine ⟨zvin hs (by decide), ?_⟩
  unfold v_X7_isRow
  rw [zcl (by omega)]
  rcases h with ⟨r1, ⟨t, ht, r2⟩, r3, -⟩ | ⟨r1, r2, r3, r4⟩
  · rw [r1, r3, r2, show (100 : Int32) = nI 100 from rfl, nI_add, if_neg]
    rw [n_lt (by omega) (by decide)]
    omega
  · rw [r1, r3, if_pos]
    rcases r4 with e | ⟨q, hq, e⟩
    · rw [e]; decide
    · rw [e, show (100 : Int32) = nI 100 from rfl, n_lt (by omega) (by decide)]
      omega
theorem at160 {s i : Nat} (hs : s < 8) (hi : i < 160) : 160 * nI s + nI i = nI (160 * s + i) ∧ (160 * nI s + nI i).toNatClampNeg = 160 * s + i ∧ vp_in (160 * nI s + nI i) 1280 := by
  have e : 160 * nI s + nI i = nI (160 * s + i) := by rw [show (160 : Int32) = nI 160 from rfl, pk_mul, nI_add]
  rw [e]
  exact ⟨rfl, zcl (by omega), zvin (by omega) (by decide)⟩
theorem sim_element (a1 a2 : Int32) : SimL M_X6_element 2 M_X7_element 2 [vI a1, vI a2] := by
  rintro l g I L ⟨n, m, h⟩
  have hm : m ≤ 8 := h.1.2.1
  have key : k_X7_element I L a1 a2 ∧ v_X6_element I L a1 a2 = v_X7_element I L a1 a2 := by
    unfold k_X7_element v_X6_element v_X7_element
    rcases shelf_cases a1 with ⟨c1, c2⟩ | ⟨s, hs, rfl, c1, c2⟩
    · rw [if_pos c1, if_pos c2]
      exact ⟨fun hh => absurd c2 hh, rfl⟩
    · obtain ⟨q1, q2⟩ := isRow_1 hs hm (h.2.2.1 s hs)
      rw [if_neg (by rw [c1]; omega), c1, if_neg (ne0 c2), q2, zcl (by omega)]
      unfold v_X3_elementAt
      rcases h.2.2.1 s hs with ⟨r1, r2, r3, r4, ⟨z, hz, r5⟩, r6⟩ | ⟨r1, r2, r3, r4⟩
      · rw [r1, if_neg (show ¬ (1 : Int32) = 0 by decide), r4, r5]
        rcases in_cases a2 (m := z) (by omega) with ⟨w, w2⟩ | ⟨i, hi, rfl, w1, w2, w3⟩
        · rw [if_pos w2]
          refine ⟨fun _ => ⟨q1, fun _ hh => absurd w2 hh⟩, ?_⟩
          rcases w with w | ⟨w, w'⟩
          · rw [if_pos w]
          · rw [if_neg w, if_neg w']
        · rw [if_neg (ne0 w3), if_neg w1, if_pos w2, if_pos (show nI i < 160 from (nI_lt (show i < 160 by omega) (by decide) : nI i < nI 160)), (at160 hs (show i < 160 by omega)).2.1, zcl (by omega)]
          refine ⟨fun _ => ⟨q1, fun _ _ => (at160 hs (show i < 160 by omega)).2.2⟩, ?_⟩
          rw [show 66 + 2 * s + 1 = 67 + 2 * s by omega]
          exact (r6 i (by rw [r5, zcl (by omega)]; exact hi)).1
      · rw [r1, if_pos rfl, r2]
        refine ⟨fun _ => ⟨q1, fun hh => absurd rfl hh⟩, ?_⟩
        by_cases w : a2 < 0
        · rw [if_pos w]
        · rw [if_neg w, if_neg w]
  refine Call_p p_X6_element ⟨_, rfl, Call_p (p_X7_element key.1) ⟨_, rfl, key.2, n, m, h⟩⟩
/-- the weather changes alike -/
theorem Rn_wx1 {I : zI} {L : zL} {n m f f' : Nat} {v : Int32} (h : Rn I L n m) (hc : (f = 4 ∧ f' = 12 ∧ zle 40 v) ∨ (f = 5 ∧ f' = 13 ∧ zle 9 v) ∨ (f = 6 ∧ f' = 14 ∧ zle 9 v)) : Rn (zs (zs I 2 f v) 87 f' v) L n m := by
  refine Rn_street h (fun b h1 h2 h3 h4 => by rw [zs_nec h3, zs_nec (by omega)]) (by rw [zs_nec (by decide), zs_nec (by decide)]) (fun j hj => ?_) (Nat.le_refl _) ?_
  · rw [zs_ne (by omega), zs_nec (by decide)]
  · obtain ⟨h1, h2, h3, h4, h5, h6, h7, h8, h9, h10, h11, h12⟩ := h.1
    have q2 : ∀ j, j ≠ f → zs (zs I 2 f v) 87 f' v 2 j = I 2 j := fun j hj => by rw [zs_nec (by decide), zs_ne (fun z => hj z.2)]
    have q2' : zs (zs I 2 f v) 87 f' v 2 f = v := by rw [zs_nec (by decide), zs_same]
    have q87 : ∀ j, j ≠ f' → zs (zs I 2 f v) 87 f' v 87 j = I 87 j := fun j hj => by rw [zs_ne (fun z => hj z.2), zs_nec (by decide)]
    have q87' : zs (zs I 2 f v) 87 f' v 87 f' = v := by rw [zs_same]
    have hp : ∀ i, i < m → RPn (zs (zs I 2 f v) 87 f' v) (2 + 3 + 2 * i) (I 92 i) (I 93 i) (I 94 i) (I 95 i) (I 96 i) (fun c => I 97 (16 * i + c)) n := fun i hi => RPn_cong (by rw [zs_nec (by omega), zs_nec (by omega)]) (by rw [zs_nec (by omega), zs_nec (by omega)]) (h12 i hi)
    unfold RC RS
    rcases hc with ⟨rfl, rfl, hz⟩ | ⟨rfl, rfl, hz⟩ | ⟨rfl, rfl, hz⟩
    · exact ⟨h1, h2, ⟨by rw [q2 2 (by decide)]; exact h3.1, by rw [q87 3 (by decide)]; exact h3.2⟩, ⟨by rw [q2 3 (by decide)]; exact h4.1, by rw [q87 5 (by decide)]; exact h4.2⟩, ⟨by rw [q2', q87'], by rw [q87']; exact hz⟩, by rw [q2 5 (by decide), q87 13 (by decide)]; exact h6, by rw [q2 6 (by decide), q87 14 (by decide)]; exact h7, by rw [q2 7 (by decide), q87 15 (by decide)]; exact h8, by rw [q2 8 (by decide), q87 16 (by decide)]; exact h9, by rw [q2 9 (by decide), q87 17 (by decide)]; exact h10, fun j hj => by rw [zs_nec (by decide), zs_nec (by decide), zs_nec (by decide), zs_nec (by decide)]; exact h11 j hj, hp⟩
    · exact ⟨h1, h2, ⟨by rw [q2 2 (by decide)]; exact h3.1, by rw [q87 3 (by decide)]; exact h3.2⟩, ⟨by rw [q2 3 (by decide)]; exact h4.1, by rw [q87 5 (by decide)]; exact h4.2⟩, by rw [q2 4 (by decide), q87 12 (by decide)]; exact h5, ⟨by rw [q2', q87'], by rw [q87']; exact hz⟩, by rw [q2 6 (by decide), q87 14 (by decide)]; exact h7, by rw [q2 7 (by decide), q87 15 (by decide)]; exact h8, by rw [q2 8 (by decide), q87 16 (by decide)]; exact h9, by rw [q2 9 (by decide), q87 17 (by decide)]; exact h10, fun j hj => by rw [zs_nec (by decide), zs_nec (by decide), zs_nec (by decide), zs_nec (by decide)]; exact h11 j hj, hp⟩
    · exact ⟨h1, h2, ⟨by rw [q2 2 (by decide)]; exact h3.1, by rw [q87 3 (by decide)]; exact h3.2⟩, ⟨by rw [q2 3 (by decide)]; exact h4.1, by rw [q87 5 (by decide)]; exact h4.2⟩, by rw [q2 4 (by decide), q87 12 (by decide)]; exact h5, by rw [q2 5 (by decide), q87 13 (by decide)]; exact h6, ⟨by rw [q2', q87'], by rw [q87']; exact hz⟩, by rw [q2 7 (by decide), q87 15 (by decide)]; exact h8, by rw [q2 8 (by decide), q87 16 (by decide)]; exact h9, by rw [q2 9 (by decide), q87 17 (by decide)]; exact h10, fun j hj => by rw [zs_nec (by decide), zs_nec (by decide), zs_nec (by decide), zs_nec (by decide)]; exact h11 j hj, hp⟩
theorem may_cases (v : Int32) (b : Nat) (hb : b ≤ 1000) : ((v < 0 ∨ (¬ v < 0 ∧ nI b < v)) ∧ v_X7_within v 0 (nI b) = 0) ∨ (zle b v ∧ ¬ v < 0 ∧ ¬ nI b < v ∧ v_X7_within v 0 (nI b) = 1) := by
  unfold v_X7_within
  by_cases h : v < 0
  · exact Or.inl ⟨Or.inl h, by rw [if_pos h]⟩
  · by_cases h2 : nI b < v
    · exact Or.inl ⟨Or.inr ⟨h, h2⟩, by rw [if_neg h, if_pos h2]⟩
    · obtain ⟨k, hk, rfl⟩ := n_of h
      refine Or.inr ⟨⟨k, ?_, rfl⟩, h, h2, by rw [if_neg h, if_neg h2]⟩
      rw [n_lt (by omega) hk] at h2
      omega
theorem sim_ask (a1 a2 : Int32) : Sim M_X6_ask 3 M_X7_ask 2 [vI a1, vI a2] := by
  rintro l g I L ⟨n, m, h⟩
  obtain ⟨hW, hN, hn, hm, e2, e2', e3, e3', e4, e5, e6, hf⟩ := Rn_wx h
  refine m_X6_ask ?_
  have hno : v_X4_mayBecome a1 a2 = 0 → (v_X7_within a1 0 2 = 0 ∨ (¬ v_X7_within a1 0 2 = 0 ∧ v_X7_within a2 0 (if a1 = 0 then 40 else 9) = 0)) → Call l g 1 M_X6_refuse [vR 1, vI (-6)] I L (zi fun r2 I2 L2 => SimQ l g M_X7_ask 2 [vR 87, vI a1, vI a2] (some (vI r2)) I2 L2) := by
    intro _ w
    refine both_no (k := 6) (by decide) rfl h (fun Q hq => m_X7_ask ?_)
    rcases w with w | ⟨w, w2⟩
    · rw [if_pos w]; exact hq
    · rw [if_neg w, if_pos w2]; exact hq
  rcases in_cases a1 (m := 3) (by decide) with ⟨w, w2⟩ | ⟨i, hi, rfl, -, -, w3⟩
  · have hmb : v_X4_mayBecome a1 a2 = 0 := by
      have hne : ∀ j : Nat, j < 3 → ¬ a1 = nI j := by
        intro j hj e
        rcases w with w | ⟨w, w'⟩
        · exact n_neg w j (by omega) e
        · apply w'
          rw [e, n_lt (by omega) (by decide)]
          exact hj
      unfold v_X4_mayBecome v_X4_mostOf
      rw [if_neg (show ¬ a1 = 0 from hne 0 (by decide)), if_neg (show ¬ a1 = 1 from hne 1 (by decide)), if_neg (show ¬ a1 = 2 from hne 2 (by decide))]
      by_cases c : a2 < 0
      · rw [if_pos c]
      · rw [if_neg c, if_pos]
        obtain ⟨k, hk, rfl⟩ := n_of c
        rw [i_lt, n_toInt hk]
        show (-1 : Int) < k
        omega
    rw [if_pos hmb]
    exact hno hmb (Or.inl w2)
  · have hcase : (i = 0 ∨ i = 1 ∨ i = 2) := by omega
    rcases hcase with rfl | rfl | rfl
    · rcases may_cases a2 40 (by decide) with ⟨w, w2⟩ | ⟨hz, w1, w2, w4⟩
      · have hmb : v_X4_mayBecome (nI 0) a2 = 0 := by
          unfold v_X4_mayBecome
          rcases w with w | ⟨w, w'⟩
          · rw [if_pos w]
          · rw [if_neg w]; exact if_pos w'
        rw [if_pos hmb]
        exact hno hmb (Or.inr ⟨by decide, w2⟩)
      · rw [if_neg (show ¬ v_X4_mayBecome (nI 0) a2 = 0 from by unfold v_X4_mayBecome; rw [if_neg w1, if_neg (show ¬ v_X4_mostOf (nI 0) < a2 from w2)]; decide)]
        refine m_X4_changeWeather rfl ?_
        rw [if_pos (by decide)]
        refine ⟨_, rfl, _, rfl, m_X7_ask ?_⟩
        rw [if_neg (by decide), if_neg (show ¬ v_X7_within a2 0 (if nI 0 = 0 then 40 else 9) = 0 from ne0 w4), if_pos (by decide)]
        rintro I14 rfl
        rw [if_neg (by decide), if_neg (by decide)]
        exact ⟨_, rfl, e4, n, m, Rn_wx1 h (Or.inl ⟨rfl, rfl, hz⟩)⟩
    · rcases may_cases a2 9 (by decide) with ⟨w, w2⟩ | ⟨hz, w1, w2, w4⟩
      · have hmb : v_X4_mayBecome (nI 1) a2 = 0 := by
          unfold v_X4_mayBecome
          rcases w with w | ⟨w, w'⟩
          · rw [if_pos w]
          · rw [if_neg w]; exact if_pos w'
        rw [if_pos hmb]
        exact hno hmb (Or.inr ⟨by decide, w2⟩)
      · rw [if_neg (show ¬ v_X4_mayBecome (nI 1) a2 = 0 from by unfold v_X4_mayBecome; rw [if_neg w1, if_neg (show ¬ v_X4_mostOf (nI 1) < a2 from w2)]; decide)]
        refine m_X4_changeWeather rfl ?_
        rw [if_neg (by decide), if_pos (by decide)]
        refine ⟨_, rfl, _, rfl, m_X7_ask ?_⟩
        rw [if_neg (by decide), if_neg (show ¬ v_X7_within a2 0 (if nI 1 = 0 then 40 else 9) = 0 from ne0 w4), if_neg (by decide), if_pos (by decide)]
        rintro I14 rfl
        rw [if_neg (by decide)]
        exact ⟨_, rfl, e5, n, m, Rn_wx1 h (Or.inr (Or.inl ⟨rfl, rfl, hz⟩))⟩
    · rcases may_cases a2 9 (by decide) with ⟨w, w2⟩ | ⟨hz, w1, w2, w4⟩
      · have hmb : v_X4_mayBecome (nI 2) a2 = 0 := by
          unfold v_X4_mayBecome
          rcases w with w | ⟨w, w'⟩
          · rw [if_pos w]
          · rw [if_neg w]; exact if_pos w'
        rw [if_pos hmb]
        exact hno hmb (Or.inr ⟨by decide, w2⟩)
      · rw [if_neg (show ¬ v_X4_mayBecome (nI 2) a2 = 0 from by unfold v_X4_mayBecome; rw [if_neg w1, if_neg (show ¬ v_X4_mostOf (nI 2) < a2 from w2)]; decide)]
        refine m_X4_changeWeather rfl ?_
        rw [if_neg (by decide), if_neg (by decide), if_pos (by decide)]
        refine ⟨_, rfl, _, rfl, m_X7_ask ?_⟩
        rw [if_neg (by decide), if_neg (show ¬ v_X7_within a2 0 (if nI 2 = 0 then 40 else 9) = 0 from ne0 w4), if_neg (by decide), if_neg (by decide), if_pos (by decide)]
        exact ⟨_, rfl, e6, n, m, Rn_wx1 h (Or.inr (Or.inr ⟨rfl, rfl, hz⟩))⟩
