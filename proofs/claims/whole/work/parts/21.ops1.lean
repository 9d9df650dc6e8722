/-! OPERATIONS: queries -/
abbrev SimQ (l : Launch) (g : zG) (Mm : zM) (dm : Nat) (as : List zv) : Option zv → zI → zL → Prop := zi fun r1 I1 L1 => Call l g dm Mm as I1 L1 (zi fun r2 I2 L2 => r1 = r2 ∧ R I2 L2)
section ZO1
variable {l : Launch} {g : zG} {I : zI} {L : zL} {n m : Nat}
theorem both_no {Mm : zM} {dm : Nat} {as : List zv} {a : Int32} {k : Nat} (hk : k < 8) (ha : -a = nI k) (h : Rn I L n m) (hm : ∀ Q : Option zv → zI → zL → Prop, Call l g 1 M_X7_no [vR 87, vI a] (rf1 I k) L (zi fun r I2 L2 => Q (some (vI r)) I2 L2) → Call l g dm Mm as (rf1 I k) L Q) : Call l g 1 M_X6_refuse [vR 1, vI a] I L (zi fun r2 I2 L2 => SimQ l g Mm dm as (some (vI r2)) I2 L2) :=
  c_refuse hk ha ⟨_, rfl, _, rfl, hm _ (m_no hk ha ⟨_, rfl, _, rfl, rfl, n, m, Rn_rf hk h⟩)⟩
theorem both_no1 {Mm : zM} {dm : Nat} {as : List zv} (h : Rn I L n m) (hm : ∀ Q : Option zv → zI → zL → Prop, Call l g 1 M_X7_no10 [vR 87, vI (-1)] (rf1 I 1) L (zi fun r I2 L2 => Q (some (vI r)) I2 L2) → Call l g dm Mm as (rf1 I 1) L Q) : Call l g 2 M_X6_refuseNobody [vR 1] I L (zi fun r2 I2 L2 => SimQ l g Mm dm as (some (vI r2)) I2 L2) :=
  c_nobody ⟨_, rfl, _, rfl, hm _ (m_no10 (k := 1) (by decide) rfl rfl ⟨_, rfl, _, rfl, rfl, n, m, Rn_rf (by decide) h⟩)⟩
theorem both_no6 {Mm : zM} {dm : Nat} {as : List zv} (h : Rn I L n m) (hm : ∀ Q : Option zv → zI → zL → Prop, Call l g 1 M_X7_no10 [vR 87, vI (-6)] (rf1 I 6) L (zi fun r I2 L2 => Q (some (vI r)) I2 L2) → Call l g dm Mm as (rf1 I 6) L Q) : Call l g 2 M_X6_refuseWrong [vR 1] I L (zi fun r2 I2 L2 => SimQ l g Mm dm as (some (vI r2)) I2 L2) :=
  c_wrong ⟨_, rfl, _, rfl, hm _ (m_no10 (k := 6) (by decide) rfl rfl ⟨_, rfl, _, rfl, rfl, n, m, Rn_rf (by decide) h⟩)⟩
end ZO1
theorem ne0 {x : Int32} (h : x = 1) : ¬ x = 0 := by rw [h]; decide
theorem rdg_cong {f f2 : Nat → Int32} {sh : Int32} : ∀ {n : Nat}, (∀ j, j < n → f j = f2 j) → rdg f sh n = rdg f2 sh n
  | 0, _ => rfl
  | n + 1, h => by
    unfold rdg
    rw [rdg_cong (fun j hj => h j (by omega)), h n (by omega)]
theorem RC_read {I : zI} {n m : Nat} (h : RC I n m) (sh : Int32) : v_X4_readingOf I 2 sh = v_X7_read I sh ∧ k_X4_readingOf I 2 sh ∧ k_X7_read I sh := by
  obtain ⟨hn, hm, ⟨e2, e2'⟩, ⟨e3, e3'⟩, w4, w5, w6, w7, e8, e9, hf, hp⟩ := h
  refine ⟨?_, ⟨n, hn, e2⟩, ⟨n, hn, e2'⟩⟩
  unfold v_X4_readingOf v_X7_read
  rw [e2, e2', zcl (by omega), rdg_cong (f := I (2 + 1)) (f2 := I 91) (fun j hj => (hf j hj).1)]
theorem sim_fault : Sim M_X6_fault 1 M_X7_fault 1 [] := by
  rintro l g I L ⟨n, m, h⟩
  refine Call_p p_X6_fault ⟨_, rfl, ?_⟩
  exact Call_p p_X7_fault ⟨_, rfl, h.2.2.2.2.1, n, m, h⟩
theorem shelf_cases (a1 : Int32) : (v_X6_shelfAt a1 = 0 ∧ v_X7_within a1 0 7 = 0) ∨ ∃ s, s < 8 ∧ a1 = nI s ∧ v_X6_shelfAt a1 = 66 + 2 * s ∧ v_X7_within a1 0 7 = 1 := by
  unfold v_X6_shelfAt
  rcases in_cases a1 (m := 8) (by decide) with ⟨c | ⟨c, c1⟩, c2⟩ | ⟨i, hi, rfl, c1, c2, c3⟩
  · exact Or.inl ⟨if_pos c, c2⟩
  · exact Or.inl ⟨by rw [if_neg c]; exact if_neg c1, c2⟩
  · refine Or.inr ⟨i, hi, rfl, ?_, c3⟩
    rw [if_neg c1]
    rw [if_pos (show nI i < 8 from c2), zcl (by omega)]
theorem sim_holds (a1 : Int32) : Sim M_X6_holds 2 M_X7_holds 2 [vI a1] := by
  rintro l g I L ⟨n, m, h⟩
  refine Call_p p_X6_holds ⟨_, rfl, Call_p p_X7_holds ⟨_, rfl, ?_, n, m, h⟩⟩
  unfold v_X6_holds v_X7_holds
  rcases shelf_cases a1 with ⟨c1, c2⟩ | ⟨s, hs, rfl, c1, c2⟩
  · rw [if_pos c1, if_pos c2]
  · rw [if_neg (by rw [c1]; omega), if_neg (ne0 c2), c1, zcl (by omega)]
    unfold v_X3_told
    rcases h.2.2.1 s hs with ⟨r1, r2, r3, -⟩ | ⟨r1, r2, r3, -⟩
    · rw [r1, if_neg (by decide), r3]
    · rw [r1, if_pos rfl, r3]
theorem sim_trace (a1 : Int32) : Sim M_X6_trace 2 M_X7_trace 1 [vI a1] := by
  rintro l g I L ⟨n, m, h⟩
  refine Call_p p_X6_trace ⟨_, rfl, Call_p p_X7_trace ⟨_, rfl, ?_, n, m, h⟩⟩
  obtain ⟨h1, ⟨t, ht, h2⟩, h3⟩ := h.2.2.2.2.2
  unfold v_X6_trace v_X0_bodyAt v_X7_trace
  by_cases c : a1 < 0
  · rw [if_pos c, if_pos c]
  · rw [if_neg c, if_neg c, ← h1]
    by_cases c2 : a1 < I 84 1
    · rw [if_pos c2, if_pos c2]
      by_cases c3 : a1 < 20
      · rw [if_pos c3, if_pos c3]
        refine h3 _ ?_
        obtain ⟨k, hk, rfl⟩ := n_of c
        rw [h2] at c2 ⊢
        rw [n_lt hk (by omega)] at c2
        rw [zcl hk, zcl (by omega)]
        exact c2
      · rw [if_neg c3, if_neg c3]
    · rw [if_neg c2, if_neg c2]
theorem Rn_seed {I : zI} {L : zL} {n m : Nat} (a : Int32) (h : Rn I L n m) : Rn (zs (zs I 2 9 a) 87 17 a) L n m := by
  refine Rn_street h (fun b h1 h2 h3 h4 => by rw [zs_nec h3, zs_nec (by omega)]) rfl (fun j hj => ?_) (Nat.le_refl _) ?_
  · rw [zs_ne (by omega), zs_nec (by decide)]
  · obtain ⟨h1, h2, h3, h4, h5, h6, h7, h8, h9, h10, h11, h12⟩ := h.1
    exact ⟨h1, h2, h3, h4, h5, h6, h7, h8, h9, rfl, h11, fun i hi => RPn_cong (by rw [zs_nec (by omega), zs_nec (by omega)]) (by rw [zs_nec (by omega), zs_nec (by omega)]) (h12 i hi)⟩
theorem sim_seed (a1 : Int32) : Sim M_X6_seed 1 M_X7_seed 1 [vI a1] := by
  rintro l g I L ⟨n, m, h⟩
  refine m_X6_seed ⟨_, rfl, m_X7_seed ⟨_, rfl, ?_, n, m, Rn_seed a1 h⟩⟩
  exact h.1.2.2.2.2.2.2.2.2.2.1
theorem sim_status (a1 : Int32) : Sim M_X6_status 2 M_X7_status 2 [vI a1] := by
  rintro l g I L ⟨n, m, h⟩
  obtain ⟨hn, hm, ⟨e2, e2'⟩, ⟨e3, e3'⟩, ⟨e4, -⟩, ⟨e5, -⟩, ⟨e6, -⟩, ⟨e7, -⟩, e8, e9, hf, hp⟩ := h.1
  refine m_X6_status ?_
  by_cases c0 : a1 = 0
  · rw [if_pos c0]; exact ⟨_, rfl, m_X7_status (by rw [if_pos c0]; exact ⟨_, rfl, by rw [e2, e2'], n, m, h⟩)⟩
  by_cases c1 : a1 = 1
  · rw [if_neg c0, if_pos c1]; exact ⟨_, rfl, m_X7_status (by rw [if_neg c0, if_pos c1]; exact ⟨_, rfl, by rw [e3, e3'], n, m, h⟩)⟩
  by_cases c2 : a1 = 2
  · rw [if_neg c0, if_neg c1, if_pos c2]; exact ⟨_, rfl, m_X7_status (by rw [if_neg c0, if_neg c1, if_pos c2]; exact ⟨_, rfl, e4, n, m, h⟩)⟩
  by_cases c3 : a1 = 3
  · rw [if_neg c0, if_neg c1, if_neg c2, if_pos c3]; exact ⟨_, rfl, m_X7_status (by rw [if_neg c0, if_neg c1, if_neg c2, if_pos c3]; exact ⟨_, rfl, e5, n, m, h⟩)⟩
  by_cases c4 : a1 = 4
  · rw [if_neg c0, if_neg c1, if_neg c2, if_neg c3, if_pos c4]; exact ⟨_, rfl, m_X7_status (by rw [if_neg c0, if_neg c1, if_neg c2, if_neg c3, if_pos c4]; exact ⟨_, rfl, e6, n, m, h⟩)⟩
  by_cases c5 : a1 = 5
  · rw [if_neg c0, if_neg c1, if_neg c2, if_neg c3, if_neg c4, if_pos c5]; exact ⟨_, rfl, m_X7_status (by rw [if_neg c0, if_neg c1, if_neg c2, if_neg c3, if_neg c4, if_pos c5]; exact ⟨_, rfl, e7, n, m, h⟩)⟩
  by_cases c6 : a1 = 6
  · rw [if_neg c0, if_neg c1, if_neg c2, if_neg c3, if_neg c4, if_neg c5, if_pos c6]; exact ⟨_, rfl, m_X7_status (by rw [if_neg c0, if_neg c1, if_neg c2, if_neg c3, if_neg c4, if_neg c5, if_pos c6]; exact ⟨_, rfl, e8, n, m, h⟩)⟩
  by_cases c7 : a1 = 7
  · rw [if_neg c0, if_neg c1, if_neg c2, if_neg c3, if_neg c4, if_neg c5, if_neg c6, if_pos c7]; exact ⟨_, rfl, m_X7_status (by rw [if_neg c0, if_neg c1, if_neg c2, if_neg c3, if_neg c4, if_neg c5, if_neg c6, if_pos c7]; exact ⟨_, rfl, e9, n, m, h⟩)⟩
  by_cases c8 : a1 = 8
  · rw [if_neg c0, if_neg c1, if_neg c2, if_neg c3, if_neg c4, if_neg c5, if_neg c6, if_neg c7, if_pos c8]; exact ⟨_, rfl, m_X7_status (by rw [if_neg c0, if_neg c1, if_neg c2, if_neg c3, if_neg c4, if_neg c5, if_neg c6, if_neg c7, if_pos c8]; exact ⟨_, rfl, h.2.2.2.2.2.1, n, m, h⟩)⟩
  rw [if_neg c0, if_neg c1, if_neg c2, if_neg c3, if_neg c4, if_neg c5, if_neg c6, if_neg c7, if_neg c8]
  have hin : ∀ j : Nat, j < 8 → vp_in (nI j) 8 := fun j hj => zvin hj (by decide)
  have hcase : (v_X7_within a1 11 17 = 0 ∧ (a1 - 10 < 1 ∨ (¬ a1 - 10 < 1 ∧ ¬ a1 - 10 < 8))) ∨ ∃ j, 1 ≤ j ∧ j < 8 ∧ a1 - 10 = nI j ∧ v_X7_within a1 11 17 = 1 := by
    by_cases d1 : a1 - 10 < 1
    · refine Or.inl ⟨?_, Or.inl d1⟩
      unfold v_X7_within
      by_cases d2 : a1 < 11
      · rw [if_pos d2]
      · rw [if_neg d2, if_pos]
        rw [i_lt] at *
        rw [show (11 : Int32).toInt = 11 from rfl] at d2
        rw [show (17 : Int32).toInt = 17 from rfl]
        have r := fb_rng a1
        rw [fb_subI (by show _ ≤ a1.toInt - 10; omega) (by show a1.toInt - 10 < _; omega)] at d1
        have : a1.toInt - 10 < 1 := d1
        omega
    · by_cases d2 : a1 - 10 < 8
      · refine Or.inr ?_
        have hnn : ¬ a1 - 10 < 0 := by
          rw [i_lt] at *
          rw [show (1 : Int32).toInt = 1 from rfl] at d1
          rw [show (0 : Int32).toInt = 0 from rfl]
          omega
        obtain ⟨j, hj, ej⟩ := n_of hnn
        rw [ej, show (1 : Int32) = nI 1 from rfl, n_lt hj (by decide)] at d1
        rw [ej, show (8 : Int32) = nI 8 from rfl, n_lt hj (by decide)] at d2
        have ea : a1 = nI (j + 10) := by
          rw [← nI_add, ← ej]
          exact (Int32.sub_add_cancel a1 10).symm
        refine ⟨j, by omega, d2, ej, ?_⟩
        unfold v_X7_within
        rw [ea, if_neg (show ¬ nI (j + 10) < 11 from by rw [show (11 : Int32) = nI 11 from rfl, n_lt (by omega) (by decide)]; omega), if_neg (show ¬ 17 < nI (j + 10) from by rw [show (17 : Int32) = nI 17 from rfl, n_lt (by decide) (by omega)]; omega)]
      · refine Or.inl ⟨?_, Or.inr ⟨d1, d2⟩⟩
        unfold v_X7_within
        by_cases d3 : a1 < 11
        · rw [if_pos d3]
        · by_cases d4 : 17 < a1
          · rw [if_neg d3, if_pos d4]
          · exfalso
            rw [i_lt] at *
            rw [show (11 : Int32).toInt = 11 from rfl] at d3
            rw [show (17 : Int32).toInt = 17 from rfl] at d4
            rw [fb_subI (by show _ ≤ a1.toInt - 10; omega) (by show a1.toInt - 10 < _; omega)] at d2
            apply d2
            show a1.toInt - 10 < 8
            omega
  rcases hcase with ⟨w, d⟩ | ⟨j, h1, h8, ej, w⟩
  · refine ⟨fun d1 d2 => ?_, _, rfl, m_X7_status ?_⟩
    · rcases d with d | ⟨-, d⟩
      · exact absurd d d1
      · exact absurd d2 d
    · rw [if_neg c0, if_neg c1, if_neg c2, if_neg c3, if_neg c4, if_neg c5, if_neg c6, if_neg c7, if_neg c8]
      refine ⟨fun hh => absurd w hh, ?_⟩
      rintro u rfl
      rw [if_pos w]
      refine ⟨_, rfl, ?_, n, m, h⟩
      unfold v_X6_refusalsOf
      rcases d with d | ⟨d, d'⟩
      · rw [if_pos d]
      · rw [if_neg d, if_neg d']
  · refine ⟨fun d1 d2 => by rw [ej]; exact hin j h8, _, rfl, m_X7_status ?_⟩
    rw [if_neg c0, if_neg c1, if_neg c2, if_neg c3, if_neg c4, if_neg c5, if_neg c6, if_neg c7, if_neg c8]
    refine ⟨fun _ => by rw [ej]; exact hin j h8, ?_⟩
    rintro u rfl
    rw [if_neg (ne0 w)]
    refine ⟨_, rfl, ?_, n, m, h⟩
    unfold v_X6_refusalsOf
    rw [ej, if_neg (show ¬ nI j < 1 from by rw [show (1 : Int32) = nI 1 from rfl, n_lt (by omega) (by decide)]; omega), if_pos (n8 h8), zcl (by omega)]
    exact h.2.2.2.1 j h8
theorem sim_formOf (a1 : Int32) : Sim M_X6_formOf 3 M_X7_formOf 3 [vI a1] := by
  rintro l g I L ⟨n, m, h⟩
  obtain ⟨hn, hm, ⟨e2, e2'⟩, ⟨e3, e3'⟩, w4, w5, w6, w7, e8, e9, hf, hp⟩ := h.1
  refine m_X6_formOf ?_
  rcases let_cases hn e2 e2' a1 with ⟨c1, c2⟩ | ⟨i, hi, rfl, c1, c2⟩
  · rw [if_pos c1]
    exact both_no (k := 1) (by decide) rfl h (fun Q hq => m_X7_formOf (by rw [if_pos (show v_X7_isLetter (rf1 I 1) a1 = 0 from c2)]; exact hq))
  · rw [if_neg (ne0 c1)]
    refine ⟨_, rfl, m_X7_formOf ?_⟩
    rw [if_neg (ne0 c2), zcl (by omega)]
    refine ⟨zvin (by omega) (by decide), _, rfl, ?_, n, m, h⟩
    rw [cellsOf_in e2 hn hi]
    exact (hf i hi).1
theorem sim_hangs (a1 : Int32) : Sim M_X6_hangs 3 M_X7_hangs 3 [vI a1] := by
  rintro l g I L ⟨n, m, h⟩
  obtain ⟨hn, hm, ⟨e2, e2'⟩, ⟨e3, e3'⟩, w4, w5, w6, w7, e8, e9, hf, hp⟩ := h.1
  refine m_X6_hangs ?_
  rcases pane_cases hm e3 e3' a1 with ⟨c1, c2⟩ | ⟨i, hi, rfl, c1, c2⟩
  · rw [if_pos c1]
    exact both_no1 h (fun Q hq => m_X7_hangs (by rw [if_pos (show v_X7_isPane (rf1 I 1) a1 = 0 from c2)]; exact hq))
  · rw [if_neg (by rw [c1]; omega), c1]
    refine ⟨_, rfl, m_X7_hangs ?_⟩
    rw [if_neg (ne0 c2), zcl (by omega)]
    exact ⟨zvin (by omega) (by decide), _, rfl, (hp i hi).2.2.2.1.1, n, m, h⟩
theorem shape_cases (a : Int32) : (v_X6_isShape a = 0 ∧ v_X7_within a 0 65535 = 0) ∨ ∃ k, k ≤ 65535 ∧ a = nI k ∧ v_X6_isShape a = 1 ∧ v_X7_within a 0 65535 = 1 := by
  unfold v_X6_isShape v_X7_within
  by_cases h : a < 0
  · exact Or.inl ⟨if_pos h, if_pos h⟩
  · by_cases h2 : 65535 < a
    · exact Or.inl ⟨by rw [if_neg h, if_pos h2], by rw [if_neg h, if_pos h2]⟩
    · obtain ⟨k, hk, rfl⟩ := n_of h
      refine Or.inr ⟨k, ?_, rfl, by rw [if_neg h, if_neg h2], by rw [if_neg h, if_neg h2]⟩
      rw [show (65535 : Int32) = nI 65535 from rfl, n_lt (by decide) hk] at h2
      omega
theorem hour_cases (a : Int32) : (v_X6_isHour a = 0 ∧ v_X7_within a 0 24 = 0) ∨ ∃ k, k ≤ 24 ∧ a = nI k ∧ v_X6_isHour a = 1 ∧ v_X7_within a 0 24 = 1 := by
  unfold v_X6_isHour v_X7_within
  by_cases h : a < 0
  · exact Or.inl ⟨if_pos h, if_pos h⟩
  · by_cases h2 : 24 < a
    · exact Or.inl ⟨by rw [if_neg h, if_pos h2], by rw [if_neg h, if_pos h2]⟩
    · obtain ⟨k, hk, rfl⟩ := n_of h
      refine Or.inr ⟨k, ?_, rfl, by rw [if_neg h, if_neg h2], by rw [if_neg h, if_neg h2]⟩
      rw [show (24 : Int32) = nI 24 from rfl, n_lt (by decide) hk] at h2
      omega
theorem cell_cases (a : Int32) : (v_X6_isCell a = 0 ∧ v_X7_within a 0 15 = 0) ∨ ∃ k, k < 16 ∧ a = nI k ∧ v_X6_isCell a = 1 ∧ v_X7_within a 0 15 = 1 := by
  unfold v_X6_isCell
  rcases in_cases a (m := 16) (by decide) with ⟨c | ⟨c, c1⟩, c2⟩ | ⟨i, hi, rfl, c1, c2, c3⟩
  · exact Or.inl ⟨if_pos c, c2⟩
  · exact Or.inl ⟨by rw [if_neg c]; exact if_neg c1, c2⟩
  · exact Or.inr ⟨i, hi, rfl, by rw [if_neg c1]; exact if_pos c2, c3⟩
theorem sim_reads (a1 : Int32) : Sim M_X6_reads 4 M_X7_reads 3 [vI a1] := by
  rintro l g I L ⟨n, m, h⟩
  refine m_X6_reads ?_
  rcases shape_cases a1 with ⟨c1, c2⟩ | ⟨k, hk, rfl, c1, c2⟩
  · rw [if_pos c1]
    exact both_no6 h (fun Q hq => m_X7_reads (by rw [if_pos c2]; exact hq))
  · rw [if_neg (ne0 c1)]
    obtain ⟨q1, q2, q3⟩ := RC_read h.1 (nI k)
    refine ⟨q2, _, rfl, m_X7_reads ?_⟩
    rw [if_neg (ne0 c2)]
    exact ⟨q3, _, rfl, q1, n, m, h⟩
theorem sim_unlike (a1 a2 : Int32) : Sim M_X6_unlike 4 M_X7_unlike 3 [vI a1, vI a2] := by
  rintro l g I L ⟨n, m, h⟩
  obtain ⟨hn, hm, ⟨e2, e2'⟩, ⟨e3, e3'⟩, w4, w5, w6, w7, e8, e9, hf, hp⟩ := h.1
  refine m_X6_unlike ?_
  rcases let_cases hn e2 e2' a1 with ⟨c1, c2⟩ | ⟨i, hi, rfl, c1, c2⟩
  · rw [if_pos c1]
    exact both_no (k := 1) (by decide) rfl h (fun Q hq => m_X7_unlike (by rw [if_pos (show v_X7_isLetter (rf1 I 1) a1 = 0 from c2)]; exact hq))
  · rw [if_neg (ne0 c1)]
    rcases let_cases hn e2 e2' a2 with ⟨d1, d2⟩ | ⟨j, hj, rfl, d1, d2⟩
    · rw [if_pos d1]
      exact both_no (k := 1) (by decide) rfl h (fun Q hq => m_X7_unlike (by rw [if_neg (show ¬ v_X7_isLetter (rf1 I 1) (nI i) = 0 from ne0 c2), if_pos (show v_X7_isLetter (rf1 I 1) a2 = 0 from d2)]; exact hq))
    · rw [if_neg (ne0 d1)]
      refine ⟨_, rfl, m_X7_unlike ?_⟩
      rw [if_neg (ne0 c2), if_neg (ne0 d2), zcl (by omega), zcl (by omega)]
      refine ⟨zvin (by omega) (by decide), zvin (by omega) (by decide), _, rfl, ?_, n, m, h⟩
      unfold v_X4_cellsUnlike
      rw [cellsOf_in e2 hn hi, cellsOf_in e2 hn hj, (hf i hi).1, (hf j hj).1]
theorem sim_melt (a1 a2 : Int32) : Sim M_X6_melt 3 M_X7_melt 3 [vI a1, vI a2] := by
  rintro l g I L ⟨n, m, h⟩
  obtain ⟨hn, hm, ⟨e2, e2'⟩, ⟨e3, e3'⟩, w4, w5, w6, w7, e8, e9, hf, hp⟩ := h.1
  refine m_X6_melt ?_
  rcases pane_cases hm e3 e3' a1 with ⟨c1, c2⟩ | ⟨i, hi, rfl, c1, c2⟩
  · rw [if_pos c1]
    exact both_no (k := 1) (by decide) rfl h (fun Q hq => m_X7_melt (by rw [if_pos (show v_X7_isPane (rf1 I 1) a1 = 0 from c2)]; exact hq))
  · rw [if_neg (by rw [c1]; omega), c1]
    have c2' : ¬ v_X7_isPane (rf1 I 6) (nI i) = 0 := ne0 c2
    rcases in_cases a2 (m := 24) (by decide) with ⟨d | ⟨d, d1⟩, d2⟩ | ⟨hh, hhh, rfl, d1, d2, d3⟩
    · rw [if_pos d]
      exact both_no (k := 6) (by decide) rfl h (fun Q hq => m_X7_melt (by rw [if_neg c2', if_pos (show v_X7_within a2 0 23 = 0 from d2)]; exact hq))
    · rw [if_neg d, if_neg (show ¬ a2 < 24 from d1)]
      exact both_no (k := 6) (by decide) rfl h (fun Q hq => m_X7_melt (by rw [if_neg c2', if_pos (show v_X7_within a2 0 23 = 0 from d2)]; exact hq))
    · rw [if_neg d1, if_pos (show nI hh < 24 from d2)]
      refine ⟨_, rfl, m_X7_melt ?_⟩
      rw [if_neg (ne0 c2), if_neg (show ¬ v_X7_within (nI hh) 0 23 = 0 from ne0 d3)]
      refine ⟨zvin (by omega) (by decide), _, rfl, ?_, n, m, h⟩
      obtain ⟨⟨p0, z0⟩, ⟨p1, z1⟩, ⟨p2, z2⟩, -⟩ := hp i hi
      rw [m_me (by rw [zcl (by omega)]; exact z0), c_me, zcl (by omega), w6.1]
      have q0 : I (5 + 2 * i) 0 = I 92 i := p0
      have q1 : I (5 + 2 * i) 1 = I 93 i := p1
      have q2 : I (5 + 2 * i) 2 = I 94 i := p2
      rw [q0, q1, q2]
