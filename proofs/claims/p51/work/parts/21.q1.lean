/-! WHAT IS ASKED, without the glass: answers out of V -/
theorem nrI_cong {f f2 : Nat → Int32} {i : Nat} {z : Int32 × Int32} : ∀ {k : Nat}, (∀ j, j < i + 1 + k → f j = f2 j) → nrI f i z k = nrI f2 i z k
  | 0, _ => rfl
  | k + 1, h => by
    unfold nrI
    rw [nrI_cong (fun j hj => h j (by omega)), h i (by omega), h (i + 1 + k) (by omega)]
theorem nrO_cong {f f2 : Nat → Int32} {N : Nat} (h : ∀ j, j < N → f j = f2 j) : ∀ i, i ≤ N → nrO f N i = nrO f2 N i
  | 0, _ => rfl
  | i + 1, hi => by
    unfold nrO
    rw [nrO_cong h i (by omega), nrI_cong (fun j hj => h j (by omega))]
theorem few_cong {f f2 : Nat → Int32} {a b : Int32} : ∀ {n : Nat}, (∀ j, j < n → f j = f2 j) → few f a b n = few f2 a b n
  | 0, _ => rfl
  | n + 1, h => by
    unfold few
    rw [few_cong (fun j hj => h j (by omega)), h n (by omega)]
theorem bst_cong {f f2 : Nat → Int32} {n : Nat} {a b : Int32} (h : ∀ j, j < n → f j = f2 j) : ∀ c, bst f n a b c = bst f2 n a b c
  | 0 => rfl
  | c + 1 => by
    unfold bst
    rw [bst_cong h c, few_cong h]
def stv (V : zI) (j : Nat) : Int32 := V 87 (([3, 5, 12, 13, 14, 15, 16, 17] : List Nat).getD j 0)
theorem hour_in {h : Nat} (hh : h ≤ 24) : v_X6_isHour (nI h) = 1 := by
  unfold v_X6_isHour
  rw [if_neg (nI_pos (by omega)), if_neg]
  rw [show (24 : Int32) = nI 24 from rfl, n_lt (by decide) (by omega)]
  omega
theorem cell_in {c : Nat} (hc : c < 16) : v_X6_isCell (nI c) = 1 := by
  unfold v_X6_isCell
  rw [if_neg (nI_pos (by omega)), if_pos (n16 hc)]
theorem shape_in {k : Nat} (hk : k ≤ 65535) : v_X6_isShape (nI k) = 1 := by
  unfold v_X6_isShape
  rw [if_neg (nI_pos (by omega)), if_neg]
  rw [show (65535 : Int32) = nI 65535 from rfl, n_lt (by decide) (by omega)]
  omega
section ZQ1
variable {l : Launch} {g : zG} {Q : Option zv → zI → zL → Prop} {I V : zI} {L : zL} {n m i j : Nat} {sh : Int32}
theorem q_status (h : RC I V n m) (hj : j < 8) (hQ : Q (some (vI (stv V j))) I L) : Call l g 2 M_X6_status [vR 1, vI (nI j)] I L Q := by
  obtain ⟨hn, hm, ⟨e2, e2'⟩, ⟨e3, e3'⟩, ⟨e4, -⟩, ⟨e5, -⟩, ⟨e6, -⟩, ⟨e7, -⟩, e8, e9, hf, hp⟩ := h
  refine m_X6_status ?_
  have hc : j = 0 ∨ j = 1 ∨ j = 2 ∨ j = 3 ∨ j = 4 ∨ j = 5 ∨ j = 6 ∨ j = 7 := by omega
  rcases hc with rfl | rfl | rfl | rfl | rfl | rfl | rfl | rfl
  · rw [if_pos (by decide), show I 2 2 = stv V 0 from e2.trans e2'.symm]; exact hQ
  · rw [if_neg (by decide), if_pos (by decide), show I 2 3 = stv V 1 from e3.trans e3'.symm]; exact hQ
  · rw [if_neg (by decide), if_neg (by decide), if_pos (by decide), show I 2 4 = stv V 2 from e4]; exact hQ
  · rw [if_neg (by decide), if_neg (by decide), if_neg (by decide), if_pos (by decide), show I 2 5 = stv V 3 from e5]; exact hQ
  · rw [if_neg (by decide), if_neg (by decide), if_neg (by decide), if_neg (by decide), if_pos (by decide), show I 2 6 = stv V 4 from e6]; exact hQ
  · rw [if_neg (by decide), if_neg (by decide), if_neg (by decide), if_neg (by decide), if_neg (by decide), if_pos (by decide), show I 2 7 = stv V 5 from e7]; exact hQ
  · rw [if_neg (by decide), if_neg (by decide), if_neg (by decide), if_neg (by decide), if_neg (by decide), if_neg (by decide), if_pos (by decide), show I 2 8 = stv V 6 from e8]; exact hQ
  · rw [if_neg (by decide), if_neg (by decide), if_neg (by decide), if_neg (by decide), if_neg (by decide), if_neg (by decide), if_neg (by decide), if_pos (by decide), show I 2 9 = stv V 7 from e9]; exact hQ
theorem q_formOf (h : RC I V n m) (hi : i < n) (hQ : Q (some (vI (V 91 i))) I L) : Call l g 3 M_X6_formOf [vR 1, vI (nI i)] I L Q := by
  obtain ⟨hW, hN, hn, hm, e2, e2', e3, e3', e4, e5, e6, hf⟩ := RC_wx h
  refine m_X6_formOf ?_
  rw [if_neg (by rw [isl e2 hn hi]; decide), cellsOf_in e2 hn hi, show I (2 + 1) i = V 91 i from hf i hi]
  exact hQ
theorem q_unlike (h : RC I V n m) (hi : i < n) (hj : j < n) (hQ : Q (some (vI (bc (V 91 i ^^^ V 91 j)))) I L) : Call l g 4 M_X6_unlike [vR 1, vI (nI i), vI (nI j)] I L Q := by
  obtain ⟨hW, hN, hn, hm, e2, e2', e3, e3', e4, e5, e6, hf⟩ := RC_wx h
  refine m_X6_unlike ?_
  rw [if_neg (by rw [isl e2 hn hi]; decide), if_neg (by rw [isl e2 hn hj]; decide)]
  unfold v_X4_cellsUnlike
  rw [cellsOf_in e2 hn hi, cellsOf_in e2 hn hj, show I (2 + 1) i = V 91 i from hf i hi, show I (2 + 1) j = V 91 j from hf j hj]
  exact hQ
theorem RC_read (h : RC I V n m) (sh : Int32) : v_X4_readingOf I 2 sh = (rdg (V 91) sh n).1 ∧ k_X4_readingOf I 2 sh := by
  obtain ⟨hW, hN, hn, hm, e2, e2', e3, e3', e4, e5, e6, hf⟩ := RC_wx h
  refine ⟨?_, ⟨n, hn, e2⟩⟩
  unfold v_X4_readingOf
  rw [e2, zcl (by omega), rdg_cong (f := I (2 + 1)) (f2 := V 91) hf]
theorem q_reads (h : RC I V n m) (hs : zle 65535 sh) (hQ : Q (some (vI (rdg (V 91) sh n).1)) I L) : Call l g 4 M_X6_reads [vR 1, vI sh] I L Q := by
  obtain ⟨k, hk, rfl⟩ := hs
  obtain ⟨q1, q2⟩ := RC_read h (nI k)
  refine m_X6_reads ?_
  rw [if_neg (by rw [shape_in hk]; decide), q1]
  exact ⟨q2, hQ⟩
theorem q_closest (h : RC I V n m) (h2 : 2 ≤ n) (hQ : Q (some (vI (nrO (V 91) n n).1)) I L) : Call l g 5 M_X6_closest [vR 1] I L Q := by
  obtain ⟨hW, hN, hn, hm, e2, e2', e3, e3', e4, e5, e6, hf⟩ := RC_wx h
  refine m_X6_closest ?_
  rw [if_neg (by rw [e2, show (2 : Int32) = nI 2 from rfl, n_lt (by omega) (by decide)]; omega)]
  refine ⟨⟨n, hn, e2⟩, ?_⟩
  rw [show v_X4_nearestPair I 2 = (nrO (V 91) n n).1 from by unfold v_X4_nearestPair; rw [e2, zcl (by omega), nrO_cong (f := I (2 + 1)) (f2 := V 91) hf n (Nat.le_refl _)]]
  exact hQ
theorem q_mend (h : RC I V n m) (h2 : 2 ≤ n) (hi : i < n) (hQ : Q (some (vI (bst (V 91) n (nI i) (V 91 i) 16).1)) I L) : Call l g 5 M_X6_mend [vR 1, vI (nI i)] I L Q := by
  obtain ⟨hW, hN, hn, hm, e2, e2', e3, e3', e4, e5, e6, hf⟩ := RC_wx h
  refine m_X6_mend ?_
  rw [if_neg (by rw [isl e2 hn hi]; decide), if_neg (by rw [e2, show (2 : Int32) = nI 2 from rfl, n_lt (by omega) (by decide)]; omega)]
  refine ⟨⟨n, hn, e2⟩, ?_⟩
  rw [show v_X4_bestChange I 2 (nI i) = (bst (V 91) n (nI i) (V 91 i) 16).1 from by
    unfold v_X4_bestChange
    rw [e2, zcl (by omega), cellsOf_in e2 hn hi, bst_cong (f := I (2 + 1)) (f2 := V 91) hf 16, show I (2 + 1) i = V 91 i from hf i hi]]
  exact hQ
/-- what is told of a pane -/
def pov (V : zI) (i j : Nat) : Int32 := if j = 0 then V 92 i else if j = 1 then V 93 i else if j = 2 then V 94 i else if j = 3 then fSh (V 92 i) (V 94 i) (V 87 12) (V 87 13) else V 96 i
theorem q_paneOf (h : RC I V n m) (hi : i < m) (hj : j < 5) (hQ : Q (some (vI (pov V i j))) I L) : Call l g 4 M_X6_paneOf [vR 1, vI (nI i), vI (nI j)] I L Q := by
  obtain ⟨hW, hN, hn, hm, e2, e2', e3, e3', e4, e5, e6, hf⟩ := RC_wx h
  obtain ⟨hP, p0, p1, p2, p3, p4, p5, p6⟩ := RC_pane h hi
  refine m_X6_paneOf ?_
  rw [paneAt_in hm e3 hi, if_neg (by omega)]
  have hc : j = 0 ∨ j = 1 ∨ j = 2 ∨ j = 3 ∨ j = 4 := by omega
  rcases hc with rfl | rfl | rfl | rfl | rfl
  · rw [if_pos (by decide), p0]; exact hQ
  · rw [if_neg (by decide), if_pos (by decide), p1]; exact hQ
  · rw [if_neg (by decide), if_neg (by decide), if_pos (by decide), p2]; exact hQ
  · rw [if_neg (by decide), if_neg (by decide), if_neg (by decide), if_pos (by decide), c_sh, p0, p2, e4, e5]; exact hQ
  · rw [if_neg (by decide), if_neg (by decide), if_neg (by decide), if_neg (by decide), if_pos (by decide), p4]; exact hQ
/-- the ice of a pane in truth -/
def trv (V : zI) (i : Nat) (c : Nat) : Int32 := V 97 (16 * i + c)
theorem q_truth (h : RC I V n m) (hi : i < m) (hj : j < 17) (hQ : Q (some (vI (if j = 16 then frost (trv V i) 16 else trv V i j))) I L) : Call l g 2 M_X6_truth [vR 1, vI (nI i), vI (nI j)] I L Q := by
  obtain ⟨hW, hN, hn, hm, e2, e2', e3, e3', e4, e5, e6, hf⟩ := RC_wx h
  obtain ⟨hP, p0, p1, p2, p3, p4, p5, p6⟩ := RC_pane h hi
  refine m_X6_truth ?_
  rw [paneAt_in hm e3 hi, if_neg (by omega)]
  by_cases e : j = 16
  · subst e
    rw [if_pos (by decide)]
    rw [if_pos rfl] at hQ
    rw [show v_X1_frosted I (5 + 2 * i) = frost (trv V i) 16 from frost_cong (fun c hc => by rw [show 5 + 2 * i + 1 = 6 + 2 * i by omega]; exact (p6 c hc).1)]
    exact hQ
  · rw [if_neg e] at hQ
    rw [if_neg (by rw [show (16 : Int32) = nI 16 from rfl, n_eq (by omega) (by decide)]; exact e), if_neg (by rw [cell_in (by omega)]; decide)]
    rw [show v_X1_iceOn I (5 + 2 * i) (nI j) = trv V i j from by
      unfold v_X1_iceOn
      rw [if_neg (nI_pos (by omega)), if_pos (n16 (by omega)), zcl (by omega), show 5 + 2 * i + 1 = 6 + 2 * i by omega]
      exact (p6 j (by omega)).1]
    exact hQ
theorem q_hangs (h : RC I V n m) (hi : i < m) (hQ : Q (some (vI (V 95 i))) I L) : Call l g 3 M_X6_hangs [vR 1, vI (nI i)] I L Q := by
  obtain ⟨hW, hN, hn, hm, e2, e2', e3, e3', e4, e5, e6, hf⟩ := RC_wx h
  obtain ⟨hP, p0, p1, p2, p3, p4, p5, p6⟩ := RC_pane h hi
  refine m_X6_hangs ?_
  rw [paneAt_in hm e3 hi, if_neg (by omega), p3]
  exact hQ
theorem q_readOf (h : RC I V n m) (hi : i < m) (hQ : Q (some (vI (rdg (V 91) (frost (trv V i) 16) n).1)) I L) : Call l g 4 M_X6_readOf [vR 1, vI (nI i)] I L Q := by
  obtain ⟨hW, hN, hn, hm, e2, e2', e3, e3', e4, e5, e6, hf⟩ := RC_wx h
  obtain ⟨hP, p0, p1, p2, p3, p4, p5, p6⟩ := RC_pane h hi
  obtain ⟨q1, q2⟩ := RC_read h (v_X1_frosted I (5 + 2 * i))
  refine m_X6_readOf ?_
  rw [paneAt_in hm e3 hi, if_neg (by omega), q1]
  refine ⟨q2, ?_⟩
  rw [show v_X1_frosted I (5 + 2 * i) = frost (trv V i) 16 from frost_cong (fun c hc => by rw [show 5 + 2 * i + 1 = 6 + 2 * i by omega]; exact (p6 c hc).1)]
  exact hQ
def mev (V : zI) (i h : Nat) : Int32 := fMe (V 92 i) (V 93 i) (V 94 i) (nI h) (V 87 14)
theorem q_melt (h : RC I V n m) (hi : i < m) (hj : j < 24) (hQ : Q (some (vI (mev V i j))) I L) : Call l g 3 M_X6_melt [vR 1, vI (nI i), vI (nI j)] I L Q := by
  obtain ⟨hW, hN, hn, hm, e2, e2', e3, e3', e4, e5, e6, hf⟩ := RC_wx h
  obtain ⟨hP, p0, p1, p2, p3, p4, p5, p6⟩ := RC_pane h hi
  refine m_X6_melt ?_
  rw [paneAt_in hm e3 hi, if_neg (by omega), if_neg (nI_pos (by omega)), if_pos (n24 hj), c_me, p0, p1, p2, e6]
  exact hQ
end ZQ1
