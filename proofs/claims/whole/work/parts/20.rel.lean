/-! THE RELATION between the class's cells and the reference's -/
def RPn (I : zI) (p : Nat) (kd rm ow hg sc : Int32) (tr : Nat → Int32) (n : Nat) : Prop :=
  (I p 0 = kd ∧ zle 6 kd) ∧ (I p 1 = rm ∧ zle 9 rm) ∧ (I p 2 = ow ∧ zle 9 ow) ∧ (I p 3 = hg ∧ (hg = -1 ∨ ∃ h, h < n ∧ hg = nI h)) ∧ I p 4 = sc ∧ ∀ c, c < 16 → I (p + 1) c = tr c ∧ zle 20 (tr c)
/-- a street of the class at s: n letters, m panes -/
def RS (I : zI) (s : Nat) (fm kd rm ow hg sc tr : Nat → Int32) (le pa co we ou ho ed dr : Int32) (n m : Nat) : Prop :=
  n ≤ 8 ∧ m ≤ 8 ∧ (I s 2 = nI n ∧ le = nI n) ∧ (I s 3 = nI m ∧ pa = nI m) ∧ (I s 4 = co ∧ zle 40 co) ∧ (I s 5 = we ∧ zle 9 we) ∧ (I s 6 = ou ∧ zle 9 ou) ∧ (I s 7 = ho ∧ zle 24 ho) ∧ I s 8 = ed ∧ I s 9 = dr ∧
  (∀ j, j < n → I (s + 1) j = fm j ∧ zle 65535 (fm j)) ∧ ∀ i, i < m → RPn I (s + 3 + 2 * i) (kd i) (rm i) (ow i) (hg i) (sc i) (fun c => tr (16 * i + c)) n
/-- a shelf: a row, or a pane or nothing -/
def RSh (I : zI) (L : zL) (s m : Nat) : Prop :=
  (I (66 + 2 * s) 4 = 1 ∧ zle 3 (I (66 + 2 * s) 1) ∧ I 88 s = 100 + I (66 + 2 * s) 1 ∧ I 89 s = I (66 + 2 * s) 2 ∧ zle 160 (I (66 + 2 * s) 2) ∧ ∀ i, i < (I (66 + 2 * s) 2).toNatClampNeg → L (67 + 2 * s) i = L 90 (160 * s + i) ∧ v_X3_lowestBits I (66 + 2 * s) (L 90 (160 * s + i)) = L 90 (160 * s + i)) ∨
  (I (66 + 2 * s) 4 = 0 ∧ I (66 + 2 * s) 2 = 0 ∧ I 88 s = I (66 + 2 * s) 3 ∧ (I (66 + 2 * s) 3 = -1 ∨ ∃ q, q < m ∧ I (66 + 2 * s) 3 = nI q))
def RC (I : zI) (n m : Nat) : Prop := RS I 2 (I 91) (I 92) (I 93) (I 94) (I 95) (I 96) (I 97) (I 87 3) (I 87 5) (I 87 12) (I 87 13) (I 87 14) (I 87 15) (I 87 16) (I 87 17) n m
def RO (I : zI) (n m : Nat) : Prop := RS I 21 (I 100) (fun i => I 100 (8 + i)) (fun i => I 100 (16 + i)) (fun i => I 100 (24 + i)) (fun i => I 100 (32 + i)) (fun i => I 100 (40 + i)) (fun i => I 100 (48 + i)) (I 100 176) (I 100 177) (I 100 178) (I 100 179) (I 100 180) (I 100 181) (I 100 182) (I 100 183) n m
def RI (I : zI) : Prop := I 1 8 = I 87 22 ∧ (I 1 8 = 0 ∨ (I 1 8 = 1 ∧ ∃ n m, RO I n m))
def RF (I : zI) : Prop := ∀ j, j < 8 → I 86 j = I 98 j
def RA (I : zI) : Prop := I 84 1 = I 87 20 ∧ zle 20 (I 84 1) ∧ ∀ j, j < (I 84 1).toNatClampNeg → I 85 j = I 99 j
def Rn (I : zI) (L : zL) (n m : Nat) : Prop := RC I n m ∧ RI I ∧ (∀ s, s < 8 → RSh I L s m) ∧ RF I ∧ I 82 2 = I 87 18 ∧ RA I
def R (I : zI) (L : zL) : Prop := ∃ n m, Rn I L n m
theorem RPn_cong {I I' : zI} {p : Nat} {kd rm ow hg sc : Int32} {tr : Nat → Int32} {n : Nat} (h1 : I' p = I p) (h2 : I' (p + 1) = I (p + 1)) (h : RPn I p kd rm ow hg sc tr n) : RPn I' p kd rm ow hg sc tr n := by
  unfold RPn at *
  rw [h1, h2]
  exact h
theorem RS_cong {I I' : zI} {s : Nat} {fm kd rm ow hg sc tr : Nat → Int32} {le pa co we ou ho ed dr : Int32} {n m : Nat} (hI : ∀ a, s ≤ a → a ≤ s + 18 → I' a = I a) (h : RS I s fm kd rm ow hg sc tr le pa co we ou ho ed dr n m) : RS I' s fm kd rm ow hg sc tr le pa co we ou ho ed dr n m := by
  unfold RS at *
  rw [hI s (by omega) (by omega), hI (s + 1) (by omega) (by omega)]
  obtain ⟨a1, a2, a3, a4, a5, a6, a7, a8, a9, a10, a11, a12⟩ := h
  exact ⟨a1, a2, a3, a4, a5, a6, a7, a8, a9, a10, a11, fun i hi => RPn_cong (hI _ (by omega) (by omega)) (hI _ (by omega) (by omega)) (a12 i hi)⟩
/-- cells that nothing of the relation speaks of -/
def scr (a : Nat) : Prop := (40 ≤ a ∧ a ≤ 64) ∨ a = 83 ∨ (101 ≤ a ∧ a ≤ 105)
theorem R_scr {I I' : zI} {L : zL} {n m : Nat} (hI : ∀ a, ¬ scr a → I' a = I a) (h : Rn I L n m) : Rn I' L n m := by
  have e : ∀ a, (a < 40 ∨ 64 < a) → a ≠ 83 → a < 101 → I' a = I a := fun a h1 h2 h3 => hI a (by unfold scr; omega)
  obtain ⟨h1, h2, h3, h4, h5, h6⟩ := h
  refine ⟨?_, ?_, ?_, ?_, ?_, ?_⟩
  · unfold RC at *
    rw [e 91 (by omega) (by omega) (by omega), e 92 (by omega) (by omega) (by omega), e 93 (by omega) (by omega) (by omega), e 94 (by omega) (by omega) (by omega), e 95 (by omega) (by omega) (by omega), e 96 (by omega) (by omega) (by omega), e 97 (by omega) (by omega) (by omega), e 87 (by omega) (by omega) (by omega)]
    exact RS_cong (fun a ha hb => e a (by omega) (by omega) (by omega)) h1
  · unfold RI RO at *
    rw [e 1 (by omega) (by omega) (by omega), e 87 (by omega) (by omega) (by omega), e 100 (by omega) (by omega) (by omega)]
    refine ⟨h2.1, h2.2.imp id (fun ⟨q, n', m', h⟩ => ⟨q, n', m', RS_cong (fun a ha hb => e a (by omega) (by omega) (by omega)) h⟩)⟩
  · intro s hs
    have := h3 s hs
    unfold RSh v_X3_lowestBits at *
    rw [e (66 + 2 * s) (by omega) (by omega) (by omega), e 88 (by omega) (by omega) (by omega), e 89 (by omega) (by omega) (by omega)]
    exact this
  · unfold RF at *
    rw [e 86 (by omega) (by omega) (by omega), e 98 (by omega) (by omega) (by omega)]
    exact h4
  · rw [e 82 (by omega) (by omega) (by omega), e 87 (by omega) (by omega) (by omega)]
    exact h5
  · unfold RA at *
    rw [e 84 (by omega) (by omega) (by omega), e 87 (by omega) (by omega) (by omega), e 85 (by omega) (by omega) (by omega), e 99 (by omega) (by omega) (by omega)]
    exact h6
/-- counts and what is within them -/
theorem n_neg {a : Int32} (h : a < 0) (n : Nat) (hn : n < 2147483648) : ¬ a = nI n := by
  intro e
  rw [e, i_lt, n_toInt hn, show (0 : Int32).toInt = 0 from rfl] at h
  omega
theorem n_of {a : Int32} (h : ¬ a < 0) : ∃ k : Nat, k < 2147483648 ∧ a = nI k := by
  have h2 := fb_rng a
  rw [i_lt, show (0 : Int32).toInt = 0 from rfl] at h
  refine ⟨a.toInt.toNat, by omega, ?_⟩
  rw [i_eq, n_toInt (by omega)]
  omega
theorem n_pre {m : Nat} (hm : m ≤ 2147483647) : (nI m - 1).toInt = (m : Int) - 1 := n_sub (a := m) (b := 1) (by omega) (by decide)
/-- a number within 0 .. m - 1, or not: as the class and as the reference ask -/
theorem in_cases (a : Int32) {m : Nat} (hm : m ≤ 1000000) : ((a < 0 ∨ (¬ a < 0 ∧ ¬ a < nI m)) ∧ v_X7_within a 0 (nI m - 1) = 0) ∨ ∃ i, i < m ∧ a = nI i ∧ ¬ a < 0 ∧ a < nI m ∧ v_X7_within a 0 (nI m - 1) = 1 := by
  unfold v_X7_within
  by_cases h : a < 0
  · rw [if_pos h]
    exact Or.inl ⟨Or.inl h, rfl⟩
  · obtain ⟨k, hk, rfl⟩ := n_of h
    rw [if_neg h]
    by_cases h2 : nI k < nI m
    · refine Or.inr ⟨k, (n_lt hk (by omega)).mp h2, rfl, h, h2, ?_⟩
      rw [if_neg]
      rw [i_lt, n_pre (by omega), n_toInt hk]
      have := (n_lt hk (by omega)).mp h2
      omega
    · refine Or.inl ⟨Or.inr ⟨h, h2⟩, ?_⟩
      rw [if_pos]
      rw [i_lt, n_pre (by omega), n_toInt hk]
      rw [n_lt hk (by omega)] at h2
      omega
theorem pane_cases {I : zI} {m : Nat} (hm : m ≤ 8) (e : I 2 3 = nI m) (e' : I 87 5 = nI m) (a : Int32) : (v_X4_paneAt I 2 a = 0 ∧ v_X7_isPane I a = 0) ∨ ∃ i, i < m ∧ a = nI i ∧ v_X4_paneAt I 2 a = 5 + 2 * i ∧ v_X7_isPane I a = 1 := by
  unfold v_X4_paneAt v_X7_isPane
  rw [e, e']
  rcases in_cases a (m := m) (by omega) with ⟨h | ⟨h, h1⟩, h2⟩ | ⟨i, hi, rfl, h1, h2, h3⟩
  · exact Or.inl ⟨if_pos h, h2⟩
  · refine Or.inl ⟨?_, h2⟩
    rw [if_neg h, if_neg h1]
  · refine Or.inr ⟨i, hi, rfl, ?_, h3⟩
    rw [if_neg h1, if_pos h2, if_pos (n8 (show i < 8 by omega)), zcl (by omega)]
theorem let_cases {I : zI} {n : Nat} (hn : n ≤ 8) (e : I 2 2 = nI n) (e' : I 87 3 = nI n) (a : Int32) : (v_X4_isLetter I 2 a = 0 ∧ v_X7_isLetter I a = 0) ∨ ∃ i, i < n ∧ a = nI i ∧ v_X4_isLetter I 2 a = 1 ∧ v_X7_isLetter I a = 1 := by
  unfold v_X4_isLetter v_X7_isLetter
  rw [e, e']
  rcases in_cases a (m := n) (by omega) with ⟨h | ⟨h, h1⟩, h2⟩ | ⟨i, hi, rfl, h1, h2, h3⟩
  · exact Or.inl ⟨if_pos h, h2⟩
  · refine Or.inl ⟨?_, h2⟩
    rw [if_neg h, if_neg h1]
  · refine Or.inr ⟨i, hi, rfl, ?_, h3⟩
    rw [if_neg h1, if_pos h2, if_pos (n8 (show i < 8 by omega))]
theorem pane_0 {I : zI} (a : Int32) : ¬ (5 + 2 * a.toNatClampNeg = 0) := by omega
/-- cells of a letter or of nothing -/
theorem letN_cases {I : zI} {n : Nat} (hn : n ≤ 8) (e : I 2 2 = nI n) (e' : I 87 3 = nI n) (hf : ∀ j, j < n → I 3 j = I 91 j) (a : Int32) : (v_X4_isLetterOrNone I 2 a = 0 ∧ v_X7_isLetterOrNone I a = 0) ∨ ((a = -1 ∨ ∃ i, i < n ∧ a = nI i) ∧ v_X4_isLetterOrNone I 2 a = 1 ∧ v_X7_isLetterOrNone I a = 1 ∧ v_X4_cellsOf I 2 a = mform I a) := by
  unfold v_X4_isLetterOrNone v_X7_isLetterOrNone v_X4_cellsOf mform
  by_cases h : a = -1
  · refine Or.inr ⟨Or.inl h, if_pos h, if_pos h, ?_⟩
    subst h
    rcases let_cases hn e e' (-1) with ⟨h1, h2⟩ | ⟨i, hi, e1, -⟩
    · rw [if_pos h1, if_pos rfl]
    · exact absurd e1 (n_neg (by decide) i (by omega))
  · rw [if_neg h, if_neg h]
    rcases let_cases hn e e' a with ⟨h1, h2⟩ | ⟨i, hi, rfl, h1, h2⟩
    · exact Or.inl ⟨by rw [if_pos h1], by rw [if_pos h2]⟩
    · refine Or.inr ⟨Or.inr ⟨i, hi, rfl⟩, by rw [h1]; rfl, by rw [h2]; rfl, ?_⟩
      rw [h1, if_neg (by decide), if_neg h, zcl (by omega)]
      exact hf i hi
/-- refusals -/
theorem Rn_refuse {I I' : zI} {L : zL} {n m k : Nat} (hk : k < 8) (h : Rn I L n m) (hI : ∀ a, a ≠ 86 → a ≠ 98 → I' a = I a) (h1 : ∀ j, I' 86 j = if j = k then I 86 k + 1 else I 86 j) (h2 : ∀ j, I' 98 j = if j = k then I 98 k + 1 else I 98 j) : Rn I' L n m := by
  obtain ⟨a1, a2, a3, a4, a5, a6⟩ := h
  refine ⟨?_, ?_, ?_, ?_, ?_, ?_⟩
  · unfold RC at *
    rw [hI 91 (by omega) (by omega), hI 92 (by omega) (by omega), hI 93 (by omega) (by omega), hI 94 (by omega) (by omega), hI 95 (by omega) (by omega), hI 96 (by omega) (by omega), hI 97 (by omega) (by omega), hI 87 (by omega) (by omega)]
    exact RS_cong (fun a ha hb => hI a (by omega) (by omega)) a1
  · unfold RI RO at *
    rw [hI 1 (by omega) (by omega), hI 87 (by omega) (by omega), hI 100 (by omega) (by omega)]
    refine ⟨a2.1, a2.2.imp id (fun ⟨q, n', m', h⟩ => ⟨q, n', m', RS_cong (fun a ha hb => hI a (by omega) (by omega)) h⟩)⟩
  · intro s hs
    have := a3 s hs
    unfold RSh v_X3_lowestBits at *
    rw [hI (66 + 2 * s) (by omega) (by omega), hI 88 (by omega) (by omega), hI 89 (by omega) (by omega)]
    exact this
  · intro j hj
    rw [h1, h2, a4 j hj, a4 k hk]
  · rw [hI 82 (by omega) (by omega), hI 87 (by omega) (by omega)]
    exact a5
  · unfold RA at *
    rw [hI 84 (by omega) (by omega), hI 87 (by omega) (by omega), hI 85 (by omega) (by omega), hI 99 (by omega) (by omega)]
    exact a6
/-- the class's refusal -/
def rf1 (I : zI) (k : Nat) : zI := zs I 86 k (I 86 k + 1)
def rf2 (I : zI) (k : Nat) : zI := zs I 98 k (I 98 k + 1)
theorem rf1_ne {I : zI} {k a : Nat} (h : a ≠ 86) : rf1 I k a = I a := zs_nec h
theorem rf2_ne {I : zI} {k a : Nat} (h : a ≠ 98) : rf2 I k a = I a := zs_nec h
theorem Rn_rf {I : zI} {L : zL} {n m k : Nat} (hk : k < 8) (h : Rn I L n m) : Rn (rf2 (rf1 I k) k) L n m := by
  refine Rn_refuse hk h (fun a h1 h2 => by rw [rf2_ne h2, rf1_ne h1]) (fun j => ?_) (fun j => ?_)
  · rw [rf2_ne (by decide)]
    unfold rf1 zs
    simp
  · unfold rf2
    rw [rf1_ne (by decide)]
    by_cases e : j = k
    · rw [if_pos e, e, zs_same]
    · rw [if_neg e, zs_ne (fun z => e z.2), rf1_ne (by decide)]
/-- a change of the street alone (and of scratch cells) -/
theorem Rn_street {I I' : zI} {L : zL} {n m n' m' : Nat} (h : Rn I L n m) (hI : ∀ a, 20 < a → ¬ scr a → a ≠ 87 → ¬ (91 ≤ a ∧ a ≤ 97) → I' a = I a) (hI1 : I' 1 = I 1) (h87 : ∀ j, (j = 18 ∨ j = 20 ∨ j = 22) → I' 87 j = I 87 j) (hm : m ≤ m') (hC : RC I' n' m') : Rn I' L n' m' := by
  obtain ⟨a1, a2, a3, a4, a5, a6⟩ := h
  have e : ∀ a, 20 < a → (a < 40 ∨ 64 < a) → a ≠ 83 → a < 101 → a ≠ 87 → (a < 91 ∨ 97 < a) → I' a = I a := fun a h1 h2 h3 h4 h5 h6 => hI a h1 (by unfold scr; omega) h5 (by omega)
  refine ⟨hC, ?_, ?_, ?_, ?_, ?_⟩
  · unfold RI RO at *
    rw [hI1, h87 22 (by simp), e 100 (by omega) (by omega) (by omega) (by omega) (by omega) (by omega)]
    refine ⟨a2.1, a2.2.imp id (fun ⟨q, n', m', h⟩ => ⟨q, n', m', RS_cong (fun a ha hb => e a (by omega) (by omega) (by omega) (by omega) (by omega) (by omega)) h⟩)⟩
  · intro s hs
    have := a3 s hs
    unfold RSh v_X3_lowestBits at *
    rw [e (66 + 2 * s) (by omega) (by omega) (by omega) (by omega) (by omega) (by omega), e 88 (by omega) (by omega) (by omega) (by omega) (by omega) (by omega), e 89 (by omega) (by omega) (by omega) (by omega) (by omega) (by omega)]
    refine this.imp id (fun ⟨q1, q2, q3, q4⟩ => ⟨q1, q2, q3, q4.imp id (fun ⟨q, hq, eq⟩ => ⟨q, by omega, eq⟩)⟩)
  · unfold RF at *
    rw [e 86 (by omega) (by omega) (by omega) (by omega) (by omega) (by omega), e 98 (by omega) (by omega) (by omega) (by omega) (by omega) (by omega)]
    exact a4
  · rw [e 82 (by omega) (by omega) (by omega) (by omega) (by omega) (by omega), h87 18 (by simp)]
    exact a5
  · unfold RA at *
    rw [e 84 (by omega) (by omega) (by omega) (by omega) (by omega) (by omega), h87 20 (by simp), e 85 (by omega) (by omega) (by omega) (by omega) (by omega) (by omega), e 99 (by omega) (by omega) (by omega) (by omega) (by omega) (by omega)]
    exact a6
section ZRF
variable {l : Launch} {g : zG} {Q : Option zv → zI → zL → Prop} {I : zI} {L : zL}
theorem c_refuse {a : Int32} {k : Nat} (hk : k < 8) (ha : -a = nI k) (h : Q (some (vI a)) (rf1 I k) L) : Call l g 1 M_X6_refuse [vR 1, vI a] I L Q := by
  refine m_X6_refuse ?_
  rw [ha, if_neg (nI_pos (by omega)), if_pos (n8 hk), zcl (by omega)]
  exact h
theorem m_no {a : Int32} {k : Nat} (hk : k < 8) (ha : -a = nI k) (h : Q (some (vI a)) (rf2 I k) L) : Call l g 1 M_X7_no [vR 87, vI a] I L Q := by
  refine m_X7_no ?_
  rw [ha, zcl (by omega)]
  exact ⟨zvin hk (by decide), h⟩
theorem c_nobody (h : Q (some (vI (-11))) (rf1 I 1) L) : Call l g 2 M_X6_refuseNobody [vR 1] I L Q := m_X6_refuseNobody (c_refuse (k := 1) (by decide) rfl ⟨_, rfl, h⟩)
theorem c_wrong (h : Q (some (vI (-16))) (rf1 I 6) L) : Call l g 2 M_X6_refuseWrong [vR 1] I L Q := m_X6_refuseWrong (c_refuse (k := 6) (by decide) rfl ⟨_, rfl, h⟩)
theorem m_no10 {a b : Int32} {k : Nat} (hk : k < 8) (ha : -a = nI k) (hb : a - 10 = b) (h : Q (some (vI b)) (rf2 I k) L) : Call l g 1 M_X7_no10 [vR 87, vI a] I L Q := by
  refine m_X7_no10 ?_
  rw [ha, zcl (by omega), hb]
  exact ⟨zvin hk (by decide), h⟩
end ZRF
/-- an operation: the class and then the reference answer alike, and the relation holds again -/
def Sim (Mx : zM) (dx : Nat) (Mm : zM) (dm : Nat) (as : List zv) : Prop := ∀ (l : Launch) (g : zG) (I : zI) (L : zL), R I L → Call l g dx Mx (vR 1 :: as) I L (zi fun r1 I1 L1 => Call l g dm Mm (vR 87 :: as) I1 L1 (zi fun r2 I2 L2 => r1 = r2 ∧ R I2 L2))
