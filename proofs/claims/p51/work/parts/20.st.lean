/-! THE STREET AS A VALUE: V's rows 87 and 91 to 97 hold what a street shows -/
def RPn (I : zI) (p : Nat) (kd rm ow hg sc : Int32) (tr : Nat → Int32) (n : Nat) : Prop :=
  (I p 0 = kd ∧ zle 6 kd) ∧ (I p 1 = rm ∧ zle 9 rm) ∧ (I p 2 = ow ∧ zle 9 ow) ∧ (I p 3 = hg ∧ (hg = -1 ∨ ∃ h, h < n ∧ hg = nI h)) ∧ I p 4 = sc ∧ ∀ c, c < 16 → I (p + 1) c = tr c ∧ zle 20 (tr c)
/-- a street at s: n letters, m panes -/
def RS (I : zI) (s : Nat) (fm kd rm ow hg sc tr : Nat → Int32) (le pa co we ou ho ed dr : Int32) (n m : Nat) : Prop :=
  n ≤ 8 ∧ m ≤ 8 ∧ (I s 2 = nI n ∧ le = nI n) ∧ (I s 3 = nI m ∧ pa = nI m) ∧ (I s 4 = co ∧ zle 40 co) ∧ (I s 5 = we ∧ zle 9 we) ∧ (I s 6 = ou ∧ zle 9 ou) ∧ (I s 7 = ho ∧ zle 24 ho) ∧ I s 8 = ed ∧ I s 9 = dr ∧
  (∀ j, j < n → I (s + 1) j = fm j ∧ zle 65535 (fm j)) ∧ ∀ i, i < m → RPn I (s + 3 + 2 * i) (kd i) (rm i) (ow i) (hg i) (sc i) (fun c => tr (16 * i + c)) n
theorem RPn_cong {I I' : zI} {p : Nat} {kd rm ow hg sc : Int32} {tr : Nat → Int32} {n : Nat} (h1 : I' p = I p) (h2 : I' (p + 1) = I (p + 1)) (h : RPn I p kd rm ow hg sc tr n) : RPn I' p kd rm ow hg sc tr n := by
  unfold RPn at *
  rw [h1, h2]
  exact h
theorem RS_cong {I I' : zI} {s : Nat} {fm kd rm ow hg sc tr : Nat → Int32} {le pa co we ou ho ed dr : Int32} {n m : Nat} (hI : ∀ a, s ≤ a → a ≤ s + 18 → I' a = I a) (h : RS I s fm kd rm ow hg sc tr le pa co we ou ho ed dr n m) : RS I' s fm kd rm ow hg sc tr le pa co we ou ho ed dr n m := by
  unfold RS at *
  rw [hI s (by omega) (by omega), hI (s + 1) (by omega) (by omega)]
  obtain ⟨a1, a2, a3, a4, a5, a6, a7, a8, a9, a10, a11, a12⟩ := h
  exact ⟨a1, a2, a3, a4, a5, a6, a7, a8, a9, a10, a11, fun i hi => RPn_cong (hI _ (by omega) (by omega)) (hI _ (by omega) (by omega)) (a12 i hi)⟩
/-- the street at s is V -/
def RV (I : zI) (s : Nat) (V : zI) (n m : Nat) : Prop := RS I s (V 91) (V 92) (V 93) (V 94) (V 95) (V 96) (V 97) (V 87 3) (V 87 5) (V 87 12) (V 87 13) (V 87 14) (V 87 15) (V 87 16) (V 87 17) n m
abbrev RC (I V : zI) (n m : Nat) : Prop := RV I 2 V n m
theorem RV_cong {I I' V : zI} {s n m : Nat} (hI : ∀ a, s ≤ a → a ≤ s + 18 → I' a = I a) (h : RV I s V n m) : RV I' s V n m := RS_cong hI h
/-- the glass and the rows beside it -/
def gl (a : Nat) : Prop := 60 ≤ a ∧ a ≤ 64
def Gf (I I' : zI) : Prop := ∀ a, ¬ gl a → I' a = I a
theorem Gf.rf {I : zI} : Gf I I := fun _ _ => rfl
theorem Gf.t {I J K : zI} (h1 : Gf I J) (h2 : Gf J K) : Gf I K := fun a ha => (h2 a ha).trans (h1 a ha)
theorem Gf.lo {I J : zI} (h : Gf I J) {a : Nat} (ha : a < 60) : J a = I a := h a (fun q => absurd q.1 (by omega))
theorem Gf.hi {I J : zI} (h : Gf I J) {a : Nat} (ha : 64 < a) : J a = I a := h a (fun q => absurd q.2 (by omega))
theorem RC_gl {I I' V : zI} {n m : Nat} (g : Gf I I') (h : RC I V n m) : RC I' V n m := RV_cong (fun a _ h2 => g.lo (by omega)) h
/-- counts and what is within them -/
theorem n_neg {a : Int32} (h : a < 0) (n : Nat) (hn : n < 2147483648) : ¬ a = nI n := by
  intro e
  rw [e, i_lt, n_toInt hn, show (0 : Int32).toInt = 0 from rfl] at h
  omega
theorem n_of {a : Int32} (h : ¬ a < 0) : ∃ k : Nat, k < 2147483648 ∧ a = nI k := by
  have h2 := fb_rng a
  rw [i_lt, show (0 : Int32).toInt = 0 from rfl] at h
  refine ⟨a.toInt.toNat, by omega, ?_⟩
  rw [i_eq, n_toInt (by omega)]
  omega
theorem n_pre {m : Nat} (hm : m ≤ 2147483647) : (nI m - 1).toInt = (m : Int) - 1 := n_sub (a := m) (b := 1) (by omega) (by decide)
theorem nI_m1 (c : Nat) : nI (c + 1) - 1 = nI c := nI_pred c
theorem ne0 {x : Int32} (h : x = 1) : ¬ x = 0 := by rw [h]; decide
/-- within 0 .. m - 1, or not -/
theorem in_c (a : Int32) {m : Nat} (hm : m ≤ 1000000) : (a < 0 ∨ (¬ a < 0 ∧ ¬ a < nI m)) ∨ ∃ i, i < m ∧ a = nI i ∧ ¬ a < 0 ∧ a < nI m := by
  by_cases h : a < 0
  · exact Or.inl (Or.inl h)
  · obtain ⟨k, hk, rfl⟩ := n_of h
    by_cases h2 : nI k < nI m
    · exact Or.inr ⟨k, (n_lt hk (by omega)).mp h2, rfl, h, h2⟩
    · exact Or.inl (Or.inr ⟨h, h2⟩)
/-- 0 .. b, or not -/
theorem may_c (v : Int32) (b : Nat) (hb : b ≤ 1000) : (v < 0 ∨ (¬ v < 0 ∧ nI b < v)) ∨ (zle b v ∧ ¬ v < 0 ∧ ¬ nI b < v) := by
  by_cases h : v < 0
  · exact Or.inl (Or.inl h)
  · by_cases h2 : nI b < v
    · exact Or.inl (Or.inr ⟨h, h2⟩)
    · obtain ⟨k, hk, rfl⟩ := n_of h
      refine Or.inr ⟨⟨k, ?_, rfl⟩, h, h2⟩
      rw [n_lt (by omega) hk] at h2
      omega
theorem zle_ge {b : Nat} {x : Int32} (h : zle b x) (hb : b < 2147483648) : ¬ x < 0 := by
  obtain ⟨k, hk, rfl⟩ := h
  exact nI_pos (by omega)
theorem zle_gt {b c : Nat} {x : Int32} (h : zle b x) (hbc : b ≤ c) (hc : c < 2147483648) : ¬ nI c < x := by
  obtain ⟨k, hk, rfl⟩ := h
  rw [n_lt hc (by omega)]
  omega
theorem paneAt_in {I : zI} {m i : Nat} (hm : m ≤ 8) (e : I 2 3 = nI m) (hi : i < m) : v_X4_paneAt I 2 (nI i) = 5 + 2 * i := by
  unfold v_X4_paneAt
  rw [if_neg (nI_pos (by omega)), e, if_pos (nI_lt hi (by omega)), if_pos (n8 (show i < 8 by omega)), zcl (by omega)]
theorem pane_c {I : zI} {m : Nat} (hm : m ≤ 8) (e : I 2 3 = nI m) (a : Int32) : v_X4_paneAt I 2 a = 0 ∨ ∃ i, i < m ∧ a = nI i ∧ v_X4_paneAt I 2 a = 5 + 2 * i := by
  rcases in_c a (m := m) (by omega) with (h | ⟨h, h1⟩) | ⟨i, hi, rfl, h1, h2⟩
  · exact Or.inl (by unfold v_X4_paneAt; rw [e, if_pos h])
  · exact Or.inl (by unfold v_X4_paneAt; rw [e, if_neg h, if_neg h1])
  · exact Or.inr ⟨i, hi, rfl, paneAt_in hm e hi⟩
theorem let_c {I : zI} {n : Nat} (hn : n ≤ 8) (e : I 2 2 = nI n) (a : Int32) : v_X4_isLetter I 2 a = 0 ∨ ∃ i, i < n ∧ a = nI i ∧ v_X4_isLetter I 2 a = 1 := by
  rcases in_c a (m := n) (by omega) with (h | ⟨h, h1⟩) | ⟨i, hi, rfl, h1, h2⟩
  · exact Or.inl (by unfold v_X4_isLetter; rw [e, if_pos h])
  · exact Or.inl (by unfold v_X4_isLetter; rw [e, if_neg h, if_neg h1])
  · exact Or.inr ⟨i, hi, rfl, isl e hn hi⟩
/-- a letter, or nothing -/
def okN (n : Nat) (x : Int32) : Prop := x = -1 ∨ ∃ j, j < n ∧ x = nI j
theorem letN_c {I : zI} {n : Nat} (hn : n ≤ 8) (e : I 2 2 = nI n) (a : Int32) : v_X4_isLetterOrNone I 2 a = 0 ∨ (okN n a ∧ v_X4_isLetterOrNone I 2 a = 1) := by
  unfold v_X4_isLetterOrNone
  by_cases h : a = -1
  · exact Or.inr ⟨Or.inl h, if_pos h⟩
  · rw [if_neg h]
    rcases let_c hn e a with h1 | ⟨i, hi, rfl, h1⟩
    · exact Or.inl (by rw [if_pos h1])
    · exact Or.inr ⟨Or.inr ⟨i, hi, rfl⟩, by rw [h1]; rfl⟩
theorem letN_in {I : zI} {n : Nat} (hn : n ≤ 8) (e : I 2 2 = nI n) {a : Int32} (h : okN n a) : v_X4_isLetterOrNone I 2 a = 1 := by
  unfold v_X4_isLetterOrNone
  rcases h with rfl | ⟨i, hi, rfl⟩
  · rw [if_pos rfl]
  · rw [if_neg (fun e1 => n_neg (a := -1) (by decide) i (by omega) e1.symm), isl e hn hi]
    rfl
/-- the form of a letter or of nothing -/
def mform (V : zI) (l : Int32) : Int32 := if l = -1 then 0 else V 91 l.toNatClampNeg
def okP (V : zI) (i : Nat) : Prop := i < 8 ∧ zle 6 (V 92 i) ∧ zle 9 (V 93 i) ∧ zle 9 (V 94 i)
def okWx (V : zI) : Prop := zle 40 (V 87 12) ∧ zle 9 (V 87 13) ∧ zle 9 (V 87 14)
theorem RC_pane {I V : zI} {n m i : Nat} (h : RC I V n m) (hi : i < m) : okP V i ∧ I (5 + 2 * i) 0 = V 92 i ∧ I (5 + 2 * i) 1 = V 93 i ∧ I (5 + 2 * i) 2 = V 94 i ∧ I (5 + 2 * i) 3 = V 95 i ∧ I (5 + 2 * i) 4 = V 96 i ∧ okN n (V 95 i) ∧ ∀ c, c < 16 → I (6 + 2 * i) c = V 97 (16 * i + c) ∧ zle 20 (V 97 (16 * i + c)) := by
  obtain ⟨hn, hm, -, -, -, -, -, -, -, -, -, hp⟩ := h
  obtain ⟨⟨p0, z0⟩, ⟨p1, z1⟩, ⟨p2, z2⟩, ⟨p3, z3⟩, p4, p5⟩ := hp i hi
  refine ⟨⟨by omega, z0, z1, z2⟩, p0, p1, p2, p3, p4, z3, fun c hc => ?_⟩
  have := p5 c hc
  rw [show 2 + 3 + 2 * i + 1 = 6 + 2 * i by omega] at this
  exact this
theorem RC_wx {I V : zI} {n m : Nat} (h : RC I V n m) : okWx V ∧ zle 8 (V 87 3) ∧ n ≤ 8 ∧ m ≤ 8 ∧ I 2 2 = nI n ∧ V 87 3 = nI n ∧ I 2 3 = nI m ∧ V 87 5 = nI m ∧ I 2 4 = V 87 12 ∧ I 2 5 = V 87 13 ∧ I 2 6 = V 87 14 ∧ ∀ j, j < n → I 3 j = V 91 j := by
  obtain ⟨hn, hm, ⟨e2, e2'⟩, ⟨e3, e3'⟩, ⟨e4, z4⟩, ⟨e5, z5⟩, ⟨e6, z6⟩, -, -, -, hf, -⟩ := h
  exact ⟨⟨z4, z5, z6⟩, ⟨n, hn, e2'⟩, hn, hm, e2, e2', e3, e3', e4, e5, e6, fun j hj => (hf j hj).1⟩
theorem rdg_cong {f f2 : Nat → Int32} {sh : Int32} : ∀ {n : Nat}, (∀ j, j < n → f j = f2 j) → rdg f sh n = rdg f2 sh n
  | 0, _ => rfl
  | n + 1, h => by
    unfold rdg
    rw [rdg_cong (fun j hj => h j (by omega)), h n (by omega)]
theorem rdH_cong {f f2 : Nat → Int32} {N : Nat} {k room a scr form cold wet out : Int32} {j : Nat} (h : ∀ j, j < N → f j = f2 j) : rdH f N k room a scr form cold wet out j = rdH f2 N k room a scr form cold wet out j := by
  unfold rdH
  rw [rdg_cong h]
theorem cellsOf_m {I V : zI} {n : Nat} (hn : n ≤ 8) (e : I 2 2 = nI n) (hf : ∀ j, j < n → I 3 j = V 91 j) {a : Int32} (h : okN n a) : v_X4_cellsOf I 2 a = mform V a := by
  unfold mform
  rcases h with rfl | ⟨j, hj, rfl⟩
  · rw [if_pos rfl]
    unfold v_X4_cellsOf
    rw [if_pos (show v_X4_isLetter I 2 (-1) = 0 from by unfold v_X4_isLetter; rw [if_pos (by decide)])]
  · rw [cellsOf_in e hn hj, if_neg, zcl (by omega)]
    · exact hf j hj
    · intro e1
      exact n_neg (a := -1) (by decide) j (by omega) e1.symm
theorem zshP : ∀ i, i < 8 → zsh (5 + 2 * i) = (11, 6) := by decide +kernel
/-- what a pane with a letter is read as; its shape; its ice -/
def ob (V : zI) (i : Nat) (x : Int32) (j : Nat) : Int32 := rdH (V 91) (V 87 3).toNatClampNeg (V 92 i) (V 93 i) (V 94 i) (V 96 i) (mform V x) (V 87 12) (V 87 13) (V 87 14) j
def obS (V : zI) (i : Nat) (x : Int32) (j : Nat) : Int32 := shpH (V 92 i) (V 93 i) (V 94 i) (V 96 i) (mform V x) (V 87 12) (V 87 13) (V 87 14) j
def obI (V : zI) (i : Nat) (x : Int32) (j : Nat) : Nat → Int32 := iceH (V 92 i) (V 93 i) (V 94 i) (V 96 i) (mform V x) (V 87 12) (V 87 13) (V 87 14) j
theorem ob_c {I V : zI} {n m i : Nat} (h : RC I V n m) (hi : i < m) {x : Int32} (hx : okN n x) (j : Nat) : rdH (I 3) (I 2 2).toNatClampNeg (I (5 + 2 * i) 0) (I (5 + 2 * i) 1) (I (5 + 2 * i) 2) (I (5 + 2 * i) 4) (v_X4_cellsOf I 2 x) (I 2 4) (I 2 5) (I 2 6) j = ob V i x j := by
  obtain ⟨hW, hN, hn, hm, e2, e2', e3, e3', e4, e5, e6, hf⟩ := RC_wx h
  obtain ⟨hP, p0, p1, p2, p3, p4, -, -⟩ := RC_pane h hi
  unfold ob
  rw [p0, p1, p2, p4, e4, e5, e6, e2, e2', cellsOf_m hn e2 hf hx, zcl (by omega)]
  exact rdH_cong hf
/-- readings are letters or none -/
theorem rdg_in (f : Nat → Int32) (sh : Int32) : ∀ n, okN n (rdg f sh n).1
  | 0 => Or.inl rfl
  | n + 1 => by
    unfold rdg
    dsimp only
    split
    · exact Or.inr ⟨n, by omega, rfl⟩
    · split
      · exact Or.inl rfl
      · exact (rdg_in f sh n).imp id (fun ⟨i, hi, e⟩ => ⟨i, by omega, e⟩)
theorem ob_in {I V : zI} {n m : Nat} (h : RC I V n m) (i : Nat) (x : Int32) (j : Nat) : okN n (ob V i x j) := by
  obtain ⟨hW, hN, hn, hm, e2, e2', e3, e3', e4, e5, e6, hf⟩ := RC_wx h
  unfold ob rdH
  rw [e2', zcl (by omega)]
  exact rdg_in _ _ _
/-- the class's refusal -/
def rf1 (I : zI) (k : Nat) : zI := zs I 86 k (I 86 k + 1)
theorem rf1_ne {I : zI} {k a : Nat} (h : a ≠ 86) : rf1 I k a = I a := zs_nec h
theorem RC_rf {I V : zI} {n m k : Nat} (h : RC I V n m) : RC (rf1 I k) V n m := RV_cong (fun a _ h2 => rf1_ne (by omega)) h
section ZRF
variable {l : Launch} {g : zG} {Q : Option zv → zI → zL → Prop} {I : zI} {L : zL}
theorem c_refuse {a : Int32} {k : Nat} (hk : k < 8) (ha : -a = nI k) (h : Q (some (vI a)) (rf1 I k) L) : Call l g 1 M_X6_refuse [vR 1, vI a] I L Q := by
  refine m_X6_refuse ?_
  rw [ha, if_neg (nI_pos (by omega)), if_pos (n8 hk), zcl (by omega)]
  exact h
theorem c_nobody (h : Q (some (vI (-11))) (rf1 I 1) L) : Call l g 2 M_X6_refuseNobody [vR 1] I L Q := m_X6_refuseNobody (c_refuse (k := 1) (by decide) rfl ⟨_, rfl, h⟩)
theorem c_wrong (h : Q (some (vI (-16))) (rf1 I 6) L) : Call l g 2 M_X6_refuseWrong [vR 1] I L Q := m_X6_refuseWrong (c_refuse (k := 6) (by decide) rfl ⟨_, rfl, h⟩)
end ZRF
