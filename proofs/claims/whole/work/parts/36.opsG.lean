/-! OPERATIONS: act -/
def fT (k : Int32) : List Int32 := if k = 1 then [20, 10] else if k = 5 then [20, 10] else if k = 4 then [51, 10] else if k = 6 then [70, 10] else [10]
def fV (k p a x : Int32) : Int32 := if k = 1 then x + p + a else if k = 5 then x + p + a else if k = 4 then x + p - p else if k = 6 then (x + p) * 2 else x + p
def m0T (k : Int32) : List Int32 := 11 :: fT k
def m0V (k p a x : Int32) : Int32 := fV k p a x * 2
def m2T (k : Int32) : List Int32 := 30 :: m0T k
def m2V (k p a x : Int32) : Int32 := m0V k p a x * 3
def m3T (k : Int32) : List Int32 := 40 :: m2T k
def m3V (k p a x : Int32) : Int32 := m2V k p a (x + 1)
def mT (k : Int32) : List Int32 := if k = 2 then m2T k else if k = 3 then m3T k else if k = 6 then 71 :: m3T k else m0T k
def mV (k p a x : Int32) : Int32 := if k = 2 then m2V k p a x else if k = 3 then m3V k p a x else if k = 6 then m3V k p a (x - a) else m0V k p a x
def s0T (k : Int32) : List Int32 := 12 :: (mT k ++ fT k)
def s0V (k p a x : Int32) : Int32 := mV k p a x ^^^ fV k p a (x - a)
def sT (k : Int32) : List Int32 := if k = 4 then 50 :: s0T k else if k = 5 then 60 :: s0T k else s0T k
def sV (k p a x : Int32) : Int32 := if k = 4 then -s0V k p a x else if k = 5 then s0V k p a x ^^^ 5 else s0V k p a x
theorem fT_len {k : Int32} (hk : zle 6 k) : (fT k).length ≤ 2 := by
  rcases k7 hk with e | e | e | e | e | e | e <;> subst e <;> decide
theorem mT_len {k : Int32} (hk : zle 6 k) : (mT k).length ≤ 6 := by
  rcases k7 hk with e | e | e | e | e | e | e <;> subst e <;> decide
theorem sT_len {k : Int32} (hk : zle 6 k) : (sT k).length ≤ 10 := by
  rcases k7 hk with e | e | e | e | e | e | e <;> subst e <;> decide
theorem getD_snoc (T : List Int32) (b : Int32) {j : Nat} (h : j < T.length + 1) : (T ++ [b]).getD j 0 = if j = T.length then b else T.getD j 0 := by
  rw [List.getD_eq_getElem?_getD, List.getD_eq_getElem?_getD]
  by_cases e : j = T.length
  · rw [if_pos e, e, List.getElem?_append_right (Nat.le_refl _), Nat.sub_self]
    rfl
  · rw [if_neg e, List.getElem?_append_left (by omega)]
theorem snoc_cons (T : List Int32) (b : Int32) (S : List Int32) : T ++ [b] ++ S = T ++ b :: S := by rw [List.append_assoc]; rfl
theorem snoc_len (T : List Int32) (b : Int32) : (T ++ [b]).length = T.length + 1 := by rw [List.length_append]; rfl
/-- the class's trace -/
def trC (I : zI) (T : List Int32) : Prop := I 84 1 = nI T.length ∧ ∀ j, j < T.length → I 85 j = T.getD j 0
def trM (I : zI) (T : List Int32) : Prop := I 87 20 = nI T.length ∧ ∀ j, j < T.length → I 99 j = T.getD j 0
def cS (J : zI) (k p a : Int32) (T : List Int32) : Prop := J 84 2 = k ∧ J 84 3 = p ∧ J 84 4 = a ∧ trC J T
def frC (J J' : zI) : Prop := ∀ b, b ≠ 84 → b ≠ 85 → J' b = J b
def mS (J : zI) (i : Nat) (k a : Int32) (T : List Int32) : Prop := J 92 i = k ∧ J 94 i = a ∧ trM J T
def frM (J J' : zI) : Prop := (∀ b, b ≠ 87 → b ≠ 99 → J' b = J b) ∧ ∀ j, j ≠ 20 → J' 87 j = J 87 j
theorem frC.t {J J1 J2 : zI} (h1 : frC J J1) (h2 : frC J1 J2) : frC J J2 := fun b h3 h4 => (h2 b h3 h4).trans (h1 b h3 h4)
theorem frM.t {J J1 J2 : zI} (h1 : frM J J1) (h2 : frM J1 J2) : frM J J2 := ⟨fun b h3 h4 => (h2.1 b h3 h4).trans (h1.1 b h3 h4), fun j hj => (h2.2 j hj).trans (h1.2 j hj)⟩
section ZAC
variable {l : Launch} {g : zG} {Q : Option zv → zI → zL → Prop} {J : zI} {L : zL} {k p a x : Int32} {T : List Int32} {d dp i : Nat}
theorem c_note {b : Int32} (hS : cS J k p a T) (hT : T.length < 20) (h : ∀ J' : zI, frC J J' → cS J' k p a (T ++ [b]) → Q none J' L) : Call l g 1 M_X0_note [vR 84, vI b] J L Q := by
  obtain ⟨s1, s2, s3, s4, s5⟩ := hS
  refine m_X0_note ?_
  rw [s4, if_neg (nI_pos (by omega)), if_pos (show nI T.length < 20 from (nI_lt hT (by decide) : nI T.length < nI 20)), zcl (by omega)]
  rintro I3 rfl
  have e1 : zs J 85 T.length b 84 = J 84 := zs_nec (by decide)
  rw [e1, s4, ← nI_succ]
  refine h _ (fun c h1 h2 => by rw [zs_nec h1, zs_nec h2]) ⟨?_, ?_, ?_, ?_, fun j hj => ?_⟩
  · rw [zs_ne (by omega), e1]; exact s1
  · rw [zs_ne (by omega), e1]; exact s2
  · rw [zs_ne (by omega), e1]; exact s3
  · rw [zs_same, snoc_len]
  · rw [snoc_len] at hj
    rw [getD_snoc T b hj, zs_nec (by decide), zs_at]
    by_cases e : j = T.length
    · rw [if_pos e, if_pos e]
    · rw [if_neg e, if_neg e]
      exact s5 j (by omega)
theorem m_note {b : Int32} (hS : mS J i k a T) (hT : T.length < 20) (h : ∀ J' : zI, frM J J' → mS J' i k a (T ++ [b]) → Q none J' L) : Call l g 1 M_X7_ran [vR 87, vI b] J L Q := by
  obtain ⟨s1, s2, s4, s5⟩ := hS
  refine m_X7_ran ?_
  rw [s4, if_pos (show nI T.length < 20 from (nI_lt hT (by decide) : nI T.length < nI 20)), zcl (by omega)]
  refine ⟨zvin hT (by decide), ?_⟩
  rintro I3 rfl
  have e1 : zs J 99 T.length b 87 = J 87 := zs_nec (by decide)
  rw [e1, s4, ← nI_succ]
  refine h _ ⟨fun c h1 h2 => by rw [zs_nec h1, zs_nec h2], fun j hj => by rw [zs_ne (fun z => hj z.2), e1]⟩ ⟨?_, ?_, ?_, fun j hj => ?_⟩
  · rw [zs_nec (by decide), zs_nec (by decide)]; exact s1
  · rw [zs_nec (by decide), zs_nec (by decide)]; exact s2
  · rw [zs_same, snoc_len]
  · rw [snoc_len] at hj
    rw [getD_snoc T b hj, zs_nec (by decide), zs_at]
    by_cases e : j = T.length
    · rw [if_pos e, if_pos e]
    · rw [if_neg e, if_neg e]
      exact s5 j (by omega)
theorem dp40 (h : dp < 40) : nI dp < 40 := (nI_lt h (by decide) : nI dp < nI 40)
/-- a body 10 -/
theorem c_10 {act f : Int32} (hb : v_X0_bodyFor act f = 10) (hd : 5 ≤ d) (hdp : dp < 40) (hS : cS J k p a T) (hT : T.length < 20) (h : ∀ J' : zI, frC J J' → cS J' k p a (T ++ [10]) → Q (some (vI (x + p))) J' L) : Call l g (d + 1) M_X0_run [vR 84, vI act, vI f, vI x, vI (nI dp)] J L Q := by
  refine m_X0_run hd ?_
  rw [if_pos (dp40 hdp), hb]
  refine c_note hS hT (fun J1 f1 S1 => ⟨rfl, ?_⟩)
  dsimp only
  rw [if_pos rfl, S1.2.1]
  exact h J1 f1 S1
theorem c_F (hk : zle 6 k) {f : Int32} (hf : zle 6 f) (hd : 5 ≤ d) (hdp : dp + 1 < 40) (hS : cS J k p a T) (hT : T.length ≤ 17) (h : ∀ J' : zI, frC J J' → cS J' k p a (T ++ fT f) → Q (some (vI (fV f p a x))) J' L) : Call l g (d + 2) M_X0_run [vR 84, vI 0, vI f, vI x, vI (nI dp)] J L Q := by
  have low : v_X0_bodyFor 0 f = 10 → fT f = [10] → fV f p a x = x + p → Call l g (d + 2) M_X0_run [vR 84, vI 0, vI f, vI x, vI (nI dp)] J L Q := fun hb e1 e2 => c_10 (d := d + 1) hb (by omega) (by omega) hS (by omega) (fun J1 f1 S1 => by rw [← e2]; rw [← e1] at S1; exact h J1 f1 S1)
  rcases k7 hf with e | e | e | e | e | e | e <;> subst e
  · exact low (by decide +kernel) rfl rfl
  · refine m_X0_run (d := d + 1) (by omega) ?_
    rw [if_pos (dp40 (by omega)), show v_X0_bodyFor 0 (nI 1) = 20 by decide +kernel]
    refine c_note hS (by omega) (fun J1 f1 S1 => ⟨rfl, ?_⟩)
    dsimp only
    rw [if_neg (by decide), if_neg (by decide), if_neg (by decide), if_pos rfl, ← nI_succ]
    refine c_10 (by decide +kernel) hd (by omega) S1 (by rw [snoc_len]; omega) (fun J2 f2 S2 => ⟨_, rfl, ?_⟩)
    dsimp only
    rw [S2.2.2.1]
    rw [snoc_cons] at S2
    exact h J2 (f1.t f2) S2
  · exact low (by decide +kernel) rfl rfl
  · exact low (by decide +kernel) rfl rfl
  · refine m_X0_run (d := d + 1) (by omega) ?_
    rw [if_pos (dp40 (by omega)), show v_X0_bodyFor 0 (nI 4) = 51 by decide +kernel]
    refine c_note hS (by omega) (fun J1 f1 S1 => ⟨rfl, ?_⟩)
    dsimp only
    rw [if_neg (by decide), if_neg (by decide), if_neg (by decide), if_neg (by decide), if_neg (by decide), if_neg (by decide), if_neg (by decide), if_pos rfl, ← nI_succ]
    refine c_10 (by decide +kernel) hd (by omega) S1 (by rw [snoc_len]; omega) (fun J2 f2 S2 => ⟨_, rfl, ?_⟩)
    dsimp only
    rw [S2.2.1]
    rw [snoc_cons] at S2
    exact h J2 (f1.t f2) S2
  · refine m_X0_run (d := d + 1) (by omega) ?_
    rw [if_pos (dp40 (by omega)), show v_X0_bodyFor 0 (nI 5) = 20 by decide +kernel]
    refine c_note hS (by omega) (fun J1 f1 S1 => ⟨rfl, ?_⟩)
    dsimp only
    rw [if_neg (by decide), if_neg (by decide), if_neg (by decide), if_pos rfl, ← nI_succ]
    refine c_10 (by decide +kernel) hd (by omega) S1 (by rw [snoc_len]; omega) (fun J2 f2 S2 => ⟨_, rfl, ?_⟩)
    dsimp only
    rw [S2.2.2.1]
    rw [snoc_cons] at S2
    exact h J2 (f1.t f2) S2
  · refine m_X0_run (d := d + 1) (by omega) ?_
    rw [if_pos (dp40 (by omega)), show v_X0_bodyFor 0 (nI 6) = 70 by decide +kernel]
    refine c_note hS (by omega) (fun J1 f1 S1 => ⟨rfl, ?_⟩)
    dsimp only
    rw [if_neg (by decide), if_neg (by decide), if_neg (by decide), if_neg (by decide), if_neg (by decide), if_neg (by decide), if_neg (by decide), if_neg (by decide), if_neg (by decide), if_pos rfl, ← nI_succ]
    refine c_10 (by decide +kernel) hd (by omega) S1 (by rw [snoc_len]; omega) (fun J2 f2 S2 => ⟨_, rfl, ?_⟩)
    rw [snoc_cons] at S2
    exact h J2 (f1.t f2) S2
theorem c_M0 (hk : zle 6 k) {f : Int32} (hb : v_X0_bodyFor 1 f = 11) (hd : 5 ≤ d) (hdp : dp + 2 < 40) (hS : cS J k p a T) (hT : T.length ≤ 16) (h : ∀ J' : zI, frC J J' → cS J' k p a (T ++ m0T k) → Q (some (vI (m0V k p a x))) J' L) : Call l g (d + 3) M_X0_run [vR 84, vI 1, vI f, vI x, vI (nI dp)] J L Q := by
  refine m_X0_run (d := d + 2) (by omega) ?_
  rw [if_pos (dp40 (by omega)), hb]
  refine c_note hS (by omega) (fun J1 f1 S1 => ⟨rfl, ?_⟩)
  dsimp only
  rw [if_neg (by decide), if_pos rfl, S1.1, ← nI_succ]
  refine c_F hk hk hd (by omega) S1 (by rw [snoc_len]; omega) (fun J2 f2 S2 => ⟨_, rfl, ?_⟩)
  rw [snoc_cons] at S2
  exact h J2 (f1.t f2) S2
theorem c_M2 (hk : zle 6 k) {f : Int32} (hb : v_X0_bodyFor 1 f = 30) (hd : 5 ≤ d) (hdp : dp + 3 < 40) (hS : cS J k p a T) (hT : T.length ≤ 15) (h : ∀ J' : zI, frC J J' → cS J' k p a (T ++ m2T k) → Q (some (vI (m2V k p a x))) J' L) : Call l g (d + 4) M_X0_run [vR 84, vI 1, vI f, vI x, vI (nI dp)] J L Q := by
  refine m_X0_run (d := d + 3) (by omega) ?_
  rw [if_pos (dp40 (by omega)), hb]
  refine c_note hS (by omega) (fun J1 f1 S1 => ⟨rfl, ?_⟩)
  dsimp only
  rw [if_neg (by decide), if_neg (by decide), if_neg (by decide), if_neg (by decide), if_pos rfl, ← nI_succ]
  refine c_M0 hk (by decide +kernel) hd (by omega) S1 (by rw [snoc_len]; omega) (fun J2 f2 S2 => ⟨_, rfl, ?_⟩)
  rw [snoc_cons] at S2
  exact h J2 (f1.t f2) S2
theorem c_M3 (hk : zle 6 k) {f : Int32} (hb : v_X0_bodyFor 1 f = 40) (hd : 5 ≤ d) (hdp : dp + 4 < 40) (hS : cS J k p a T) (hT : T.length ≤ 14) (h : ∀ J' : zI, frC J J' → cS J' k p a (T ++ m3T k) → Q (some (vI (m3V k p a x))) J' L) : Call l g (d + 5) M_X0_run [vR 84, vI 1, vI f, vI x, vI (nI dp)] J L Q := by
  refine m_X0_run (d := d + 4) (by omega) ?_
  rw [if_pos (dp40 (by omega)), hb]
  refine c_note hS (by omega) (fun J1 f1 S1 => ⟨rfl, ?_⟩)
  dsimp only
  rw [if_neg (by decide), if_neg (by decide), if_neg (by decide), if_neg (by decide), if_neg (by decide), if_pos rfl, ← nI_succ]
  refine c_M2 hk (by decide +kernel) hd (by omega) S1 (by rw [snoc_len]; omega) (fun J2 f2 S2 => ⟨_, rfl, ?_⟩)
  rw [snoc_cons] at S2
  exact h J2 (f1.t f2) S2
theorem c_M (hk : zle 6 k) (hd : 5 ≤ d) (hdp : dp + 5 < 40) (hS : cS J k p a T) (hT : T.length ≤ 13) (h : ∀ J' : zI, frC J J' → cS J' k p a (T ++ mT k) → Q (some (vI (mV k p a x))) J' L) : Call l g (d + 6) M_X0_run [vR 84, vI 1, vI k, vI x, vI (nI dp)] J L Q := by
  rcases k7 hk with e | e | e | e | e | e | e <;> subst e
  · exact c_M0 (d := d + 3) hk (by decide +kernel) (by omega) (by omega) hS (by omega) h
  · exact c_M0 (d := d + 3) hk (by decide +kernel) (by omega) (by omega) hS (by omega) h
  · exact c_M2 (d := d + 2) hk (by decide +kernel) (by omega) (by omega) hS (by omega) h
  · exact c_M3 (d := d + 1) hk (by decide +kernel) (by omega) (by omega) hS (by omega) h
  · exact c_M0 (d := d + 3) hk (by decide +kernel) (by omega) (by omega) hS (by omega) h
  · exact c_M0 (d := d + 3) hk (by decide +kernel) (by omega) (by omega) hS (by omega) h
  · refine m_X0_run (d := d + 5) (by omega) ?_
    rw [if_pos (dp40 (by omega)), show v_X0_bodyFor 1 (nI 6) = 71 by decide +kernel]
    refine c_note hS (by omega) (fun J1 f1 S1 => ⟨rfl, ?_⟩)
    dsimp only
    rw [if_neg (by decide), if_neg (by decide), if_neg (by decide), if_neg (by decide), if_neg (by decide), if_neg (by decide), if_neg (by decide), if_neg (by decide), if_neg (by decide), if_neg (by decide), if_pos rfl, S1.2.2.1, ← nI_succ]
    refine c_M3 hk (by decide +kernel) hd (by omega) S1 (by rw [snoc_len]; omega) (fun J2 f2 S2 => ⟨_, rfl, ?_⟩)
    rw [snoc_cons] at S2
    exact h J2 (f1.t f2) S2
theorem c_S0 (hk : zle 6 k) {f : Int32} (hb : v_X0_bodyFor 2 f = 12) (hd : 5 ≤ d) (hdp : dp + 6 < 40) (hS : cS J k p a T) (hT : T.length ≤ 10) (h : ∀ J' : zI, frC J J' → cS J' k p a (T ++ s0T k) → Q (some (vI (s0V k p a x))) J' L) : Call l g (d + 7) M_X0_run [vR 84, vI 2, vI f, vI x, vI (nI dp)] J L Q := by
  refine m_X0_run (d := d + 6) (by omega) ?_
  rw [if_pos (dp40 (by omega)), hb]
  refine c_note hS (by omega) (fun J1 f1 S1 => ⟨rfl, ?_⟩)
  dsimp only
  rw [if_neg (by decide), if_neg (by decide), if_pos rfl, S1.1, ← nI_succ]
  refine c_M hk hd (by omega) S1 (by rw [snoc_len]; omega) (fun J2 f2 S2 => ⟨_, rfl, ?_⟩)
  dsimp only
  rw [S2.1, S2.2.2.1]
  have hl := mT_len hk
  refine c_F (d := d + 4) hk hk (by omega) (by omega) S2 (by rw [List.length_append, snoc_len]; omega) (fun J3 f3 S3 => ⟨_, rfl, ?_⟩)
  rw [List.append_assoc, snoc_cons] at S3
  exact h J3 ((f1.t f2).t f3) S3
theorem c_S (hk : zle 6 k) (hd : 5 ≤ d) (hdp : dp + 7 < 40) (hS : cS J k p a T) (hT : T.length ≤ 9) (h : ∀ J' : zI, frC J J' → cS J' k p a (T ++ sT k) → Q (some (vI (sV k p a x))) J' L) : Call l g (d + 8) M_X0_run [vR 84, vI 2, vI k, vI x, vI (nI dp)] J L Q := by
  rcases k7 hk with e | e | e | e | e | e | e <;> subst e
  · exact c_S0 (d := d + 1) hk (by decide +kernel) (by omega) (by omega) hS (by omega) h
  · exact c_S0 (d := d + 1) hk (by decide +kernel) (by omega) (by omega) hS (by omega) h
  · exact c_S0 (d := d + 1) hk (by decide +kernel) (by omega) (by omega) hS (by omega) h
  · exact c_S0 (d := d + 1) hk (by decide +kernel) (by omega) (by omega) hS (by omega) h
  · refine m_X0_run (d := d + 7) (by omega) ?_
    rw [if_pos (dp40 (by omega)), show v_X0_bodyFor 2 (nI 4) = 50 by decide +kernel]
    refine c_note hS (by omega) (fun J1 f1 S1 => ⟨rfl, ?_⟩)
    dsimp only
    rw [if_neg (by decide), if_neg (by decide), if_neg (by decide), if_neg (by decide), if_neg (by decide), if_neg (by decide), if_pos rfl, ← nI_succ]
    refine c_S0 hk (by decide +kernel) hd (by omega) S1 (by rw [snoc_len]; omega) (fun J2 f2 S2 => ⟨_, rfl, ?_⟩)
    rw [snoc_cons] at S2
    exact h J2 (f1.t f2) S2
  · refine m_X0_run (d := d + 7) (by omega) ?_
    rw [if_pos (dp40 (by omega)), show v_X0_bodyFor 2 (nI 5) = 60 by decide +kernel]
    refine c_note hS (by omega) (fun J1 f1 S1 => ⟨rfl, ?_⟩)
    dsimp only
    rw [if_neg (by decide), if_neg (by decide), if_neg (by decide), if_neg (by decide), if_neg (by decide), if_neg (by decide), if_neg (by decide), if_neg (by decide), if_pos rfl, ← nI_succ]
    refine c_S0 hk (by decide +kernel) hd (by omega) S1 (by rw [snoc_len]; omega) (fun J2 f2 S2 => ⟨_, rfl, ?_⟩)
    rw [snoc_cons] at S2
    exact h J2 (f1.t f2) S2
  · exact c_S0 (d := d + 1) hk (by decide +kernel) (by omega) (by omega) hS (by omega) h
/-- the reference's acts -/
theorem m_F (hk : zle 6 k) (hi : i < 8) (hS : mS J i k a T) (hT : T.length ≤ 17) (h : ∀ J' : zI, frM J J' → mS J' i k a (T ++ fT k) → Q (some (vI (fV k (nI i) a x))) J' L) : Call l g 2 M_X7_freezes [vR 87, vI (nI i), vI x] J L Q := by
  have i8 : (nI i).toNatClampNeg = i := zcl (by omega)
  refine m_X7_freezes ⟨zvin hi (by decide), ?_⟩
  rw [i8, hS.1]
  rcases k7 hk with e | e | e | e | e | e | e <;> subst e
  · rw [if_neg (by decide), if_neg (by decide), if_neg (by decide), if_neg (by decide), if_neg (by decide), if_neg (by decide)]
    exact m_note hS (by omega) (fun J1 f1 S1 => ⟨rfl, h J1 f1 S1⟩)
  · rw [if_pos (by decide)]
    refine m_note hS (by omega) (fun J1 f1 S1 => ⟨rfl, m_note S1 (by rw [snoc_len]; omega) (fun J2 f2 S2 => ⟨rfl, ?_⟩)⟩)
    dsimp only
    rw [S2.2.1]
    rw [snoc_cons] at S2
    exact h J2 (f1.t f2) S2
  · rw [if_neg (by decide), if_pos (by decide)]
    exact m_note hS (by omega) (fun J1 f1 S1 => ⟨rfl, h J1 f1 S1⟩)
  · rw [if_neg (by decide), if_neg (by decide), if_pos (by decide)]
    exact m_note hS (by omega) (fun J1 f1 S1 => ⟨rfl, h J1 f1 S1⟩)
  · rw [if_neg (by decide), if_neg (by decide), if_neg (by decide), if_pos (by decide)]
    refine m_note hS (by omega) (fun J1 f1 S1 => ⟨rfl, m_note S1 (by rw [snoc_len]; omega) (fun J2 f2 S2 => ⟨rfl, ?_⟩)⟩)
    rw [snoc_cons] at S2
    exact h J2 (f1.t f2) S2
  · rw [if_neg (by decide), if_neg (by decide), if_neg (by decide), if_neg (by decide), if_pos (by decide)]
    refine m_note hS (by omega) (fun J1 f1 S1 => ⟨rfl, m_note S1 (by rw [snoc_len]; omega) (fun J2 f2 S2 => ⟨rfl, ?_⟩)⟩)
    dsimp only
    rw [S2.2.1]
    rw [snoc_cons] at S2
    exact h J2 (f1.t f2) S2
  · rw [if_neg (by decide), if_neg (by decide), if_neg (by decide), if_neg (by decide), if_neg (by decide), if_pos (by decide)]
    refine m_note hS (by omega) (fun J1 f1 S1 => ⟨rfl, m_note S1 (by rw [snoc_len]; omega) (fun J2 f2 S2 => ⟨rfl, ?_⟩)⟩)
    rw [snoc_cons] at S2
    exact h J2 (f1.t f2) S2
theorem m_M0 (hk : zle 6 k) (hi : i < 8) (hS : mS J i k a T) (hT : T.length ≤ 16) (h : ∀ J' : zI, frM J J' → mS J' i k a (T ++ m0T k) → Q (some (vI (m0V k (nI i) a x))) J' L) : Call l g 3 M_X7_melts0 [vR 87, vI (nI i), vI x] J L Q := by
  refine m_X7_melts0 (m_note hS (by omega) (fun J1 f1 S1 => ⟨rfl, m_F hk hi S1 (by rw [snoc_len]; omega) (fun J2 f2 S2 => ⟨_, rfl, ?_⟩)⟩))
  rw [snoc_cons] at S2
  exact h J2 (f1.t f2) S2
theorem m_M2 (hk : zle 6 k) (hi : i < 8) (hS : mS J i k a T) (hT : T.length ≤ 15) (h : ∀ J' : zI, frM J J' → mS J' i k a (T ++ m2T k) → Q (some (vI (m2V k (nI i) a x))) J' L) : Call l g 4 M_X7_melts2 [vR 87, vI (nI i), vI x] J L Q := by
  refine m_X7_melts2 (m_note hS (by omega) (fun J1 f1 S1 => ⟨rfl, m_M0 hk hi S1 (by rw [snoc_len]; omega) (fun J2 f2 S2 => ⟨_, rfl, ?_⟩)⟩))
  rw [snoc_cons] at S2
  exact h J2 (f1.t f2) S2
theorem m_M3 (hk : zle 6 k) (hi : i < 8) (hS : mS J i k a T) (hT : T.length ≤ 14) (h : ∀ J' : zI, frM J J' → mS J' i k a (T ++ m3T k) → Q (some (vI (m3V k (nI i) a x))) J' L) : Call l g 5 M_X7_melts3 [vR 87, vI (nI i), vI x] J L Q := by
  refine m_X7_melts3 (m_note hS (by omega) (fun J1 f1 S1 => ⟨rfl, m_M2 hk hi S1 (by rw [snoc_len]; omega) (fun J2 f2 S2 => ⟨_, rfl, ?_⟩)⟩))
  rw [snoc_cons] at S2
  exact h J2 (f1.t f2) S2
theorem m_M (hk : zle 6 k) (hi : i < 8) (hS : mS J i k a T) (hT : T.length ≤ 13) (h : ∀ J' : zI, frM J J' → mS J' i k a (T ++ mT k) → Q (some (vI (mV k (nI i) a x))) J' L) : Call l g 6 M_X7_meltsAct [vR 87, vI (nI i), vI x] J L Q := by
  have i8 : (nI i).toNatClampNeg = i := zcl (by omega)
  refine m_X7_meltsAct ⟨zvin hi (by decide), ?_⟩
  rw [i8, hS.1]
  rcases k7 hk with e | e | e | e | e | e | e <;> subst e
  · rw [if_neg (by decide), if_neg (by decide), if_neg (by decide), if_neg (by decide), if_neg (by decide)]
    exact m_M0 hk hi hS (by omega) (fun J1 f1 S1 => ⟨_, rfl, h J1 f1 S1⟩)
  · rw [if_neg (by decide), if_neg (by decide), if_neg (by decide), if_neg (by decide), if_neg (by decide)]
    exact m_M0 hk hi hS (by omega) (fun J1 f1 S1 => ⟨_, rfl, h J1 f1 S1⟩)
  · rw [if_pos (by decide)]
    exact m_M2 hk hi hS (by omega) (fun J1 f1 S1 => ⟨_, rfl, h J1 f1 S1⟩)
  · rw [if_neg (by decide), if_pos (by decide)]
    exact m_M3 hk hi hS (by omega) (fun J1 f1 S1 => ⟨_, rfl, h J1 f1 S1⟩)
  · rw [if_neg (by decide), if_neg (by decide), if_pos (by decide)]
    exact m_M0 hk hi hS (by omega) (fun J1 f1 S1 => ⟨_, rfl, h J1 f1 S1⟩)
  · rw [if_neg (by decide), if_neg (by decide), if_neg (by decide), if_pos (by decide)]
    exact m_M0 hk hi hS (by omega) (fun J1 f1 S1 => ⟨_, rfl, h J1 f1 S1⟩)
  · rw [if_neg (by decide), if_neg (by decide), if_neg (by decide), if_neg (by decide), if_pos (by decide)]
    refine m_note hS (by omega) (fun J1 f1 S1 => ⟨rfl, ?_⟩)
    dsimp only
    rw [S1.2.1]
    refine m_M3 hk hi S1 (by rw [snoc_len]; omega) (fun J2 f2 S2 => ⟨_, rfl, ?_⟩)
    rw [snoc_cons] at S2
    exact h J2 (f1.t f2) S2
theorem m_S0 (hk : zle 6 k) (hi : i < 8) (hS : mS J i k a T) (hT : T.length ≤ 10) (h : ∀ J' : zI, frM J J' → mS J' i k a (T ++ s0T k) → Q (some (vI (s0V k (nI i) a x))) J' L) : Call l g 7 M_X7_shows0 [vR 87, vI (nI i), vI x] J L Q := by
  have i8 : (nI i).toNatClampNeg = i := zcl (by omega)
  refine m_X7_shows0 (m_note hS (by omega) (fun J1 f1 S1 => ⟨rfl, m_M hk hi S1 (by rw [snoc_len]; omega) (fun J2 f2 S2 => ⟨_, rfl, zvin hi (by decide), ?_⟩)⟩))
  rw [i8, S2.2.1]
  have hl := mT_len hk
  refine m_F hk hi S2 (by rw [List.length_append, snoc_len]; omega) (fun J3 f3 S3 => ⟨_, rfl, ?_⟩)
  rw [List.append_assoc, snoc_cons] at S3
  exact h J3 ((f1.t f2).t f3) S3
theorem m_S (hk : zle 6 k) (hi : i < 8) (hS : mS J i k a T) (hT : T.length ≤ 9) (h : ∀ J' : zI, frM J J' → mS J' i k a (T ++ sT k) → Q (some (vI (sV k (nI i) a x))) J' L) : Call l g 8 M_X7_shows [vR 87, vI (nI i), vI x] J L Q := by
  have i8 : (nI i).toNatClampNeg = i := zcl (by omega)
  refine m_X7_shows ⟨zvin hi (by decide), ?_⟩
  rw [i8, hS.1]
  have low : ¬ k = 4 → ¬ k = 5 → sT k = s0T k → sV k (nI i) a x = s0V k (nI i) a x → Call l g 7 M_X7_shows0 [vR 87, vI (nI i), vI x] J L (zi fun r4 I4 L4 => Q (some (vI r4)) I4 L4) := fun _ _ e1 e2 => m_S0 hk hi hS (by omega) (fun J1 f1 S1 => ⟨_, rfl, by rw [← e2]; rw [← e1] at S1; exact h J1 f1 S1⟩)
  rcases k7 hk with e | e | e | e | e | e | e <;> subst e
  · rw [if_neg (by decide), if_neg (by decide)]
    exact low (by decide) (by decide) rfl rfl
  · rw [if_neg (by decide), if_neg (by decide)]
    exact low (by decide) (by decide) rfl rfl
  · rw [if_neg (by decide), if_neg (by decide)]
    exact low (by decide) (by decide) rfl rfl
  · rw [if_neg (by decide), if_neg (by decide)]
    exact low (by decide) (by decide) rfl rfl
  · rw [if_pos (by decide)]
    refine m_note hS (by omega) (fun J1 f1 S1 => ⟨rfl, m_S0 hk hi S1 (by rw [snoc_len]; omega) (fun J2 f2 S2 => ⟨_, rfl, ?_⟩)⟩)
    rw [snoc_cons] at S2
    exact h J2 (f1.t f2) S2
  · rw [if_neg (by decide), if_pos (by decide)]
    refine m_note hS (by omega) (fun J1 f1 S1 => ⟨rfl, m_S0 hk hi S1 (by rw [snoc_len]; omega) (fun J2 f2 S2 => ⟨_, rfl, ?_⟩)⟩)
    rw [snoc_cons] at S2
    exact h J2 (f1.t f2) S2
  · rw [if_neg (by decide), if_neg (by decide)]
    exact low (by decide) (by decide) rfl rfl
end ZAC
/-- a change of the traces alone -/
theorem Rn_acts {I I' : zI} {L : zL} {n m : Nat} {T : List Int32} (h : Rn I L n m) (hI : ∀ a, a ≠ 84 → a ≠ 85 → a ≠ 87 → a ≠ 99 → I' a = I a) (h87 : ∀ j, j ≠ 20 → I' 87 j = I 87 j) (hC : trC I' T) (hM : trM I' T) (hT : T.length ≤ 20) : Rn I' L n m := by
  obtain ⟨a1, a2, a3, a4, a5, a6⟩ := h
  have e : ∀ a, (a < 84 ∨ 85 < a) → a ≠ 87 → a ≠ 99 → I' a = I a := fun a h1 h2 h3 => hI a (by omega) (by omega) h2 h3
  refine ⟨?_, ?_, ?_, ?_, ?_, ?_⟩
  · unfold RC at *
    rw [e 91 (by omega) (by omega) (by omega), e 92 (by omega) (by omega) (by omega), e 93 (by omega) (by omega) (by omega), e 94 (by omega) (by omega) (by omega), e 95 (by omega) (by omega) (by omega), e 96 (by omega) (by omega) (by omega), e 97 (by omega) (by omega) (by omega), h87 3 (by decide), h87 5 (by decide), h87 12 (by decide), h87 13 (by decide), h87 14 (by decide), h87 15 (by decide), h87 16 (by decide), h87 17 (by decide)]
    exact RS_cong (fun a ha hb => e a (by omega) (by omega) (by omega)) a1
  · unfold RI RO at *
    rw [e 1 (by omega) (by omega) (by omega), h87 22 (by decide), e 100 (by omega) (by omega) (by omega)]
    refine ⟨a2.1, a2.2.imp id (fun ⟨q, n', m', h⟩ => ⟨q, n', m', RS_cong (fun a ha hb => e a (by omega) (by omega) (by omega)) h⟩)⟩
  · intro s hs
    have := a3 s hs
    unfold RSh v_X3_lowestBits at *
    rw [e (66 + 2 * s) (by omega) (by omega) (by omega), e 88 (by omega) (by omega) (by omega), e 89 (by omega) (by omega) (by omega)]
    exact this
  · unfold RF at *
    rw [e 86 (by omega) (by omega) (by omega), e 98 (by omega) (by omega) (by omega)]
    exact a4
  · rw [e 82 (by omega) (by omega) (by omega), h87 18 (by decide)]
    exact a5
  · unfold RA
    rw [hC.1, hM.1, zcl (by omega)]
    exact ⟨rfl, ⟨_, hT, rfl⟩, fun j hj => (hC.2 j hj).trans (hM.2 j hj).symm⟩
theorem sim_act (a1 a2 a3 : Int32) : Sim M_X6_act 52 M_X7_act 9 [vI a1, vI a2, vI a3] := by
  rintro l g I L ⟨n, m, h⟩
  obtain ⟨hW, hN, hn, hm, e2, e2', e3, e3', e4, e5, e6, hf⟩ := Rn_wx h
  refine m_X6_act (m_X0_forget ⟨rfl, ?_⟩)
  have z2 : zs I 84 1 0 2 = I 2 := zs_nec (by decide)
  have epa : v_X4_paneAt (zs I 84 1 0) 2 a1 = v_X4_paneAt I 2 a1 := by unfold v_X4_paneAt; rw [z2]
  dsimp only
  rw [epa]
  have ipa : ∀ J : zI, v_X7_isPane (zs J 87 20 0) a1 = v_X7_isPane J a1 := fun J => by unfold v_X7_isPane; rw [zs_ne (by omega)]
  have ipz : v_X7_isPane (zs I 84 1 0) a1 = v_X7_isPane I a1 := tP (zs_nec (by decide)) a1
  -- nothing runs
  have none_ : (v_X7_isPane I a1 = 0 ∨ (v_X7_isPane I a1 = 1 ∧ v_X7_within a2 0 2 = 0)) → SimQ l g M_X7_act 9 [vR 87, vI a1, vI a2, vI a3] (some (vI 0)) (zs I 84 1 0) L := by
    intro hc
    refine ⟨_, rfl, m_X7_act ?_⟩
    rintro I1 rfl
    rw [ipa, ipz]
    have R1 : R (zs (zs I 84 1 0) 87 20 0) L := ⟨n, m, Rn_acts (T := []) h (fun a h1 h2 h3 h4 => by rw [zs_nec h3, zs_nec h1]) (fun j hj => by rw [zs_ne (fun z => hj z.2), zs_nec (by decide)]) ⟨by rw [zs_nec (by decide), zs_same]; rfl, fun j hj => absurd hj (Nat.not_lt_zero _)⟩ ⟨by rw [zs_same]; rfl, fun j hj => absurd hj (Nat.not_lt_zero _)⟩ (by decide)⟩
    rcases hc with hc | ⟨hc, hc2⟩
    · rw [if_pos hc]
      exact ⟨_, rfl, rfl, R1⟩
    · rw [if_neg (ne0 hc), if_pos hc2]
      exact ⟨_, rfl, rfl, R1⟩
  rcases pane_cases hm e3 e3' a1 with ⟨c1, c2⟩ | ⟨i, hi, rfl, c1, c2⟩
  · rw [if_pos c1]
    exact none_ (Or.inl c2)
  rw [if_neg (by rw [c1]; omega), c1]
  have isact : v_X0_isAct a2 = v_X7_within a2 0 2 := rfl
  rcases may_cases a2 2 (by decide) with ⟨w, w2⟩ | ⟨⟨t, ht, et⟩, w1, w2, w4⟩
  · rw [if_pos (show v_X0_isAct a2 = 0 from w2)]
    exact none_ (Or.inr ⟨c2, w2⟩)
  rw [if_neg (show ¬ v_X0_isAct a2 = 0 from ne0 w4)]
  have w4' : ¬ v_X7_within a2 0 2 = 0 := ne0 w4
  obtain ⟨⟨i8, z0, z1, z2'⟩, p0, p1, p2, p3, p4, p5, p6⟩ := Rn_pane h hi
  refine m_X0_perform ⟨zshP i i8, ?_⟩
  rw [zs_nec (show 5 + 2 * i ≠ 84 by omega), p0]
  intro I2 e2a I3 e3a
  have q3 : I3 (5 + 2 * i) 2 = I 94 i := by rw [e3a, zs_nec (by omega), e2a, zs_nec (by omega), zs_nec (by omega)]; exact p2
  rw [q3]
  intro I4 e4a
  have f4 : ∀ b, b ≠ 84 → I4 b = I b := fun b hb => by rw [e4a, zs_nec hb, e3a, zs_nec hb, e2a, zs_nec hb, zs_nec hb]
  have S0 : cS I4 (I 92 i) (nI i) (I 94 i) [] := by
    refine ⟨?_, ?_, ?_, ?_, fun j hj => absurd hj (Nat.not_lt_zero _)⟩
    · rw [e4a, zs_ne (by omega), e3a, zs_ne (by omega), e2a, zs_same]
    · rw [e4a, zs_ne (by omega), e3a, zs_same]
    · rw [e4a, zs_same]
    · rw [e4a, zs_ne (by omega), e3a, zs_ne (by omega), e2a, zs_ne (by omega), zs_same]; rfl
  rw [S0.1]
  -- behind the class's run
  have fin : ∀ (J : zI) (T : List Int32) (v : Int32), frC I4 J → cS J (I 92 i) (nI i) (I 94 i) T → T.length ≤ 10 → (∀ J1 : zI, J1 = zs J 87 20 0 → mS J1 i (I 92 i) (I 94 i) [] → ∀ Q' : Option zv → zI → zL → Prop, (∀ J2 : zI, frM J1 J2 → mS J2 i (I 92 i) (I 94 i) T → Q' (some (vI v)) J2 L) → if a2 = 0 then (Call l g 2 M_X7_freezes [vR 87, vI (nI i), vI a3] J1 L (zi fun r8 I8 L8 => Q' (some (vI r8)) I8 L8)) else (if a2 = 1 then (Call l g 6 M_X7_meltsAct [vR 87, vI (nI i), vI a3] J1 L (zi fun r7 I7 L7 => Q' (some (vI r7)) I7 L7)) else (Call l g 8 M_X7_shows [vR 87, vI (nI i), vI a3] J1 L (zi fun r6 I6 L6 => Q' (some (vI r6)) I6 L6)))) → SimQ l g M_X7_act 9 [vR 87, vI (nI i), vI a2, vI a3] (some (vI v)) J L := by
    intro J T v hf hS hT hrun
    refine ⟨_, rfl, m_X7_act ?_⟩
    intro I1 eI1
    have j87 : J 87 = I 87 := by rw [hf 87 (by decide) (by decide), f4 87 (by decide)]
    rw [if_neg (show ¬ v_X7_isPane I1 (nI i) = 0 from by rw [eI1, ipa, tP j87]; exact ne0 c2), if_neg w4']
    have hm0 : mS I1 i (I 92 i) (I 94 i) [] := by
      refine ⟨?_, ?_, ?_, fun j hj => absurd hj (Nat.not_lt_zero _)⟩
      · rw [eI1, zs_nec (by decide), hf 92 (by decide) (by decide), f4 92 (by decide)]
      · rw [eI1, zs_nec (by decide), hf 94 (by decide) (by decide), f4 94 (by decide)]
      · rw [eI1, zs_same]; rfl
    refine hrun I1 eI1 hm0 _ (fun J2 fM SM => ⟨_, rfl, rfl, n, m, Rn_acts (T := T) h (fun b h1 h2 h3 h4 => by rw [fM.1 b h3 h4, eI1, zs_nec h3, hf b h1 h2]; exact f4 b h1) (fun j hj => by rw [fM.2 j hj, eI1, zs_ne (fun z => hj z.2), j87]) ⟨?_, fun j hj => ?_⟩ SM.2.2 (by omega)⟩)
    · rw [fM.1 84 (by decide) (by decide), eI1, zs_nec (by decide)]; exact hS.2.2.2.1
    · rw [fM.1 85 (by decide) (by decide), eI1, zs_nec (by decide)]; exact hS.2.2.2.2 j hj
  have ht3 : t = 0 ∨ t = 1 ∨ t = 2 := by omega
  rcases ht3 with rfl | rfl | rfl <;> subst et
  · refine c_F (d := 48) (dp := 0) z0 z0 (by decide) (by decide) S0 (by decide) (fun J1 f1 S1 => ⟨_, rfl, _, rfl, fin J1 _ _ f1 S1 ?_ (fun J2 _ hm0 Q' hq => ?_)⟩)
    · rw [List.nil_append]; have := fT_len z0; omega
    · rw [if_pos (by decide)]
      exact m_F z0 i8 hm0 (by decide) (fun J3 f3 S3 => ⟨_, rfl, hq J3 f3 S3⟩)
  · refine c_M (d := 44) (dp := 0) z0 (by decide) (by decide) S0 (by decide) (fun J1 f1 S1 => ⟨_, rfl, _, rfl, fin J1 _ _ f1 S1 ?_ (fun J2 _ hm0 Q' hq => ?_)⟩)
    · rw [List.nil_append]; have := mT_len z0; omega
    · rw [if_neg (by decide), if_pos (by decide)]
      exact m_M z0 i8 hm0 (by decide) (fun J3 f3 S3 => ⟨_, rfl, hq J3 f3 S3⟩)
  · refine c_S (d := 42) (dp := 0) z0 (by decide) (by decide) S0 (by decide) (fun J1 f1 S1 => ⟨_, rfl, _, rfl, fin J1 _ _ f1 S1 ?_ (fun J2 _ hm0 Q' hq => ?_)⟩)
    · rw [List.nil_append]; have := sT_len z0; omega
    · rw [if_neg (by decide), if_neg (by decide)]
      exact m_S z0 i8 hm0 (by decide) (fun J3 f3 S3 => ⟨_, rfl, hq J3 f3 S3⟩)
