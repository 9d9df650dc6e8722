theorem fb_rng (x : Int32) : -2147483648 ≤ x.toInt ∧ x.toInt < 2147483648 := by
  have h1 := Int32.le_toInt x
  have h2 := Int32.toInt_lt x
  omega
theorem fb_bmod {z : Int} (h1 : -2147483648 ≤ z) (h2 : z < 2147483648) : z.bmod (2 ^ 32) = z := by
  rw [Int.bmod_eq_of_le (by omega) (by omega)]
theorem fb_addI {x y : Int32} (h1 : -2147483648 ≤ x.toInt + y.toInt) (h2 : x.toInt + y.toInt < 2147483648) : (x + y).toInt = x.toInt + y.toInt := by
  rw [Int32.toInt_add, fb_bmod h1 h2]
theorem fb_subI {x y : Int32} (h1 : -2147483648 ≤ x.toInt - y.toInt) (h2 : x.toInt - y.toInt < 2147483648) : (x - y).toInt = x.toInt - y.toInt := by
  rw [Int32.toInt_sub, fb_bmod h1 h2]
theorem fb_mulI {x y : Int32} (h1 : -2147483648 ≤ x.toInt * y.toInt) (h2 : x.toInt * y.toInt < 2147483648) : (x * y).toInt = x.toInt * y.toInt := by
  rw [Int32.toInt_mul, fb_bmod h1 h2]
theorem fb_negI {x : Int32} (h : x.toInt ≠ -2147483648) : (-x).toInt = -x.toInt := by
  have := fb_rng x
  rw [Int32.toInt_neg, fb_bmod (by omega) (by omega)]
theorem fb_ofI {z : Int} (h1 : -2147483648 ≤ z) (h2 : z < 2147483648) : (Int32.ofInt z).toInt = z := by
  rw [Int32.toInt_ofInt, fb_bmod h1 h2]
theorem fb_asI (x : Int32) : Int32.ofInt x.toInt = x := Int32.ofInt_toInt x
/-! FROST AND MELTING, over values -/
theorem i_lt {x y : Int32} : x < y ↔ x.toInt < y.toInt := Int32.lt_iff_toInt_lt
theorem i_eq {x y : Int32} : x = y ↔ x.toInt = y.toInt := Int32.toInt_inj.symm
theorem lt1 {x : Int32} : x < 1 ↔ ¬ 0 < x := by
  rw [i_lt, i_lt, show (1 : Int32).toInt = 1 from rfl, show (0 : Int32).toInt = 0 from rfl]
  omega
theorem lt_lit {x a b : Int32} (h : b.toInt = a.toInt + 1) : a < x ↔ ¬ x < b := by
  rw [i_lt, i_lt, h]
  omega
theorem jmax0 (x : Int32) : jmax 0 x = jmax x 0 := by
  unfold jmax
  by_cases h : x < 0
  · rw [if_pos h, if_neg (by rw [i_lt] at *; rw [show (0 : Int32).toInt = 0 from rfl] at *; omega)]
  · rw [if_neg h]
    by_cases h2 : 0 < x
    · rw [if_pos h2]
    · rw [if_neg h2]
      rw [i_eq]
      rw [i_lt, show (0 : Int32).toInt = 0 from rfl] at *
      omega
theorem jmin_c (x y : Int32) : jmin x y = jmin y x := by
  unfold jmin
  by_cases h : x < y
  · rw [if_pos h, if_neg (by rw [i_lt] at *; omega)]
  · rw [if_neg h]
    by_cases h2 : y < x
    · rw [if_pos h2]
    · rw [if_neg h2, i_eq]
      rw [i_lt] at *
      omega
theorem n_toInt {n : Nat} (h : n < 2147483648) : (nI n).toInt = n := nI_toInt h
theorem n_sub {a b : Nat} (ha : a < 2147483648) (hb : b < 2147483648) : (nI a - nI b).toInt = (a : Int) - b := by
  rw [fb_subI (by rw [n_toInt ha, n_toInt hb]; omega) (by rw [n_toInt ha, n_toInt hb]; omega), n_toInt ha, n_toInt hb]
theorem n_max {a b : Nat} (ha : a < 2147483648) (hb : b < 2147483648) : jmax (nI a - nI b) 0 = nI (a - b) := by
  unfold jmax
  have e := n_sub ha hb
  rw [i_eq]
  by_cases h : nI a - nI b < 0
  · rw [if_pos h, n_toInt (by omega)]
    rw [i_lt, e, show (0 : Int32).toInt = 0 from rfl] at h
    rw [show (0 : Int32).toInt = 0 from rfl]
    omega
  · rw [if_neg h, n_toInt (by omega), e]
    rw [i_lt, e, show (0 : Int32).toInt = 0 from rfl] at h
    omega
theorem n_lt {a b : Nat} (ha : a < 2147483648) (hb : b < 2147483648) : nI a < nI b ↔ a < b := by
  rw [i_lt, n_toInt ha, n_toInt hb]
  omega
theorem n_eq {a b : Nat} (ha : a < 2147483648) (hb : b < 2147483648) : nI a = nI b ↔ a = b := by
  rw [i_eq, n_toInt ha, n_toInt hb]
  omega
def fCC (k a cold : Int32) : Int32 := if ofl 7 k 2 = 0 then cold else jmax (cold - a) 0
def fSh (k a cold wet : Int32) : Int32 := if ofl 7 k 1 = 0 then fCC k a cold * wet / 20 else if fCC k a cold * wet / 20 < 1 then fCC k a cold * wet / 20 else fCC k a cold * wet / 20 + a
def fPat (k a form : Int32) : Int32 := if k = 5 then form ||| jshl 15 (4 * jrem a 4) else if k = 6 then form &&& 4095 else form
def fFr (k scr pat whole wet y : Int32) : Int32 := if v_X1_hasCell scr y = 0 then if v_X1_hasCell pat y = 0 then if (if wet < 6 then 0 else if bc (pat &&& v_X1_cellsBeside y) < 3 then 0 else (1 : Int32)) = 0 then 0 else if (if k = 6 then if y < 12 then 0 else (1 : Int32) else (0 : Int32)) = 0 then whole / 2 else (0 : Int32) else whole else (0 : Int32)
def fMe (k room a h out : Int32) : Int32 := if k = 4 then if h < a then if ofl 7 k 3 = 0 then out + room / 3 else out + room else (if ofl 7 k 3 = 0 then out + room / 3 else out + room) + 3 else if ofl 7 k 3 = 0 then out + room / 3 else out + room
theorem c_cc (I : zI) (p : Nat) (cold : Int32) : v_X1_countedCold I p cold = fCC (I p 0) (I p 2) cold := rfl
theorem c_sh (I : zI) (p : Nat) (cold wet : Int32) : v_X1_sharpness I p cold wet = fSh (I p 0) (I p 2) cold wet := rfl
theorem c_pat (I : zI) (p : Nat) (form : Int32) : v_X1_patternWith I p form = fPat (I p 0) (I p 2) form := rfl
theorem c_fr (I : zI) (p : Nat) (y pat whole wet : Int32) : v_X1_freshIce I p y pat whole wet = fFr (I p 0) (I p 4) pat whole wet y := rfl
theorem c_me (I : zI) (p : Nat) (h out : Int32) : v_X1_melting I p h out = fMe (I p 0) (I p 1) (I p 2) h out := rfl
theorem k7 {k : Int32} (h : zle 6 k) : k = nI 0 ∨ k = nI 1 ∨ k = nI 2 ∨ k = nI 3 ∨ k = nI 4 ∨ k = nI 5 ∨ k = nI 6 := by
  obtain ⟨n, hn, rfl⟩ := h
  have : n = 0 ∨ n = 1 ∨ n = 2 ∨ n = 3 ∨ n = 4 ∨ n = 5 ∨ n = 6 := by omega
  rcases this with rfl | rfl | rfl | rfl | rfl | rfl | rfl <;> simp
theorem m_sh {I : zI} {i : Int32} (h : zle 6 (I 92 i.toNatClampNeg)) : v_X7_sharp I i = fSh (I 92 i.toNatClampNeg) (I 94 i.toNatClampNeg) (I 87 12) (I 87 13) := by
  unfold v_X7_sharp fSh fCC
  simp only [jmax0, lt1, ite_not]
  rcases k7 h with e | e | e | e | e | e | e <;> rw [e] <;> simp (decide := true) only [if_true, if_false]
theorem m_pat (I : zI) (i l : Int32) : v_X7_pattern I i l = fPat (I 92 i.toNatClampNeg) (I 94 i.toNatClampNeg) (if l = -1 then 0 else I 91 l.toNatClampNeg) := by
  unfold v_X7_pattern fPat
  by_cases h6 : I 92 i.toNatClampNeg = 6
  · rw [h6]
    simp (decide := true) only [if_true, if_false]
  · rw [if_neg h6, if_neg h6]
theorem m_me {I : zI} {i hh : Int32} (h : zle 6 (I 92 i.toNatClampNeg)) : v_X7_melts I i hh = fMe (I 92 i.toNatClampNeg) (I 93 i.toNatClampNeg) (I 94 i.toNatClampNeg) hh (I 87 14) := by
  unfold v_X7_melts fMe
  rcases k7 h with e | e | e | e | e | e | e <;> rw [e] <;> simp (decide := true) only [if_true, if_false]
/-- the reference's fresh ice -/
def mFr (k scr pat whole wet y : Int32) : Int32 := if ((jshr scr y) &&& 1) = 1 then 0 else if ((jshr pat y) &&& 1) = 1 then whole else if (if 5 < wet then if 2 < mb2 pat y then if k = 6 then if y < 12 then 1 else (0 : Int32) else (1 : Int32) else (0 : Int32) else (0 : Int32)) = 0 then 0 else (whole / 2)
theorem m_fr {k scr pat whole wet : Int32} {c : Nat} (hc : c < 16) : mFr k scr pat whole wet (nI c) = fFr k scr pat whole wet (nI c) := by
  unfold mFr fFr
  rw [mb_all pat hc, hasCell_bit (show c < 32 by omega) rfl, hasCell_bit (show c < 32 by omega) rfl, cellbit (show c < 32 by omega) rfl, cellbit (show c < 32 by omega) rfl]
  simp only [lt_lit (x := wet) (a := 5) (b := 6) rfl, lt_lit (x := bc (pat &&& v_X1_cellsBeside (nI c))) (a := 2) (b := 3) rfl]
  cases bt scr c <;> cases bt pat c <;> simp (decide := true) only [if_true, if_false, Bool.false_eq_true]
  by_cases h1 : wet < 6
  · simp (decide := true) only [h1, if_true, if_false, not_true_eq_false]
  · by_cases h2 : bc (pat &&& v_X1_cellsBeside (nI c)) < 3
    · simp (decide := true) only [h1, h2, if_true, if_false, not_true_eq_false, not_false_eq_true]
    · by_cases h3 : k = 6
      · by_cases h4 : nI c < 12
        · simp (decide := true) only [h1, h2, h3, h4, if_true, if_false, not_true_eq_false, not_false_eq_true]
        · simp (decide := true) only [h1, h2, h3, h4, if_true, if_false, not_true_eq_false, not_false_eq_true]
      · simp (decide := true) only [h1, h2, h3, if_true, if_false, not_true_eq_false, not_false_eq_true]
/-- melting: a row of ice an hour on -/
def mel (m : Int32) (f : Nat → Int32) (c : Nat) : Int32 := if 0 < m then (if frost f 16 = 0 then f c else jmax (f c - (if v_X1_hasCell (((jshl (frost f 16) 1) &&& (jshr (frost f 16) 1)) &&& 26214) (nI c) = 0 then m + 1 else m)) 0) else f c
def mOp (f : Nat → Int32) (c : Nat) : Int32 := if (jrem (nI c) 4) = 0 then 1 else if (jrem (nI c) 4) = 3 then 1 else if f (c - 1) = 0 then 1 else if f (c + 1) = 0 then 1 else (0 : Int32)
def mMel (m : Int32) (f : Nat → Int32) (c : Nat) : Int32 := jmax 0 ((f c - m) - (if 0 < m then if mOp f c = 0 then 0 else (1 : Int32) else (0 : Int32)))
theorem ts_nf9 {x : Bool} (h : ¬ x = true) : x = false := by cases x <;> simp_all
theorem inn_tab : ∀ c, c < 16 → bt 26214 c = (decide (¬ jrem (nI c) 4 = 0) && decide (¬ jrem (nI c) 4 = 3)) ∧ (bt 26214 c = true → 1 ≤ c ∧ c + 1 < 16) := by decide +kernel
theorem clo_bit {f : Nat → Int32} {c : Nat} (hc : c < 16) (hf : ∀ j, j < 16 → zle 20 (f j)) : v_X1_hasCell (((jshl (frost f 16) 1) &&& (jshr (frost f 16) 1)) &&& 26214) (nI c) = if mOp f c = 0 then 1 else 0 := by
  rw [hasCell_bit (show c < 32 by omega) rfl, b_and, b_and]
  obtain ⟨t1, t2⟩ := inn_tab c hc
  unfold mOp
  by_cases hin : bt 26214 c = true
  · obtain ⟨h1, h2⟩ := t2 hin
    rw [hin] at t1
    have t3 : ¬ jrem (nI c) 4 = 0 ∧ ¬ jrem (nI c) 4 = 3 := by simpa using t1.symm
    rw [if_neg t3.1, if_neg t3.2]
    have e1 : bt (jshl (frost f 16) 1) c = decide (0 < f (c - 1)) := by
      show bt (frost f 16 <<< (nI 1 &&& 31)) c = _
      rw [b_shl 1 (by decide) _ (show c < 32 by omega), frost_bt f 16 (by decide) (c - 1) (by omega)]
      simp [h1, show c - 1 < 16 by omega]
    have e2 : bt (jshr (frost f 16) 1) c = decide (0 < f (c + 1)) := by
      show bt (frost f 16 >>> (nI 1 &&& 31)) c = _
      rw [b_sshr 1 (by decide) _ (show c < 32 by omega), if_pos (by omega), frost_bt f 16 (by decide) (1 + c) (by omega), Nat.add_comm 1 c]
      simp [h2]
    rw [e1, e2, hin]
    have z : ∀ j, j < 16 → (0 < f j ↔ ¬ f j = 0) := by
      intro j hj
      obtain ⟨v, hv, e⟩ := hf j hj
      rw [e, show (0 : Int32) = nI 0 from rfl, n_lt (by omega) (by omega), n_eq (by omega) (by omega)]
      omega
    by_cases a1 : f (c - 1) = 0
    · have b1 : ¬ 0 < f (c - 1) := fun h => (z (c - 1) (by omega)).mp h a1
      simp (decide := true) [a1]
    · have b1 : 0 < f (c - 1) := (z (c - 1) (by omega)).mpr a1
      by_cases a2 : f (c + 1) = 0
      · simp (decide := true) [a1, a2]
      · have b2 : 0 < f (c + 1) := (z (c + 1) (by omega)).mpr a2
        simp (decide := true) [a1, a2, b1, b2]
  · rw [ts_nf9 hin] at t1 ⊢
    rw [Bool.and_false]
    by_cases h0 : jrem (nI c) 4 = 0
    · rw [if_pos h0]; rfl
    · by_cases h3 : jrem (nI c) 4 = 3
      · rw [if_neg h0, if_pos h3]; rfl
      · simp [h0, h3] at t1
theorem m_mel {m : Int32} {f : Nat → Int32} {c : Nat} (hc : c < 16) (hf : ∀ j, j < 16 → zle 20 (f j)) (hm : zle 30 m) : mMel m f c = mel m f c := by
  unfold mMel mel
  rw [clo_bit hc hf]
  obtain ⟨b, hb, rfl⟩ := hm
  obtain ⟨v, hv, e⟩ := hf c hc
  rw [e]
  by_cases h0 : 0 < nI b
  · rw [if_pos h0, if_pos h0, jmax0]
    by_cases hfr : frost f 16 = 0
    · rw [if_pos hfr]
      have := (frost_0 (by decide)).mp hfr c hc
      rw [e, show (0 : Int32) = nI 0 from rfl, n_lt (by omega) (by omega)] at this
      obtain rfl : v = 0 := by omega
      have e2 : nI 0 - nI b - (if mOp f c = 0 then 0 else 1) = nI 0 - nI (b + (if mOp f c = 0 then 0 else 1)) := by
        split
        · rw [i_eq, show nI 0 - nI b - 0 = nI 0 - nI b from Int32.sub_zero _]; rfl
        · rw [i_eq, fb_subI (by rw [n_sub (by omega) (by omega)]; show _ ≤ _ - (1 : Int); omega) (by rw [n_sub (by omega) (by omega)]; show _ - (1 : Int) < _; omega), n_sub (by omega) (by omega), n_sub (by omega) (by omega)]
          show (0 : Int) - b - 1 = 0 - ((b + 1 : Nat) : Int)
          omega
      rw [e2, n_max (by omega) (by split <;> omega)]
      simp
    · rw [if_neg hfr]
      by_cases ho : mOp f c = 0
      · rw [if_pos ho, if_pos ho, if_neg (by decide), show nI v - nI b - 0 = nI v - nI b from Int32.sub_zero _]
      · rw [if_neg ho, if_neg ho, if_pos rfl, ← nI_succ]
        congr 1
        rw [i_eq, fb_subI (by rw [n_sub (by omega) (by omega)]; show _ ≤ _ - (1 : Int); omega) (by rw [n_sub (by omega) (by omega)]; show _ - (1 : Int) < _; omega), n_sub (by omega) (by omega), n_sub (by omega) (by omega)]
        show (v : Int) - b - 1 = v - ((b + 1 : Nat) : Int)
        omega
  · rw [if_neg h0, if_neg h0]
    have : b = 0 := by
      rw [show (0 : Int32) = nI 0 from rfl, n_lt (by omega) (by omega)] at h0
      omega
    subst this
    rw [jmax0, show nI v - nI 0 - 0 = nI v - nI 0 from Int32.sub_zero _, n_max (by omega) (by omega)]
    rfl
