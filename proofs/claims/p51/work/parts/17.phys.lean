theorem fb_rng (x : Int32) : -2147483648 ≤ x.toInt ∧ x.toInt < 2147483648 := by
  have h1 := Int32.le_toInt x
  have h2 := Int32.toInt_lt x
  omega
theorem fb_bmod {z : Int} (h1 : -2147483648 ≤ z) (h2 : z < 2147483648) : z.bmod (2 ^ 32) = z := by
  rw [Int.bmod_eq_of_le (by omega) (by omega)]
theorem fb_addI {x y : Int32} (h1 : -2147483648 ≤ x.toInt + y.toInt) (h2 : x.toInt + y.toInt < 2147483648) : (x + y).toInt = x.toInt + y.toInt := by
  rw [Int32.toInt_add, fb_bmod h1 h2]
theorem fb_subI {x y : Int32} (h1 : -2147483648 ≤ x.toInt - y.toInt) (h2 : x.toInt - y.toInt < 2147483648) : (x - y).toInt = x.toInt - y.toInt := by
  rw [Int32.toInt_sub, fb_bmod h1 h2]
theorem fb_mulI {x y : Int32} (h1 : -2147483648 ≤ x.toInt * y.toInt) (h2 : x.toInt * y.toInt < 2147483648) : (x * y).toInt = x.toInt * y.toInt := by
  rw [Int32.toInt_mul, fb_bmod h1 h2]
theorem fb_negI {x : Int32} (h : x.toInt ≠ -2147483648) : (-x).toInt = -x.toInt := by
  have := fb_rng x
  rw [Int32.toInt_neg, fb_bmod (by omega) (by omega)]
theorem fb_ofI {z : Int} (h1 : -2147483648 ≤ z) (h2 : z < 2147483648) : (Int32.ofInt z).toInt = z := by
  rw [Int32.toInt_ofInt, fb_bmod h1 h2]
theorem fb_asI (x : Int32) : Int32.ofInt x.toInt = x := Int32.ofInt_toInt x
/-! FROST AND MELTING, over values -/
theorem i_lt {x y : Int32} : x < y ↔ x.toInt < y.toInt := Int32.lt_iff_toInt_lt
theorem i_eq {x y : Int32} : x = y ↔ x.toInt = y.toInt := Int32.toInt_inj.symm
theorem lt1 {x : Int32} : x < 1 ↔ ¬ 0 < x := by
  rw [i_lt, i_lt, show (1 : Int32).toInt = 1 from rfl, show (0 : Int32).toInt = 0 from rfl]
  omega
theorem lt_lit {x a b : Int32} (h : b.toInt = a.toInt + 1) : a < x ↔ ¬ x < b := by
  rw [i_lt, i_lt, h]
  omega
theorem jmax0 (x : Int32) : jmax 0 x = jmax x 0 := by
  unfold jmax
  by_cases h : x < 0
  · rw [if_pos h, if_neg (by rw [i_lt] at *; rw [show (0 : Int32).toInt = 0 from rfl] at *; omega)]
  · rw [if_neg h]
    by_cases h2 : 0 < x
    · rw [if_pos h2]
    · rw [if_neg h2]
      rw [i_eq]
      rw [i_lt, show (0 : Int32).toInt = 0 from rfl] at *
      omega
theorem jmin_c (x y : Int32) : jmin x y = jmin y x := by
  unfold jmin
  by_cases h : x < y
  · rw [if_pos h, if_neg (by rw [i_lt] at *; omega)]
  · rw [if_neg h]
    by_cases h2 : y < x
    · rw [if_pos h2]
    · rw [if_neg h2, i_eq]
      rw [i_lt] at *
      omega
theorem n_toInt {n : Nat} (h : n < 2147483648) : (nI n).toInt = n := nI_toInt h
theorem n_sub {a b : Nat} (ha : a < 2147483648) (hb : b < 2147483648) : (nI a - nI b).toInt = (a : Int) - b := by
  rw [fb_subI (by rw [n_toInt ha, n_toInt hb]; omega) (by rw [n_toInt ha, n_toInt hb]; omega), n_toInt ha, n_toInt hb]
theorem n_max {a b : Nat} (ha : a < 2147483648) (hb : b < 2147483648) : jmax (nI a - nI b) 0 = nI (a - b) := by
  unfold jmax
  have e := n_sub ha hb
  rw [i_eq]
  by_cases h : nI a - nI b < 0
  · rw [if_pos h, n_toInt (by omega)]
    rw [i_lt, e, show (0 : Int32).toInt = 0 from rfl] at h
    rw [show (0 : Int32).toInt = 0 from rfl]
    omega
  · rw [if_neg h, n_toInt (by omega), e]
    rw [i_lt, e, show (0 : Int32).toInt = 0 from rfl] at h
    omega
theorem n_lt {a b : Nat} (ha : a < 2147483648) (hb : b < 2147483648) : nI a < nI b ↔ a < b := by
  rw [i_lt, n_toInt ha, n_toInt hb]
  omega
theorem n_eq {a b : Nat} (ha : a < 2147483648) (hb : b < 2147483648) : nI a = nI b ↔ a = b := by
  rw [i_eq, n_toInt ha, n_toInt hb]
  omega
def fCC (k a cold : Int32) : Int32 := if ofl 7 k 2 = 0 then cold else jmax (cold - a) 0
def fSh (k a cold wet : Int32) : Int32 := if ofl 7 k 1 = 0 then fCC k a cold * wet / 20 else if fCC k a cold * wet / 20 < 1 then fCC k a cold * wet / 20 else fCC k a cold * wet / 20 + a
def fPat (k a form : Int32) : Int32 := if k = 5 then form ||| jshl 15 (4 * jrem a 4) else if k = 6 then form &&& 4095 else form
def fFr (k scr pat whole wet y : Int32) : Int32 := if v_X1_hasCell scr y = 0 then if v_X1_hasCell pat y = 0 then if (if wet < 6 then 0 else if bc (pat &&& v_X1_cellsBeside y) < 3 then 0 else (1 : Int32)) = 0 then 0 else if (if k = 6 then if y < 12 then 0 else (1 : Int32) else (0 : Int32)) = 0 then whole / 2 else (0 : Int32) else whole else (0 : Int32)
def fMe (k room a h out : Int32) : Int32 := if k = 4 then if h < a then if ofl 7 k 3 = 0 then out + room / 3 else out + room else (if ofl 7 k 3 = 0 then out + room / 3 else out + room) + 3 else if ofl 7 k 3 = 0 then out + room / 3 else out + room
theorem c_cc (I : zI) (p : Nat) (cold : Int32) : v_X1_countedCold I p cold = fCC (I p 0) (I p 2) cold := rfl
theorem c_sh (I : zI) (p : Nat) (cold wet : Int32) : v_X1_sharpness I p cold wet = fSh (I p 0) (I p 2) cold wet := rfl
theorem c_pat (I : zI) (p : Nat) (form : Int32) : v_X1_patternWith I p form = fPat (I p 0) (I p 2) form := rfl
theorem c_fr (I : zI) (p : Nat) (y pat whole wet : Int32) : v_X1_freshIce I p y pat whole wet = fFr (I p 0) (I p 4) pat whole wet y := rfl
theorem c_me (I : zI) (p : Nat) (h out : Int32) : v_X1_melting I p h out = fMe (I p 0) (I p 1) (I p 2) h out := rfl
theorem k7 {k : Int32} (h : zle 6 k) : k = nI 0 ∨ k = nI 1 ∨ k = nI 2 ∨ k = nI 3 ∨ k = nI 4 ∨ k = nI 5 ∨ k = nI 6 := by
  obtain ⟨n, hn, rfl⟩ := h
  have : n = 0 ∨ n = 1 ∨ n = 2 ∨ n = 3 ∨ n = 4 ∨ n = 5 ∨ n = 6 := by omega
  rcases this with rfl | rfl | rfl | rfl | rfl | rfl | rfl <;> simp
/-- melting: a row of ice an hour on -/
def mel (m : Int32) (f : Nat → Int32) (c : Nat) : Int32 := if 0 < m then (if frost f 16 = 0 then f c else jmax (f c - (if v_X1_hasCell (((jshl (frost f 16) 1) &&& (jshr (frost f 16) 1)) &&& 26214) (nI c) = 0 then m + 1 else m)) 0) else f c
theorem ts_nf9 {x : Bool} (h : ¬ x = true) : x = false := by cases x <;> simp_all
