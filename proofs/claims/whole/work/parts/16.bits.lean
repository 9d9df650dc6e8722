def bt (x : Int32) (i : Nat) : Bool := x.toBitVec.getLsbD i
theorem b_ext {x y : Int32} (h : ∀ i, i < 32 → bt x i = bt y i) : x = y := Int32.toBitVec_inj.mp (BitVec.eq_of_getLsbD_eq (fun i hi => h i hi))
theorem b_or (x y : Int32) (i : Nat) : bt (x ||| y) i = (bt x i || bt y i) := by unfold bt; rw [Int32.toBitVec_or, BitVec.getLsbD_or]
theorem b_and (x y : Int32) (i : Nat) : bt (x &&& y) i = (bt x i && bt y i) := by unfold bt; rw [Int32.toBitVec_and, BitVec.getLsbD_and]
theorem b_xor (x y : Int32) (i : Nat) : bt (x ^^^ y) i = (bt x i ^^ bt y i) := by unfold bt; rw [Int32.toBitVec_xor, BitVec.getLsbD_xor]
theorem b_big {x : Int32} {i : Nat} (h : 32 ≤ i) : bt x i = false := BitVec.getLsbD_of_ge _ _ h
theorem b_255 (i : Nat) : bt 255 i = decide (i < 8) := by
  rcases Nat.lt_or_ge i 32 with h | h
  · exact (by decide +kernel : ∀ i, i < 32 → bt 255 i = decide (i < 8)) i h
  · rw [b_big h, decide_eq_false (by omega)]
theorem b_65535 (i : Nat) : bt 65535 i = decide (i < 16) := by
  rcases Nat.lt_or_ge i 32 with h | h
  · exact (by decide +kernel : ∀ i, i < 32 → bt 65535 i = decide (i < 16)) i h
  · rw [b_big h, decide_eq_false (by omega)]
theorem b_m1 : ∀ i, i < 32 → bt (-1) i = true := by decide +kernel
theorem b_0 (i : Nat) : bt 0 i = false := BitVec.getLsbD_zero
theorem s_l : ∀ n, n < 32 → ((nI n &&& 31).toBitVec.smod 32).toNat = n := by decide +kernel
theorem s_u : ∀ n, n < 32 → (((nI n).toUInt32 &&& Int32.toUInt32 31).toBitVec % 32).toNat = n := by decide +kernel
theorem b_shl (n : Nat) (hn : n < 32) (x : Int32) {i : Nat} (hi : i < 32) : bt (x <<< (nI n &&& 31)) i = (decide (n ≤ i) && bt x (i - n)) := by
  unfold bt
  rw [Int32.toBitVec_shiftLeft]
  show (x.toBitVec <<< ((nI n &&& 31).toBitVec.smod 32).toNat).getLsbD i = _
  rw [s_l n hn, BitVec.getLsbD_shiftLeft]
  rcases Nat.lt_or_ge i n with h | h
  · simp [h, Nat.not_le.mpr h]
  · simp [hi, h, Nat.not_lt.mpr h]
theorem b_ushr (n : Nat) (hn : n < 32) (x : Int32) (i : Nat) : bt ((x.toUInt32 >>> ((nI n).toUInt32 &&& Int32.toUInt32 31)).toInt32) i = bt x (n + i) := by
  show (x.toUInt32 >>> ((nI n).toUInt32 &&& Int32.toUInt32 31)).toBitVec.getLsbD i = x.toUInt32.toBitVec.getLsbD (n + i)
  rw [UInt32.toBitVec_shiftRight]
  show (x.toUInt32.toBitVec >>> (((nI n).toUInt32 &&& Int32.toUInt32 31).toBitVec % 32).toNat).getLsbD i = _
  rw [s_u n hn, BitVec.getLsbD_ushiftRight]
theorem b_sshr (n : Nat) (hn : n < 32) (x : Int32) {i : Nat} (hi : i < 32) : bt (x >>> (nI n &&& 31)) i = if n + i < 32 then bt x (n + i) else bt x 31 := by
  unfold bt
  rw [Int32.toBitVec_shiftRight]
  show (x.toBitVec.sshiftRight ((nI n &&& 31).toBitVec.smod 32).toNat).getLsbD i = _
  rw [s_l n hn, BitVec.getLsbD_sshiftRight, BitVec.msb_eq_getLsbD_last]
  simp [hi]

/-! cells as bits -/
theorem bt_1 : ∀ i, i < 32 → bt 1 i = decide (i = 0) := by decide +kernel
theorem bt_jshl1 {n i : Nat} (hn : n < 32) (hi : i < 32) : bt (jshl 1 (nI n)) i = decide (i = n) := by
  show bt (1 <<< (nI n &&& 31)) i = _
  rw [b_shl n hn 1 hi]
  rcases Nat.lt_trichotomy i n with h | h | h
  · rw [decide_eq_false (show ¬ n ≤ i by omega), decide_eq_false (show ¬ i = n by omega)]; rfl
  · subst h; rw [Nat.sub_self, bt_1 0 (by decide)]; simp
  · rw [bt_1 (i - n) (by omega), decide_eq_false (show ¬ i - n = 0 by omega), decide_eq_false (show ¬ i = n by omega), Bool.and_false]
theorem cellbit {x y : Int32} {n : Nat} (hn : n < 32) (hy : y = nI n) : jshr x y &&& 1 = if bt x n then 1 else 0 := by
  subst hy
  refine b_ext (fun i hi => ?_)
  show bt ((x >>> (nI n &&& 31)) &&& 1) i = _
  rw [b_and, bt_1 i hi]
  by_cases h : i = 0
  · subst h
    rw [b_sshr n hn x hi, if_pos (by omega), decide_eq_true rfl, Bool.and_true]
    show bt x n = _
    cases hb : bt x n
    · rw [if_neg (by decide), b_0]
    · rw [if_pos rfl]; rfl
  · rw [decide_eq_false h, Bool.and_false]
    split
    · rw [bt_1 i hi, decide_eq_false h]
    · rw [b_0]
theorem hasCell_bit {x y : Int32} {n : Nat} (hn : n < 32) (hy : y = nI n) : v_X1_hasCell x y = if bt x n then 1 else 0 := by
  unfold v_X1_hasCell
  rw [cellbit hn hy]
  cases bt x n <;> rfl
theorem frost_bt (f : Nat → Int32) : ∀ n, n ≤ 32 → ∀ i, i < 32 → bt (frost f n) i = (decide (i < n) && decide (0 < f i)) := by
  intro n
  induction n with
  | zero => intro _ i hi; rw [show frost f 0 = 0 from rfl, b_0]; simp
  | succ n ih =>
    intro hn i hi
    have e := ih (by omega) i hi
    unfold frost
    split
    · rename_i h
      rw [b_or, e, bt_jshl1 (by omega) hi]
      rcases Nat.lt_trichotomy i n with h2 | h2 | h2
      · simp [show i < n + 1 by omega, h2, show ¬ i = n by omega]
      · subst h2; simp [h]
      · simp [show ¬ i < n + 1 by omega, show ¬ i < n by omega, show ¬ i = n by omega]
    · rename_i h
      rw [e]
      rcases Nat.lt_trichotomy i n with h2 | h2 | h2
      · simp [show i < n + 1 by omega, h2]
      · subst h2; simp [h]
      · simp [show ¬ i < n + 1 by omega, show ¬ i < n by omega]
theorem frost_cong {f g : Nat → Int32} : ∀ {n : Nat}, (∀ c, c < n → f c = g c) → frost f n = frost g n
  | 0, _ => rfl
  | n + 1, h => by
    unfold frost
    rw [h n (by omega), frost_cong (fun c hc => h c (by omega))]
theorem frost_0 {f : Nat → Int32} {n : Nat} (hn : n ≤ 32) : frost f n = 0 ↔ ∀ c, c < n → ¬ 0 < f c := by
  constructor
  · intro h c hc hf
    have e := frost_bt f n hn c (by omega)
    rw [h, b_0] at e
    simp [hc, hf] at e
  · intro h
    refine b_ext (fun i hi => ?_)
    rw [frost_bt f n hn i hi, b_0]
    by_cases h1 : i < n
    · simp [h i h1]
    · simp [h1]
/-- the cells beside a cell -/
def nbs (c : Nat) : List Nat := [c - 4, c + 4, c - 1, c + 1].zip [decide (3 < c), decide (c < 12), decide (0 < c % 4), decide (c % 4 < 3)] |>.filterMap (fun q => if q.2 then some q.1 else none)
def orl (x : Int32) : List Nat → Int32
  | [] => 0
  | j :: r => (if bt x j then jshl 1 (nI j) else 0) ||| orl x r
theorem orl_bt {x : Int32} : ∀ {js : List Nat}, (∀ j ∈ js, j < 32) → ∀ i, i < 32 → bt (orl x js) i = (decide (i ∈ js) && bt x i)
  | [], _, i, _ => by show bt 0 i = _; rw [b_0]; simp
  | j :: r, h, i, hi => by
    show bt ((if bt x j then jshl 1 (nI j) else 0) ||| orl x r) i = _
    rw [b_or, orl_bt (fun q hq => h q (List.mem_cons_of_mem _ hq)) i hi]
    have hj := h j List.mem_cons_self
    by_cases e : i = j
    · subst e
      cases hb : bt x i
      · simp [b_0]
      · simp [bt_jshl1 hi hi]
    · have : bt (if bt x j then jshl 1 (nI j) else 0) i = false := by
        split
        · rw [bt_jshl1 hj hi, decide_eq_false e]
        · exact b_0 i
      rw [this]
      simp [e]
theorem nbs_lt : ∀ c, c < 16 → ∀ j ∈ nbs c, j < 16 := by decide +kernel
theorem nbs_mask : ∀ c, c < 16 → ∀ i, i < 32 → bt (v_X1_cellsBeside (nI c)) i = decide (i ∈ nbs c) := by decide +kernel
theorem and_nbs (x : Int32) {c : Nat} (hc : c < 16) : x &&& v_X1_cellsBeside (nI c) = orl x (nbs c) := by
  refine b_ext (fun i hi => ?_)
  rw [b_and, nbs_mask c hc i hi, orl_bt (fun j hj => by have := nbs_lt c hc j hj; omega) i hi, Bool.and_comm]
/-- the reference's count of cells beside: its two sums -/
def mb1 (x y : Int32) : Int32 := if y < 12 then (if 3 < y then 0 + ((jshr x (y - 4)) &&& 1) else (0 : Int32)) + ((jshr x (y + 4)) &&& 1) else if 3 < y then 0 + ((jshr x (y - 4)) &&& 1) else (0 : Int32)
def mb2 (x y : Int32) : Int32 := if (jrem y 4) < 3 then (if 0 < (jrem y 4) then mb1 x y + ((jshr x (y - 1)) &&& 1) else mb1 x y) + ((jshr x (y + 1)) &&& 1) else if 0 < (jrem y 4) then mb1 x y + ((jshr x (y - 1)) &&& 1) else mb1 x y
theorem mb_0 (x : Int32) : mb2 x (nI 0) = bc (x &&& v_X1_cellsBeside (nI 0)) := by
  rw [and_nbs x (show 0 < 16 by decide), show nbs 0 = [4, 1] by decide]
  unfold mb2 mb1
  simp only [if_pos (show nI 0 < 12 by decide), if_neg (show ¬ 3 < nI 0 by decide), if_pos (show jrem (nI 0) 4 < 3 by decide), if_neg (show ¬ 0 < jrem (nI 0) 4 by decide)]
  rw [cellbit (x := x) (n := 4) (show 4 < 32 by decide) (show nI 0 + 4 = nI 4 by decide), cellbit (x := x) (n := 1) (show 1 < 32 by decide) (show nI 0 + 1 = nI 1 by decide)]
  simp only [orl]
  cases bt x 4 <;> cases bt x 1 <;> decide +kernel
theorem mb_1 (x : Int32) : mb2 x (nI 1) = bc (x &&& v_X1_cellsBeside (nI 1)) := by
  rw [and_nbs x (show 1 < 16 by decide), show nbs 1 = [5, 0, 2] by decide]
  unfold mb2 mb1
  simp only [if_pos (show nI 1 < 12 by decide), if_neg (show ¬ 3 < nI 1 by decide), if_pos (show jrem (nI 1) 4 < 3 by decide), if_pos (show 0 < jrem (nI 1) 4 by decide)]
  rw [cellbit (x := x) (n := 5) (show 5 < 32 by decide) (show nI 1 + 4 = nI 5 by decide), cellbit (x := x) (n := 0) (show 0 < 32 by decide) (show nI 1 - 1 = nI 0 by decide), cellbit (x := x) (n := 2) (show 2 < 32 by decide) (show nI 1 + 1 = nI 2 by decide)]
  simp only [orl]
  cases bt x 5 <;> cases bt x 0 <;> cases bt x 2 <;> decide +kernel
theorem mb_2 (x : Int32) : mb2 x (nI 2) = bc (x &&& v_X1_cellsBeside (nI 2)) := by
  rw [and_nbs x (show 2 < 16 by decide), show nbs 2 = [6, 1, 3] by decide]
  unfold mb2 mb1
  simp only [if_pos (show nI 2 < 12 by decide), if_neg (show ¬ 3 < nI 2 by decide), if_pos (show jrem (nI 2) 4 < 3 by decide), if_pos (show 0 < jrem (nI 2) 4 by decide)]
  rw [cellbit (x := x) (n := 6) (show 6 < 32 by decide) (show nI 2 + 4 = nI 6 by decide), cellbit (x := x) (n := 1) (show 1 < 32 by decide) (show nI 2 - 1 = nI 1 by decide), cellbit (x := x) (n := 3) (show 3 < 32 by decide) (show nI 2 + 1 = nI 3 by decide)]
  simp only [orl]
  cases bt x 6 <;> cases bt x 1 <;> cases bt x 3 <;> decide +kernel
theorem mb_3 (x : Int32) : mb2 x (nI 3) = bc (x &&& v_X1_cellsBeside (nI 3)) := by
  rw [and_nbs x (show 3 < 16 by decide), show nbs 3 = [7, 2] by decide]
  unfold mb2 mb1
  simp only [if_pos (show nI 3 < 12 by decide), if_neg (show ¬ 3 < nI 3 by decide), if_neg (show ¬ jrem (nI 3) 4 < 3 by decide), if_pos (show 0 < jrem (nI 3) 4 by decide)]
  rw [cellbit (x := x) (n := 7) (show 7 < 32 by decide) (show nI 3 + 4 = nI 7 by decide), cellbit (x := x) (n := 2) (show 2 < 32 by decide) (show nI 3 - 1 = nI 2 by decide)]
  simp only [orl]
  cases bt x 7 <;> cases bt x 2 <;> decide +kernel
theorem mb_4 (x : Int32) : mb2 x (nI 4) = bc (x &&& v_X1_cellsBeside (nI 4)) := by
  rw [and_nbs x (show 4 < 16 by decide), show nbs 4 = [0, 8, 5] by decide]
  unfold mb2 mb1
  simp only [if_pos (show nI 4 < 12 by decide), if_pos (show 3 < nI 4 by decide), if_pos (show jrem (nI 4) 4 < 3 by decide), if_neg (show ¬ 0 < jrem (nI 4) 4 by decide)]
  rw [cellbit (x := x) (n := 0) (show 0 < 32 by decide) (show nI 4 - 4 = nI 0 by decide), cellbit (x := x) (n := 8) (show 8 < 32 by decide) (show nI 4 + 4 = nI 8 by decide), cellbit (x := x) (n := 5) (show 5 < 32 by decide) (show nI 4 + 1 = nI 5 by decide)]
  simp only [orl]
  cases bt x 0 <;> cases bt x 8 <;> cases bt x 5 <;> decide +kernel
theorem mb_5 (x : Int32) : mb2 x (nI 5) = bc (x &&& v_X1_cellsBeside (nI 5)) := by
  rw [and_nbs x (show 5 < 16 by decide), show nbs 5 = [1, 9, 4, 6] by decide]
  unfold mb2 mb1
  simp only [if_pos (show nI 5 < 12 by decide), if_pos (show 3 < nI 5 by decide), if_pos (show jrem (nI 5) 4 < 3 by decide), if_pos (show 0 < jrem (nI 5) 4 by decide)]
  rw [cellbit (x := x) (n := 1) (show 1 < 32 by decide) (show nI 5 - 4 = nI 1 by decide), cellbit (x := x) (n := 9) (show 9 < 32 by decide) (show nI 5 + 4 = nI 9 by decide), cellbit (x := x) (n := 4) (show 4 < 32 by decide) (show nI 5 - 1 = nI 4 by decide), cellbit (x := x) (n := 6) (show 6 < 32 by decide) (show nI 5 + 1 = nI 6 by decide)]
  simp only [orl]
  cases bt x 1 <;> cases bt x 9 <;> cases bt x 4 <;> cases bt x 6 <;> decide +kernel
theorem mb_6 (x : Int32) : mb2 x (nI 6) = bc (x &&& v_X1_cellsBeside (nI 6)) := by
  rw [and_nbs x (show 6 < 16 by decide), show nbs 6 = [2, 10, 5, 7] by decide]
  unfold mb2 mb1
  simp only [if_pos (show nI 6 < 12 by decide), if_pos (show 3 < nI 6 by decide), if_pos (show jrem (nI 6) 4 < 3 by decide), if_pos (show 0 < jrem (nI 6) 4 by decide)]
  rw [cellbit (x := x) (n := 2) (show 2 < 32 by decide) (show nI 6 - 4 = nI 2 by decide), cellbit (x := x) (n := 10) (show 10 < 32 by decide) (show nI 6 + 4 = nI 10 by decide), cellbit (x := x) (n := 5) (show 5 < 32 by decide) (show nI 6 - 1 = nI 5 by decide), cellbit (x := x) (n := 7) (show 7 < 32 by decide) (show nI 6 + 1 = nI 7 by decide)]
  simp only [orl]
  cases bt x 2 <;> cases bt x 10 <;> cases bt x 5 <;> cases bt x 7 <;> decide +kernel
theorem mb_7 (x : Int32) : mb2 x (nI 7) = bc (x &&& v_X1_cellsBeside (nI 7)) := by
  rw [and_nbs x (show 7 < 16 by decide), show nbs 7 = [3, 11, 6] by decide]
  unfold mb2 mb1
  simp only [if_pos (show nI 7 < 12 by decide), if_pos (show 3 < nI 7 by decide), if_neg (show ¬ jrem (nI 7) 4 < 3 by decide), if_pos (show 0 < jrem (nI 7) 4 by decide)]
  rw [cellbit (x := x) (n := 3) (show 3 < 32 by decide) (show nI 7 - 4 = nI 3 by decide), cellbit (x := x) (n := 11) (show 11 < 32 by decide) (show nI 7 + 4 = nI 11 by decide), cellbit (x := x) (n := 6) (show 6 < 32 by decide) (show nI 7 - 1 = nI 6 by decide)]
  simp only [orl]
  cases bt x 3 <;> cases bt x 11 <;> cases bt x 6 <;> decide +kernel
theorem mb_8 (x : Int32) : mb2 x (nI 8) = bc (x &&& v_X1_cellsBeside (nI 8)) := by
  rw [and_nbs x (show 8 < 16 by decide), show nbs 8 = [4, 12, 9] by decide]
  unfold mb2 mb1
  simp only [if_pos (show nI 8 < 12 by decide), if_pos (show 3 < nI 8 by decide), if_pos (show jrem (nI 8) 4 < 3 by decide), if_neg (show ¬ 0 < jrem (nI 8) 4 by decide)]
  rw [cellbit (x := x) (n := 4) (show 4 < 32 by decide) (show nI 8 - 4 = nI 4 by decide), cellbit (x := x) (n := 12) (show 12 < 32 by decide) (show nI 8 + 4 = nI 12 by decide), cellbit (x := x) (n := 9) (show 9 < 32 by decide) (show nI 8 + 1 = nI 9 by decide)]
  simp only [orl]
  cases bt x 4 <;> cases bt x 12 <;> cases bt x 9 <;> decide +kernel
theorem mb_9 (x : Int32) : mb2 x (nI 9) = bc (x &&& v_X1_cellsBeside (nI 9)) := by
  rw [and_nbs x (show 9 < 16 by decide), show nbs 9 = [5, 13, 8, 10] by decide]
  unfold mb2 mb1
  simp only [if_pos (show nI 9 < 12 by decide), if_pos (show 3 < nI 9 by decide), if_pos (show jrem (nI 9) 4 < 3 by decide), if_pos (show 0 < jrem (nI 9) 4 by decide)]
  rw [cellbit (x := x) (n := 5) (show 5 < 32 by decide) (show nI 9 - 4 = nI 5 by decide), cellbit (x := x) (n := 13) (show 13 < 32 by decide) (show nI 9 + 4 = nI 13 by decide), cellbit (x := x) (n := 8) (show 8 < 32 by decide) (show nI 9 - 1 = nI 8 by decide), cellbit (x := x) (n := 10) (show 10 < 32 by decide) (show nI 9 + 1 = nI 10 by decide)]
  simp only [orl]
  cases bt x 5 <;> cases bt x 13 <;> cases bt x 8 <;> cases bt x 10 <;> decide +kernel
theorem mb_10 (x : Int32) : mb2 x (nI 10) = bc (x &&& v_X1_cellsBeside (nI 10)) := by
  rw [and_nbs x (show 10 < 16 by decide), show nbs 10 = [6, 14, 9, 11] by decide]
  unfold mb2 mb1
  simp only [if_pos (show nI 10 < 12 by decide), if_pos (show 3 < nI 10 by decide), if_pos (show jrem (nI 10) 4 < 3 by decide), if_pos (show 0 < jrem (nI 10) 4 by decide)]
  rw [cellbit (x := x) (n := 6) (show 6 < 32 by decide) (show nI 10 - 4 = nI 6 by decide), cellbit (x := x) (n := 14) (show 14 < 32 by decide) (show nI 10 + 4 = nI 14 by decide), cellbit (x := x) (n := 9) (show 9 < 32 by decide) (show nI 10 - 1 = nI 9 by decide), cellbit (x := x) (n := 11) (show 11 < 32 by decide) (show nI 10 + 1 = nI 11 by decide)]
  simp only [orl]
  cases bt x 6 <;> cases bt x 14 <;> cases bt x 9 <;> cases bt x 11 <;> decide +kernel
theorem mb_11 (x : Int32) : mb2 x (nI 11) = bc (x &&& v_X1_cellsBeside (nI 11)) := by
  rw [and_nbs x (show 11 < 16 by decide), show nbs 11 = [7, 15, 10] by decide]
  unfold mb2 mb1
  simp only [if_pos (show nI 11 < 12 by decide), if_pos (show 3 < nI 11 by decide), if_neg (show ¬ jrem (nI 11) 4 < 3 by decide), if_pos (show 0 < jrem (nI 11) 4 by decide)]
  rw [cellbit (x := x) (n := 7) (show 7 < 32 by decide) (show nI 11 - 4 = nI 7 by decide), cellbit (x := x) (n := 15) (show 15 < 32 by decide) (show nI 11 + 4 = nI 15 by decide), cellbit (x := x) (n := 10) (show 10 < 32 by decide) (show nI 11 - 1 = nI 10 by decide)]
  simp only [orl]
  cases bt x 7 <;> cases bt x 15 <;> cases bt x 10 <;> decide +kernel
theorem mb_12 (x : Int32) : mb2 x (nI 12) = bc (x &&& v_X1_cellsBeside (nI 12)) := by
  rw [and_nbs x (show 12 < 16 by decide), show nbs 12 = [8, 13] by decide]
  unfold mb2 mb1
  simp only [if_neg (show ¬ nI 12 < 12 by decide), if_pos (show 3 < nI 12 by decide), if_pos (show jrem (nI 12) 4 < 3 by decide), if_neg (show ¬ 0 < jrem (nI 12) 4 by decide)]
  rw [cellbit (x := x) (n := 8) (show 8 < 32 by decide) (show nI 12 - 4 = nI 8 by decide), cellbit (x := x) (n := 13) (show 13 < 32 by decide) (show nI 12 + 1 = nI 13 by decide)]
  simp only [orl]
  cases bt x 8 <;> cases bt x 13 <;> decide +kernel
theorem mb_13 (x : Int32) : mb2 x (nI 13) = bc (x &&& v_X1_cellsBeside (nI 13)) := by
  rw [and_nbs x (show 13 < 16 by decide), show nbs 13 = [9, 12, 14] by decide]
  unfold mb2 mb1
  simp only [if_neg (show ¬ nI 13 < 12 by decide), if_pos (show 3 < nI 13 by decide), if_pos (show jrem (nI 13) 4 < 3 by decide), if_pos (show 0 < jrem (nI 13) 4 by decide)]
  rw [cellbit (x := x) (n := 9) (show 9 < 32 by decide) (show nI 13 - 4 = nI 9 by decide), cellbit (x := x) (n := 12) (show 12 < 32 by decide) (show nI 13 - 1 = nI 12 by decide), cellbit (x := x) (n := 14) (show 14 < 32 by decide) (show nI 13 + 1 = nI 14 by decide)]
  simp only [orl]
  cases bt x 9 <;> cases bt x 12 <;> cases bt x 14 <;> decide +kernel
theorem mb_14 (x : Int32) : mb2 x (nI 14) = bc (x &&& v_X1_cellsBeside (nI 14)) := by
  rw [and_nbs x (show 14 < 16 by decide), show nbs 14 = [10, 13, 15] by decide]
  unfold mb2 mb1
  simp only [if_neg (show ¬ nI 14 < 12 by decide), if_pos (show 3 < nI 14 by decide), if_pos (show jrem (nI 14) 4 < 3 by decide), if_pos (show 0 < jrem (nI 14) 4 by decide)]
  rw [cellbit (x := x) (n := 10) (show 10 < 32 by decide) (show nI 14 - 4 = nI 10 by decide), cellbit (x := x) (n := 13) (show 13 < 32 by decide) (show nI 14 - 1 = nI 13 by decide), cellbit (x := x) (n := 15) (show 15 < 32 by decide) (show nI 14 + 1 = nI 15 by decide)]
  simp only [orl]
  cases bt x 10 <;> cases bt x 13 <;> cases bt x 15 <;> decide +kernel
theorem mb_15 (x : Int32) : mb2 x (nI 15) = bc (x &&& v_X1_cellsBeside (nI 15)) := by
  rw [and_nbs x (show 15 < 16 by decide), show nbs 15 = [11, 14] by decide]
  unfold mb2 mb1
  simp only [if_neg (show ¬ nI 15 < 12 by decide), if_pos (show 3 < nI 15 by decide), if_neg (show ¬ jrem (nI 15) 4 < 3 by decide), if_pos (show 0 < jrem (nI 15) 4 by decide)]
  rw [cellbit (x := x) (n := 11) (show 11 < 32 by decide) (show nI 15 - 4 = nI 11 by decide), cellbit (x := x) (n := 14) (show 14 < 32 by decide) (show nI 15 - 1 = nI 14 by decide)]
  simp only [orl]
  cases bt x 11 <;> cases bt x 14 <;> decide +kernel
theorem mb_all (x : Int32) {c : Nat} (hc : c < 16) : mb2 x (nI c) = bc (x &&& v_X1_cellsBeside (nI c)) := by
  have h : c = 0 ∨ c = 1 ∨ c = 2 ∨ c = 3 ∨ c = 4 ∨ c = 5 ∨ c = 6 ∨ c = 7 ∨ c = 8 ∨ c = 9 ∨ c = 10 ∨ c = 11 ∨ c = 12 ∨ c = 13 ∨ c = 14 ∨ c = 15 := by omega
  rcases h with rfl | rfl | rfl | rfl | rfl | rfl | rfl | rfl | rfl | rfl | rfl | rfl | rfl | rfl | rfl | rfl
  · exact mb_0 x
  · exact mb_1 x
  · exact mb_2 x
  · exact mb_3 x
  · exact mb_4 x
  · exact mb_5 x
  · exact mb_6 x
  · exact mb_7 x
  · exact mb_8 x
  · exact mb_9 x
  · exact mb_10 x
  · exact mb_11 x
  · exact mb_12 x
  · exact mb_13 x
  · exact mb_14 x
  · exact mb_15 x
