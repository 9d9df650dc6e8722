def bt (x : Int32) (i : Nat) : Bool := x.toBitVec.getLsbD i
theorem b_ext {x y : Int32} (h : ∀ i, i < 32 → bt x i = bt y i) : x = y := Int32.toBitVec_inj.mp (BitVec.eq_of_getLsbD_eq (fun i hi => h i hi))
theorem b_or (x y : Int32) (i : Nat) : bt (x ||| y) i = (bt x i || bt y i) := by unfold bt; rw [Int32.toBitVec_or, BitVec.getLsbD_or]
theorem b_and (x y : Int32) (i : Nat) : bt (x &&& y) i = (bt x i && bt y i) := by unfold bt; rw [Int32.toBitVec_and, BitVec.getLsbD_and]
theorem b_xor (x y : Int32) (i : Nat) : bt (x ^^^ y) i = (bt x i ^^ bt y i) := by unfold bt; rw [Int32.toBitVec_xor, BitVec.getLsbD_xor]
theorem b_big {x : Int32} {i : Nat} (h : 32 ≤ i) : bt x i = false := BitVec.getLsbD_of_ge _ _ h
theorem b_255 (i : Nat) : bt 255 i = decide (i < 8) := by
  rcases Nat.lt_or_ge i 32 with h | h
  · exact (by decide +kernel : ∀ i, i < 32 → bt 255 i = decide (i < 8)) i h
  · rw [b_big h, decide_eq_false (by omega)]
theorem b_65535 (i : Nat) : bt 65535 i = decide (i < 16) := by
  rcases Nat.lt_or_ge i 32 with h | h
  · exact (by decide +kernel : ∀ i, i < 32 → bt 65535 i = decide (i < 16)) i h
  · rw [b_big h, decide_eq_false (by omega)]
theorem b_m1 : ∀ i, i < 32 → bt (-1) i = true := by decide +kernel
theorem b_0 (i : Nat) : bt 0 i = false := BitVec.getLsbD_zero
theorem s_l : ∀ n, n < 32 → ((nI n &&& 31).toBitVec.smod 32).toNat = n := by decide +kernel
theorem s_u : ∀ n, n < 32 → (((nI n).toUInt32 &&& Int32.toUInt32 31).toBitVec % 32).toNat = n := by decide +kernel
theorem b_shl (n : Nat) (hn : n < 32) (x : Int32) {i : Nat} (hi : i < 32) : bt (x <<< (nI n &&& 31)) i = (decide (n ≤ i) && bt x (i - n)) := by
  unfold bt
  rw [Int32.toBitVec_shiftLeft]
  show (x.toBitVec <<< ((nI n &&& 31).toBitVec.smod 32).toNat).getLsbD i = _
  rw [s_l n hn, BitVec.getLsbD_shiftLeft]
  rcases Nat.lt_or_ge i n with h | h
  · simp [h, Nat.not_le.mpr h]
  · simp [hi, h, Nat.not_lt.mpr h]
theorem b_ushr (n : Nat) (hn : n < 32) (x : Int32) (i : Nat) : bt ((x.toUInt32 >>> ((nI n).toUInt32 &&& Int32.toUInt32 31)).toInt32) i = bt x (n + i) := by
  show (x.toUInt32 >>> ((nI n).toUInt32 &&& Int32.toUInt32 31)).toBitVec.getLsbD i = x.toUInt32.toBitVec.getLsbD (n + i)
  rw [UInt32.toBitVec_shiftRight]
  show (x.toUInt32.toBitVec >>> (((nI n).toUInt32 &&& Int32.toUInt32 31).toBitVec % 32).toNat).getLsbD i = _
  rw [s_u n hn, BitVec.getLsbD_ushiftRight]
theorem b_sshr (n : Nat) (hn : n < 32) (x : Int32) {i : Nat} (hi : i < 32) : bt (x >>> (nI n &&& 31)) i = if n + i < 32 then bt x (n + i) else bt x 31 := by
  unfold bt
  rw [Int32.toBitVec_shiftRight]
  show (x.toBitVec.sshiftRight ((nI n &&& 31).toBitVec.smod 32).toNat).getLsbD i = _
  rw [s_l n hn, BitVec.getLsbD_sshiftRight, BitVec.msb_eq_getLsbD_last]
  simp [hi]

/-! cells as bits -/
theorem bt_1 : ∀ i, i < 32 → bt 1 i = decide (i = 0) := by decide +kernel
theorem bt_jshl1 {n i : Nat} (hn : n < 32) (hi : i < 32) : bt (jshl 1 (nI n)) i = decide (i = n) := by
  show bt (1 <<< (nI n &&& 31)) i = _
  rw [b_shl n hn 1 hi]
  rcases Nat.lt_trichotomy i n with h | h | h
  · rw [decide_eq_false (show ¬ n ≤ i by omega), decide_eq_false (show ¬ i = n by omega)]; rfl
  · subst h; rw [Nat.sub_self, bt_1 0 (by decide)]; simp
  · rw [bt_1 (i - n) (by omega), decide_eq_false (show ¬ i - n = 0 by omega), decide_eq_false (show ¬ i = n by omega), Bool.and_false]
theorem cellbit {x y : Int32} {n : Nat} (hn : n < 32) (hy : y = nI n) : jshr x y &&& 1 = if bt x n then 1 else 0 := by
  subst hy
  refine b_ext (fun i hi => ?_)
  show bt ((x >>> (nI n &&& 31)) &&& 1) i = _
  rw [b_and, bt_1 i hi]
  by_cases h : i = 0
  · subst h
    rw [b_sshr n hn x hi, if_pos (by omega), decide_eq_true rfl, Bool.and_true]
    show bt x n = _
    cases hb : bt x n
    · rw [if_neg (by decide), b_0]
    · rw [if_pos rfl]; rfl
  · rw [decide_eq_false h, Bool.and_false]
    split
    · rw [bt_1 i hi, decide_eq_false h]
    · rw [b_0]
theorem hasCell_bit {x y : Int32} {n : Nat} (hn : n < 32) (hy : y = nI n) : v_X1_hasCell x y = if bt x n then 1 else 0 := by
  unfold v_X1_hasCell
  rw [cellbit hn hy]
  cases bt x n <;> rfl
theorem frost_bt (f : Nat → Int32) : ∀ n, n ≤ 32 → ∀ i, i < 32 → bt (frost f n) i = (decide (i < n) && decide (0 < f i)) := by
  intro n
  induction n with
  | zero => intro _ i hi; rw [show frost f 0 = 0 from rfl, b_0]; simp
  | succ n ih =>
    intro hn i hi
    have e := ih (by omega) i hi
    unfold frost
    split
    · rename_i h
      rw [b_or, e, bt_jshl1 (by omega) hi]
      rcases Nat.lt_trichotomy i n with h2 | h2 | h2
      · simp [show i < n + 1 by omega, h2, show ¬ i = n by omega]
      · subst h2; simp [h]
      · simp [show ¬ i < n + 1 by omega, show ¬ i < n by omega, show ¬ i = n by omega]
    · rename_i h
      rw [e]
      rcases Nat.lt_trichotomy i n with h2 | h2 | h2
      · simp [show i < n + 1 by omega, h2]
      · subst h2; simp [h]
      · simp [show ¬ i < n + 1 by omega, show ¬ i < n by omega]
theorem frost_cong {f g : Nat → Int32} : ∀ {n : Nat}, (∀ c, c < n → f c = g c) → frost f n = frost g n
  | 0, _ => rfl
  | n + 1, h => by
    unfold frost
    rw [h n (by omega), frost_cong (fun c hc => h c (by omega))]
theorem frost_0 {f : Nat → Int32} {n : Nat} (hn : n ≤ 32) : frost f n = 0 ↔ ∀ c, c < n → ¬ 0 < f c := by
  constructor
  · intro h c hc hf
    have e := frost_bt f n hn c (by omega)
    rw [h, b_0] at e
    simp [hc, hf] at e
  · intro h
    refine b_ext (fun i hi => ?_)
    rw [frost_bt f n hn i hi, b_0]
    by_cases h1 : i < n
    · simp [h i h1]
    · simp [h1]
/-- the cells beside a cell -/
def nbs (c : Nat) : List Nat := [c - 4, c + 4, c - 1, c + 1].zip [decide (3 < c), decide (c < 12), decide (0 < c % 4), decide (c % 4 < 3)] |>.filterMap (fun q => if q.2 then some q.1 else none)
def orl (x : Int32) : List Nat → Int32
  | [] => 0
  | j :: r => (if bt x j then jshl 1 (nI j) else 0) ||| orl x r
theorem orl_bt {x : Int32} : ∀ {js : List Nat}, (∀ j ∈ js, j < 32) → ∀ i, i < 32 → bt (orl x js) i = (decide (i ∈ js) && bt x i)
  | [], _, i, _ => by show bt 0 i = _; rw [b_0]; simp
  | j :: r, h, i, hi => by
    show bt ((if bt x j then jshl 1 (nI j) else 0) ||| orl x r) i = _
    rw [b_or, orl_bt (fun q hq => h q (List.mem_cons_of_mem _ hq)) i hi]
    have hj := h j List.mem_cons_self
    by_cases e : i = j
    · subst e
      cases hb : bt x i
      · simp [b_0]
      · simp [bt_jshl1 hi hi]
    · have : bt (if bt x j then jshl 1 (nI j) else 0) i = false := by
        split
        · rw [bt_jshl1 hj hi, decide_eq_false e]
        · exact b_0 i
      rw [this]
      simp [e]
theorem nbs_lt : ∀ c, c < 16 → ∀ j ∈ nbs c, j < 16 := by decide +kernel
theorem nbs_mask : ∀ c, c < 16 → ∀ i, i < 32 → bt (v_X1_cellsBeside (nI c)) i = decide (i ∈ nbs c) := by decide +kernel
theorem and_nbs (x : Int32) {c : Nat} (hc : c < 16) : x &&& v_X1_cellsBeside (nI c) = orl x (nbs c) := by
  refine b_ext (fun i hi => ?_)
  rw [b_and, nbs_mask c hc i hi, orl_bt (fun j hj => by have := nbs_lt c hc j hj; omega) i hi, Bool.and_comm]
