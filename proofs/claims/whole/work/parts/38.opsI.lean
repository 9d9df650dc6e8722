/-! OPERATIONS: prints; choices of panes -/
def chP (m c p : Nat) : Bool := c.testBit (m - 1 - p)
def cnA (A : Nat → Bool) : Nat → Nat
  | 0 => 0
  | p + 1 => if A p = true then cnA A p + 1 else cnA A p
def rtA (A : Nat → Bool) (ok : Nat → Nat → Bool) : Nat → Nat
  | 0 => 0
  | p + 1 => if A p = true then (if ok p (cnA A p) = true then rtA A ok p + 1 else rtA A ok p) else rtA A ok p
theorem cnA_le (A : Nat → Bool) : ∀ p, cnA A p ≤ p
  | 0 => Nat.le_refl _
  | p + 1 => by
    have := cnA_le A p
    unfold cnA
    split <;> omega
theorem rtA_le (A : Nat → Bool) (ok : Nat → Nat → Bool) : ∀ p, rtA A ok p ≤ p
  | 0 => Nat.le_refl _
  | p + 1 => by
    have := rtA_le A ok p
    unfold rtA
    split
    · split <;> omega
    · omega
theorem cnA_mono (A : Nat → Bool) {p : Nat} : ∀ {q}, p ≤ q → cnA A p ≤ cnA A q
  | 0, h => by rw [show p = 0 by omega]; exact Nat.le_refl _
  | q + 1, h => by
    by_cases e : p = q + 1
    · rw [e]; exact Nat.le_refl _
    · have := cnA_mono A (p := p) (q := q) (by omega)
      refine Nat.le_trans this ?_
      show cnA A q ≤ if A q = true then cnA A q + 1 else cnA A q
      split <;> omega
theorem cnA_s {A : Nat → Bool} {p : Nat} (h : A p = true) : cnA A (p + 1) = cnA A p + 1 := by
  show (if A p = true then cnA A p + 1 else cnA A p) = _
  rw [if_pos h]
theorem cnA_n {A : Nat → Bool} {p : Nat} (h : ¬ A p = true) : cnA A (p + 1) = cnA A p := by
  show (if A p = true then cnA A p + 1 else cnA A p) = _
  rw [if_neg h]
theorem cnA_lt {A : Nat → Bool} {p q : Nat} (h : A p = true) (hpq : p < q) : cnA A p < cnA A q := by
  have := cnA_mono A (p := p + 1) (q := q) (by omega)
  rw [cnA_s h] at this
  omega
theorem cnA_at {A : Nat → Bool} : ∀ m q, q < cnA A m → ∃ p, p < m ∧ A p = true ∧ cnA A p = q
  | 0, q, h => absurd h (Nat.not_lt_zero _)
  | m + 1, q, h => by
    by_cases hA : A m = true
    · rw [cnA_s hA] at h
      by_cases e : q = cnA A m
      · exact ⟨m, by omega, hA, e.symm⟩
      · obtain ⟨p, h1, h2, h3⟩ := cnA_at (A := A) m q (by omega)
        exact ⟨p, by omega, h2, h3⟩
    · rw [cnA_n hA] at h
      obtain ⟨p, h1, h2, h3⟩ := cnA_at m q h
      exact ⟨p, by omega, h2, h3⟩
theorem cnA_cong {A B : Nat → Bool} : ∀ {p}, (∀ j, j < p → A j = B j) → cnA A p = cnA B p
  | 0, _ => rfl
  | p + 1, h => by
    unfold cnA
    rw [cnA_cong (fun j hj => h j (by omega)), h p (by omega)]
theorem rtA_cong {A B : Nat → Bool} {ok : Nat → Nat → Bool} : ∀ {p}, (∀ j, j < p → A j = B j) → rtA A ok p = rtA B ok p
  | 0, _ => rfl
  | p + 1, h => by
    unfold rtA
    rw [rtA_cong (fun j hj => h j (by omega)), cnA_cong (fun j hj => h j (by omega)), h p (by omega)]
theorem fdiff (A B : Nat → Bool) : ∀ m, (∀ j, j < m → A j = B j) ∨ ∃ p, p < m ∧ A p ≠ B p ∧ ∀ j, j < p → A j = B j
  | 0 => Or.inl (fun j hj => absurd hj (Nat.not_lt_zero _))
  | m + 1 => by
    rcases fdiff A B m with h | ⟨p, h1, h2, h3⟩
    · by_cases e : A m = B m
      · refine Or.inl (fun j hj => ?_)
        by_cases ej : j = m
        · rw [ej]; exact e
        · exact h j (by omega)
      · exact Or.inr ⟨m, by omega, e, h⟩
    · exact Or.inr ⟨p, by omega, h2, h3⟩
theorem ch_diff {m c c' : Nat} (hc : c < 2 ^ m) (hc' : c' < 2 ^ m) (h : c ≠ c') : ∃ p, p < m ∧ chP m c p ≠ chP m c' p ∧ ∀ j, j < p → chP m c j = chP m c' j := by
  rcases fdiff (chP m c) (chP m c') m with h1 | h1
  · exfalso
    apply h
    apply Nat.eq_of_testBit_eq
    intro i
    by_cases hi : i < m
    · have := h1 (m - 1 - i) (by omega)
      unfold chP at this
      rw [show m - 1 - (m - 1 - i) = i by omega] at this
      exact this
    · have hp : 2 ^ m ≤ 2 ^ i := Nat.pow_le_pow_right (by decide) (by omega)
      rw [Nat.testBit_lt_two_pow (by omega), Nat.testBit_lt_two_pow (by omega)]
  · exact h1
theorem lt_tb {x y : Nat} (i : Nat) (hx : x.testBit i = false) (hy : y.testBit i = true) (h : ∀ j, i < j → x.testBit j = y.testBit j) : x < y := by
  have e : x / 2 ^ (i + 1) = y / 2 ^ (i + 1) := by
    apply Nat.eq_of_testBit_eq
    intro j
    rw [Nat.testBit_div_two_pow, Nat.testBit_div_two_pow]
    exact h _ (by omega)
  rw [Nat.testBit_eq_decide_div_mod_eq] at hx hy
  have h1 := of_decide_eq_false hx
  have h2 := of_decide_eq_true hy
  rw [Nat.pow_succ, ← Nat.div_div_eq_div_mul, ← Nat.div_div_eq_div_mul] at e
  refine Decidable.byContradiction (fun hn => ?_)
  have h3 := Nat.div_le_div_right (c := 2 ^ i) (Nat.le_of_not_lt hn)
  generalize x / 2 ^ i = a at *
  generalize y / 2 ^ i = b at *
  omega
theorem ch_lt {m c c' p : Nat} (hc : c < 2 ^ m) (hc' : c' < 2 ^ m) (hp : p < m) (h1 : chP m c p = true) (h2 : chP m c' p = false) (h3 : ∀ j, j < p → chP m c j = chP m c' j) : c' < c := by
  refine lt_tb (m - 1 - p) h2 h1 (fun i hi => ?_)
  by_cases him : i < m
  · have := h3 (m - 1 - i) (by omega)
    unfold chP at this
    rw [show m - 1 - (m - 1 - i) = i by omega] at this
    exact this.symm
  · have hp : 2 ^ m ≤ 2 ^ i := Nat.pow_le_pow_right (by decide) (by omega)
    rw [Nat.testBit_lt_two_pow (by omega), Nat.testBit_lt_two_pow (by omega)]
/-- the reference's sets, as choices -/
def rvA (m s : Nat) : Nat → Nat
  | 0 => 0
  | p + 1 => rvA m s p + (if s.testBit p = true then 2 ^ (m - 1 - p) else 0)
def rvP (m s : Nat) : Nat := rvA m s m
theorem rv_tab : ∀ m, m < 9 → ∀ s, s < 2 ^ m → rvP m s < 2 ^ m ∧ (∀ p, p < m → s.testBit p = chP m (rvP m s) p) ∧ rvP m (rvP m s) = s := by decide +kernel
theorem bc_tab : ∀ m, m < 9 → ∀ c, c < 2 ^ m → bc (nI c) = nI (cnA (chP m c) m) ∧ bc (nI c) = nI (cnA (fun p => c.testBit p) m) := by decide +kernel
theorem ex_tab : ∀ m, m < 9 → ∀ n, n < m + 1 → 2 ^ n - 1 < 2 ^ m ∧ cnA (chP m (2 ^ n - 1)) m = n := by decide +kernel
theorem sh_tab : ∀ m, m < 9 → jshl 1 (nI m) = nI (2 ^ m) ∧ 2 ^ m ≤ 256 := by decide +kernel
theorem rv_cn {m s : Nat} (hm : m < 9) (hs : s < 2 ^ m) : bc (nI s) = nI (cnA (chP m (rvP m s)) m) := by
  rw [(bc_tab m hm s hs).2]
  congr 1
  exact cnA_cong (fun j hj => (rv_tab m hm s hs).2.1 j hj)
theorem bt_nI (c i : Nat) : bt (nI c) i = (decide (i < 32) && c.testBit i) := by
  show (BitVec.ofNat 32 c).getLsbD i = _
  rw [BitVec.getLsbD_ofNat]
/-- the best choice: the most right, the first row -/
def BstP (m n : Nat) (ok : Nat → Nat → Bool) (c : Nat) : Prop := c < 2 ^ m ∧ cnA (chP m c) m = n ∧ ∀ c', c' < 2 ^ m → cnA (chP m c') m = n → rtA (chP m c') ok m < rtA (chP m c) ok m ∨ (rtA (chP m c') ok m = rtA (chP m c) ok m ∧ c' ≤ c)
theorem BstP_one {m n : Nat} {ok : Nat → Nat → Bool} {c c' : Nat} (h : BstP m n ok c) (h' : BstP m n ok c') : c = c' := by
  have h1 := h.2.2 c' h'.1 h'.2.1
  have h2 := h'.2.2 c h.1 h.2.1
  omega
