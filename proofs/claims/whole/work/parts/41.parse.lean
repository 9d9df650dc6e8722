/-! PRESSES: the text, over values -/
def sgP (w : Nat → Int32) (N p : Nat) : Int32 := if p < N then w p else -1
def bsP (j i : Nat) : Int32 := zsch (2000 + j) (nI i)
def lnP (j : Nat) : Nat := zslen.getD j 0
def pWf (w : Nat → Int32) (N j : Nat) : Nat → Nat → Nat → Bool × Nat
  | 0, _, p => (true, p)
  | k + 1, i, p => if sgP w N p = bsP j i then pWf w N j k (i + 1) (p + 1) else (false, p)
def pD (w : Nat → Int32) (N : Nat) : Nat → Nat → Int32 → Nat × Int32
  | 0, q, v => (q, v)
  | k + 1, q, v => if sgP w N q < 48 then (q, v) else if 57 < sgP w N q then (q, v) else pD w N k (q + 1) (v * 10 + sgP w N q - 48)
def pN (w : Nat → Int32) (N : Nat) (most : Int32) (p : Nat) : Bool × Nat × Int32 := if sgP w N p = 32 then (if (pD w N 5 (p + 1) 0).1 = p + 1 then (false, p + 1, 0) else if most < (pD w N 5 (p + 1) 0).2 then (false, p + 1, 0) else (true, (pD w N 5 (p + 1) 0).1, (pD w N 5 (p + 1) 0).2)) else (false, p, 0)
def pNs (w : Nat → Int32) (N : Nat) (mst : Nat → Int32) : Nat → Nat → Nat → (Nat → Int32) → Bool × Nat × (Nat → Int32)
  | 0, _, p, vs => (true, p, vs)
  | k + 1, i, p, vs => if (pN w N (mst i) p).1 = true then pNs w N mst k (i + 1) (pN w N (mst i) p).2.1 (upd vs i (pN w N (mst i) p).2.2) else (false, (pN w N (mst i) p).2.1, vs)
def roomP (J : zI) (j : Nat) : Bool := if j = 0 then decide (J 87 3 < 8) else if j = 1 then decide (J 87 5 < 8) else true
def mstP (J : zI) (j i : Nat) : Int32 := if j = 0 then 65535 else if j = 1 then (if i = 0 then 6 else 9) else if j = 2 then (if i = 0 then J 87 5 - 1 else J 87 3 - 1) else if j = 3 then 40 else 9
def cntJ (j : Nat) : Nat := if j = 1 then 3 else if j = 2 then 2 else 1
def uLet (J : zI) (v : Int32) : zI := zs (zs J 87 3 (J 87 3 + 1)) 91 (J 87 3).toNatClampNeg v
def uPane (J : zI) (a b c : Int32) : zI := fun x j => if x = 87 ∧ j = 5 then J 87 5 + 1 else if x = 92 ∧ j = (J 87 5).toNatClampNeg then a else if x = 93 ∧ j = (J 87 5).toNatClampNeg then b else if x = 94 ∧ j = (J 87 5).toNatClampNeg then c else if x = 95 ∧ j = (J 87 5).toNatClampNeg then -1 else if x = 96 ∧ j = (J 87 5).toNatClampNeg then 0 else if x = 97 ∧ 16 * (J 87 5).toNatClampNeg ≤ j ∧ j < 16 * (J 87 5).toNatClampNeg + 16 then 0 else J x j
def updJ (J : zI) (j : Nat) (vs : Nat → Int32) : zI := if j = 0 then uLet J (vs 0) else if j = 1 then uPane J (vs 0) (vs 1) (vs 2) else if j = 2 then zs J 95 (vs 0).toNatClampNeg (vs 1) else if j = 3 then zs J 87 12 (vs 0) else if j = 4 then zs J 87 13 (vs 0) else zs J 87 14 (vs 0)
/-- a word of kind j at p -/
def pIt (w : Nat → Int32) (N : Nat) (J : zI) (j p : Nat) : Bool × Nat × zI := if (pWf w N j (lnP j) 0 p).1 = true then (if roomP J j = true then (if (pNs w N (mstP J j) (cntJ j) 0 (pWf w N j (lnP j) 0 p).2 (fun _ => 0)).1 = true then (true, (pNs w N (mstP J j) (cntJ j) 0 (pWf w N j (lnP j) 0 p).2 (fun _ => 0)).2.1, updJ J j (pNs w N (mstP J j) (cntJ j) 0 (pWf w N j (lnP j) 0 p).2 (fun _ => 0)).2.2) else (false, (pNs w N (mstP J j) (cntJ j) 0 (pWf w N j (lnP j) 0 p).2 (fun _ => 0)).2.1, J)) else (false, p, J)) else (false, (pWf w N j (lnP j) 0 p).2, J)
def pItem (w : Nat → Int32) (N : Nat) (J : zI) (p : Nat) : Bool × Nat × zI := if v_X2_wordFrom (sgP w N p) = -1 then (false, p, J) else pIt w N J (v_X2_wordFrom (sgP w N p)).toNatClampNeg p
def pRun (w : Nat → Int32) (N : Nat) : Nat → zI → Nat → Nat → Bool × Nat × zI
  | 0, J, _, _ => (false, 0, J)
  | f + 1, J, p, c => if (pItem w N J p).1 = true then (if (pItem w N J p).2.1 = N then (true, c + 1, (pItem w N J p).2.2) else if sgP w N (pItem w N J p).2.1 = 59 then pRun w N f (pItem w N J p).2.2 ((pItem w N J p).2.1 + 1) (c + 1) else (false, (pItem w N J p).2.1, (pItem w N J p).2.2)) else (false, (pItem w N J p).2.1, (pItem w N J p).2.2)
theorem bs_tab : ∀ j, j < 6 → lnP j ≤ 4 ∧ 1 ≤ lnP j ∧ ∀ i, i < lnP j → ¬ bsP j i = -1 := by decide +kernel
theorem sg_in {w : Nat → Int32} {N p : Nat} {b : Int32} (hb : ¬ b = -1) (h : sgP w N p = b) : p < N ∧ w p = b := by
  unfold sgP at h
  by_cases hp : p < N
  · rw [if_pos hp] at h; exact ⟨hp, h⟩
  · rw [if_neg hp] at h; exact absurd h.symm hb
theorem sg_lt {w : Nat → Int32} {N p : Nat} (h : p < N) : sgP w N p = w p := if_pos h
theorem sg_ge {w : Nat → Int32} {N p : Nat} (h : ¬ p < N) : sgP w N p = -1 := if_neg h
section ZPU
variable {w : Nat → Int32} {N : Nat}
theorem pWf_pos {j : Nat} (hj : j < 6) : ∀ k i p, i + k = lnP j → p ≤ N → (pWf w N j k i p).2 ≤ N ∧ ((pWf w N j k i p).1 = true → (pWf w N j k i p).2 = p + k)
  | 0, i, p, hi, hp => ⟨hp, fun _ => rfl⟩
  | k + 1, i, p, hi, hp => by
    unfold pWf
    by_cases h : sgP w N p = bsP j i
    · rw [if_pos h]
      obtain ⟨h1, h2⟩ := sg_in ((bs_tab j hj).2.2 i (by omega)) h
      obtain ⟨r1, r2⟩ := pWf_pos hj k (i + 1) (p + 1) (by omega) (by omega)
      exact ⟨r1, fun e => by rw [r2 e]; omega⟩
    · rw [if_neg h]
      exact ⟨hp, fun e => absurd e Bool.false_ne_true⟩
theorem dig_in {x : Int32} (h1 : ¬ x < 48) (h2 : ¬ 57 < x) : ∃ d, d ≤ 9 ∧ x = nI (48 + d) := by
  have h0 : ¬ x < 0 := by
    rw [i_lt] at *
    rw [show (48 : Int32).toInt = 48 from rfl] at h1
    rw [show (0 : Int32).toInt = 0 from rfl]
    omega
  obtain ⟨k, hk, rfl⟩ := n_of h0
  rw [show (48 : Int32) = nI 48 from rfl, n_lt hk (by decide)] at h1
  rw [show (57 : Int32) = nI 57 from rfl, n_lt (by decide) hk] at h2
  exact ⟨k - 48, by omega, by rw [show 48 + (k - 48) = k by omega]⟩
theorem dig_val {d vn : Nat} : nI vn * 10 + nI (48 + d) - 48 = nI (vn * 10 + d) := by
  rw [show (10 : Int32) = nI 10 from rfl, pk_mul, nI_add, show (48 : Int32) = nI 48 from rfl, pk_sub (by omega), show vn * 10 + (48 + d) - 48 = vn * 10 + d by omega]
theorem dig_pos {q : Nat} (h1 : ¬ sgP w N q < 48) : q < N := by
  by_cases h : q < N
  · exact h
  · rw [sg_ge h] at h1
    exact absurd (by decide) h1
theorem pD_pos : ∀ k q (v : Int32) (vn b : Nat), q ≤ N → v = nI vn → vn < b → q ≤ (pD w N k q v).1 ∧ (pD w N k q v).1 ≤ N ∧ ∃ u, u < b * 10 ^ k ∧ (pD w N k q v).2 = nI u
  | 0, q, v, vn, b, hq, hv, hb => ⟨Nat.le_refl _, hq, vn, by rw [Nat.pow_zero, Nat.mul_one]; exact hb, hv⟩
  | k + 1, q, v, vn, b, hq, hv, hb => by
    have hpow : b ≤ b * 10 ^ (k + 1) := Nat.le_mul_of_pos_right _ (Nat.pow_pos (by decide))
    unfold pD
    by_cases h1 : sgP w N q < 48
    · rw [if_pos h1]; exact ⟨Nat.le_refl _, hq, vn, by omega, hv⟩
    · by_cases h2 : 57 < sgP w N q
      · rw [if_neg h1, if_pos h2]; exact ⟨Nat.le_refl _, hq, vn, by omega, hv⟩
      · rw [if_neg h1, if_neg h2]
        obtain ⟨d, hd, ed⟩ := dig_in h1 h2
        have hqN := dig_pos h1
        obtain ⟨r1, r2, u, hu, eu⟩ := pD_pos k (q + 1) (v * 10 + sgP w N q - 48) (vn * 10 + d) (b * 10) (by omega) (by rw [hv, ed, dig_val]) (by omega)
        refine ⟨by omega, r2, u, ?_, eu⟩
        rw [Nat.pow_succ, Nat.mul_comm (10 ^ k) 10, ← Nat.mul_assoc]
        exact hu
theorem pD5 {p : Nat} (hp : p ≤ N) : p ≤ (pD w N 5 p 0).1 ∧ (pD w N 5 p 0).1 ≤ N ∧ ∃ u, u < 100000 ∧ (pD w N 5 p 0).2 = nI u := pD_pos 5 p 0 0 1 hp rfl (by decide)
theorem pN_pos {most : Int32} {p : Nat} (hp : p ≤ N) : (pN w N most p).2.1 ≤ N ∧ ((pN w N most p).1 = true → p < (pN w N most p).2.1 ∧ ∃ u, u < 100000 ∧ (pN w N most p).2.2 = nI u ∧ ¬ most < nI u) := by
  unfold pN
  by_cases h : sgP w N p = 32
  · rw [if_pos h]
    obtain ⟨h1, -⟩ := sg_in (by decide) h
    obtain ⟨d1, d2, u, hu, eu⟩ := pD5 (w := w) (N := N) (p := p + 1) (by omega)
    by_cases c1 : (pD w N 5 (p + 1) 0).1 = p + 1
    · rw [if_pos c1]; exact ⟨h1, fun e => absurd e Bool.false_ne_true⟩
    · by_cases c2 : most < (pD w N 5 (p + 1) 0).2
      · rw [if_neg c1, if_pos c2]; exact ⟨h1, fun e => absurd e Bool.false_ne_true⟩
      · rw [if_neg c1, if_neg c2]
        exact ⟨d2, fun _ => ⟨by show p < (pD w N 5 (p + 1) 0).1; omega, u, hu, eu, by rw [← eu]; exact c2⟩⟩
  · rw [if_neg h]; exact ⟨hp, fun e => absurd e Bool.false_ne_true⟩
theorem pNs_pos {mst : Nat → Int32} : ∀ k i p vs, p ≤ N → (∀ i', i' < i → ∃ u, u < 100000 ∧ vs i' = nI u ∧ ¬ mst i' < nI u) → (pNs w N mst k i p vs).2.1 ≤ N ∧ ((pNs w N mst k i p vs).1 = true → p ≤ (pNs w N mst k i p vs).2.1 ∧ ∀ i', i' < i + k → ∃ u, u < 100000 ∧ (pNs w N mst k i p vs).2.2 i' = nI u ∧ ¬ mst i' < nI u)
  | 0, i, p, vs, hp, hv => ⟨hp, fun _ => ⟨Nat.le_refl _, hv⟩⟩
  | k + 1, i, p, vs, hp, hv => by
    unfold pNs
    obtain ⟨n1, n2⟩ := pN_pos (w := w) (N := N) (most := mst i) hp
    by_cases h : (pN w N (mst i) p).1 = true
    · rw [if_pos h]
      obtain ⟨n3, u, hu, eu, nu⟩ := n2 h
      obtain ⟨r1, r2⟩ := pNs_pos (mst := mst) k (i + 1) (pN w N (mst i) p).2.1 (upd vs i (pN w N (mst i) p).2.2) n1 (fun i' hi' => by
        by_cases e : i' = i
        · rw [e]
          refine ⟨u, hu, ?_, nu⟩
          rw [← eu]
          simp [upd]
        · obtain ⟨u', h1, h2, h3⟩ := hv i' (by omega)
          refine ⟨u', h1, ?_, h3⟩
          rw [← h2]
          simp [upd, e])
      refine ⟨r1, fun e => ?_⟩
      obtain ⟨s1, s2⟩ := r2 e
      exact ⟨by omega, fun i' hi' => s2 i' (by omega)⟩
    · rw [if_neg h]; exact ⟨n1, fun e => absurd e Bool.false_ne_true⟩
theorem wf_cases (x : Int32) : v_X2_wordFrom x = -1 ∨ ∃ j, j < 6 ∧ v_X2_wordFrom x = nI j ∧ ¬ x = -1 := by
  unfold v_X2_wordFrom
  by_cases h1 : x = 99
  · rw [if_pos h1]; exact Or.inr ⟨3, by decide, rfl, by rw [h1]; decide⟩
  · rw [if_neg h1]
    by_cases h2 : x = 102
    · rw [if_pos h2]; exact Or.inr ⟨0, by decide, rfl, by rw [h2]; decide⟩
    · rw [if_neg h2]
      by_cases h3 : x = 104
      · rw [if_pos h3]; exact Or.inr ⟨2, by decide, rfl, by rw [h3]; decide⟩
      · rw [if_neg h3]
        by_cases h4 : x = 111
        · rw [if_pos h4]; exact Or.inr ⟨5, by decide, rfl, by rw [h4]; decide⟩
        · rw [if_neg h4]
          by_cases h5 : x = 112
          · rw [if_pos h5]; exact Or.inr ⟨1, by decide, rfl, by rw [h5]; decide⟩
          · rw [if_neg h5]
            by_cases h6 : x = 119
            · rw [if_pos h6]; exact Or.inr ⟨4, by decide, rfl, by rw [h6]; decide⟩
            · rw [if_neg h6]; exact Or.inl rfl
theorem pIt_pos {J : zI} {j p : Nat} (hj : j < 6) (hp : p ≤ N) : (pIt w N J j p).2.1 ≤ N ∧ ((pIt w N J j p).1 = true → p < (pIt w N J j p).2.1 ∧ roomP J j = true ∧ ∃ vs : Nat → Int32, (pIt w N J j p).2.2 = updJ J j vs ∧ ∀ i, i < cntJ j → ∃ u, u < 100000 ∧ vs i = nI u ∧ ¬ mstP J j i < nI u) ∧ (¬ (pIt w N J j p).1 = true → (pIt w N J j p).2.2 = J) := by
  unfold pIt
  obtain ⟨a1, a2⟩ := pWf_pos (w := w) (N := N) hj (lnP j) 0 p (by omega) hp
  obtain ⟨b1, b2⟩ := pNs_pos (w := w) (N := N) (mst := mstP J j) (cntJ j) 0 (pWf w N j (lnP j) 0 p).2 (fun _ => 0) a1 (fun i' hi' => absurd hi' (Nat.not_lt_zero _))
  obtain ⟨l1, l2, -⟩ := bs_tab j hj
  by_cases h1 : (pWf w N j (lnP j) 0 p).1 = true
  · rw [if_pos h1]
    by_cases h2 : roomP J j = true
    · rw [if_pos h2]
      by_cases h3 : (pNs w N (mstP J j) (cntJ j) 0 (pWf w N j (lnP j) 0 p).2 (fun _ => 0)).1 = true
      · rw [if_pos h3]
        obtain ⟨c1, c2⟩ := b2 h3
        have := a2 h1
        refine ⟨b1, fun _ => ⟨by show p < (pNs w N (mstP J j) (cntJ j) 0 (pWf w N j (lnP j) 0 p).2 (fun _ => 0)).2.1; omega, h2, _, rfl, fun i hi => c2 i (by omega)⟩, fun e => absurd rfl e⟩
      · rw [if_neg h3]; exact ⟨b1, fun e => absurd e Bool.false_ne_true, fun _ => rfl⟩
    · rw [if_neg h2]; exact ⟨hp, fun e => absurd e Bool.false_ne_true, fun _ => rfl⟩
  · rw [if_neg h1]; exact ⟨a1, fun e => absurd e Bool.false_ne_true, fun _ => rfl⟩
theorem pItem_pos {J : zI} {p : Nat} (hp : p ≤ N) : (pItem w N J p).2.1 ≤ N ∧ ((pItem w N J p).1 = true → p < (pItem w N J p).2.1 ∧ ∃ j, j < 6 ∧ roomP J j = true ∧ ∃ vs : Nat → Int32, (pItem w N J p).2.2 = updJ J j vs ∧ ∀ i, i < cntJ j → ∃ u, u < 100000 ∧ vs i = nI u ∧ ¬ mstP J j i < nI u) ∧ (¬ (pItem w N J p).1 = true → (pItem w N J p).2.2 = J) := by
  unfold pItem
  rcases wf_cases (sgP w N p) with h | ⟨j, hj, ej, -⟩
  · rw [if_pos h]
    exact ⟨hp, fun e => absurd e Bool.false_ne_true, fun _ => rfl⟩
  · rw [ej, if_neg (fun e => n_neg (a := -1) (by decide) j (by omega) e.symm), zcl (by omega)]
    obtain ⟨q1, q2, q3⟩ := pIt_pos (J := J) hj hp
    exact ⟨q1, fun e => by obtain ⟨r1, r2, r3⟩ := q2 e; exact ⟨r1, j, hj, r2, r3⟩, q3⟩
end ZPU
/-- the street that a press makes: what is kept -/
def keepJ (J0 : zI) (n0 m0 : Nat) (J : zI) : Prop := (∀ j, j < n0 → J 91 j = J0 91 j) ∧ (∀ i, i < m0 → J 92 i = J0 92 i ∧ J 93 i = J0 93 i ∧ J 94 i = J0 94 i ∧ J 96 i = J0 96 i) ∧ (∀ x, x < 16 * m0 → J 97 x = J0 97 x) ∧ (∀ j, j ≠ 3 → j ≠ 5 → j ≠ 12 → j ≠ 13 → j ≠ 14 → J 87 j = J0 87 j) ∧ ∃ n m, n0 ≤ n ∧ m0 ≤ m ∧ n ≤ 8 ∧ m ≤ 8 ∧ J 87 3 = nI n ∧ J 87 5 = nI m
theorem keepJ_upd {J0 J : zI} {n0 m0 j : Nat} {vs : Nat → Int32} (h : keepJ J0 n0 m0 J) (hr : roomP J j = true) : keepJ J0 n0 m0 (updJ J j vs) := by
  obtain ⟨k1, k2, k3, k4, n, m, hn, hm, hn8, hm8, e3, e5⟩ := h
  unfold updJ
  by_cases j0 : j = 0
  · subst j0
    rw [if_pos rfl]
    have hlt : n < 8 := by
      unfold roomP at hr
      rw [if_pos rfl, e3] at hr
      exact (n_lt (by omega) (by decide)).mp (of_decide_eq_true hr : nI n < nI 8)
    unfold uLet
    rw [e3, zcl (by omega), ← nI_succ]
    refine ⟨fun j hj => ?_, fun i hi => ?_, fun x hx => ?_, fun j h1 h2 h3 h4 h5 => ?_, n + 1, m, by omega, hm, by omega, hm8, ?_, ?_⟩
    · rw [zs_ne (by omega), zs_nec (by decide)]; exact k1 j hj
    · rw [zs_nec (show 92 ≠ 91 by decide), zs_nec (show 92 ≠ 87 by decide), zs_nec (show 93 ≠ 91 by decide), zs_nec (show 93 ≠ 87 by decide), zs_nec (show 94 ≠ 91 by decide), zs_nec (show 94 ≠ 87 by decide), zs_nec (show 96 ≠ 91 by decide), zs_nec (show 96 ≠ 87 by decide)]; exact k2 i hi
    · rw [zs_nec (by decide), zs_nec (by decide)]; exact k3 x hx
    · rw [zs_nec (by decide), zs_ne (fun z => h1 z.2)]; exact k4 j h1 h2 h3 h4 h5
    · rw [zs_nec (by decide), zs_same]
    · rw [zs_nec (by decide), zs_ne (by omega)]; exact e5
  · rw [if_neg j0]
    by_cases j1 : j = 1
    · subst j1
      rw [if_pos rfl]
      have hlt : m < 8 := by
        unfold roomP at hr
        rw [if_neg (by decide), if_pos rfl, e5] at hr
        exact (n_lt (by omega) (by decide)).mp (of_decide_eq_true hr : nI m < nI 8)
      unfold uPane
      rw [e5, zcl (by omega), ← nI_succ]
      refine ⟨fun j hj => ?_, fun i hi => ⟨?_, ?_, ?_, ?_⟩, fun x hx => ?_, fun j h1 h2 h3 h4 h5 => ?_, n, m + 1, hn, by omega, hn8, by omega, ?_, ?_⟩
      · dsimp only
        rw [if_neg (by omega), if_neg (by omega), if_neg (by omega), if_neg (by omega), if_neg (by omega), if_neg (by omega), if_neg (by omega)]; exact k1 j hj
      · dsimp only
        rw [if_neg (by omega), if_neg (by omega), if_neg (by omega), if_neg (by omega), if_neg (by omega), if_neg (by omega), if_neg (by omega)]; exact (k2 i hi).1
      · dsimp only
        rw [if_neg (by omega), if_neg (by omega), if_neg (by omega), if_neg (by omega), if_neg (by omega), if_neg (by omega), if_neg (by omega)]; exact (k2 i hi).2.1
      · dsimp only
        rw [if_neg (by omega), if_neg (by omega), if_neg (by omega), if_neg (by omega), if_neg (by omega), if_neg (by omega), if_neg (by omega)]; exact (k2 i hi).2.2.1
      · dsimp only
        rw [if_neg (by omega), if_neg (by omega), if_neg (by omega), if_neg (by omega), if_neg (by omega), if_neg (by omega), if_neg (by omega)]; exact (k2 i hi).2.2.2
      · dsimp only
        rw [if_neg (by omega), if_neg (by omega), if_neg (by omega), if_neg (by omega), if_neg (by omega), if_neg (by omega), if_neg (by omega)]; exact k3 x hx
      · dsimp only
        rw [if_neg (by omega), if_neg (by omega), if_neg (by omega), if_neg (by omega), if_neg (by omega), if_neg (by omega), if_neg (by omega)]; exact k4 j h1 h2 h3 h4 h5
      · dsimp only
        rw [if_neg (by omega), if_neg (by omega), if_neg (by omega), if_neg (by omega), if_neg (by omega), if_neg (by omega), if_neg (by omega)]; exact e3
      · dsimp only
        rw [if_pos ⟨rfl, rfl⟩]
    · rw [if_neg j1]
      by_cases j2 : j = 2
      · rw [if_pos j2]
        refine ⟨fun j hj => by rw [zs_nec (by decide)]; exact k1 j hj, fun i hi => by rw [zs_nec (show 92 ≠ 95 by decide), zs_nec (show 93 ≠ 95 by decide), zs_nec (show 94 ≠ 95 by decide), zs_nec (show 96 ≠ 95 by decide)]; exact k2 i hi, fun x hx => by rw [zs_nec (by decide)]; exact k3 x hx, fun j h1 h2 h3 h4 h5 => by rw [zs_nec (by decide)]; exact k4 j h1 h2 h3 h4 h5, n, m, hn, hm, hn8, hm8, by rw [zs_nec (by decide)]; exact e3, by rw [zs_nec (by decide)]; exact e5⟩
      · rw [if_neg j2]
        have key : ∀ (f : Nat) (v : Int32), f = 12 ∨ f = 13 ∨ f = 14 → keepJ J0 n0 m0 (zs J 87 f v) := fun f v hf => ⟨fun j hj => by rw [zs_nec (by decide)]; exact k1 j hj, fun i hi => by rw [zs_nec (show 92 ≠ 87 by decide), zs_nec (show 93 ≠ 87 by decide), zs_nec (show 94 ≠ 87 by decide), zs_nec (show 96 ≠ 87 by decide)]; exact k2 i hi, fun x hx => by rw [zs_nec (by decide)]; exact k3 x hx, fun j h1 h2 h3 h4 h5 => by rw [zs_ne (by omega)]; exact k4 j h1 h2 h3 h4 h5, n, m, hn, hm, hn8, hm8, by rw [zs_ne (by omega)]; exact e3, by rw [zs_ne (by omega)]; exact e5⟩
        by_cases j3 : j = 3
        · rw [if_pos j3]; exact key 12 _ (by omega)
        · rw [if_neg j3]
          by_cases j4 : j = 4
          · rw [if_pos j4]; exact key 13 _ (by omega)
          · rw [if_neg j4]; exact key 14 _ (by omega)
theorem keepJ_item {w : Nat → Int32} {N : Nat} {J0 J : zI} {n0 m0 p : Nat} (hp : p ≤ N) (h : keepJ J0 n0 m0 J) : keepJ J0 n0 m0 (pItem w N J p).2.2 := by
  obtain ⟨q1, q2, q3⟩ := pItem_pos (w := w) (N := N) (J := J) hp
  by_cases e : (pItem w N J p).1 = true
  · obtain ⟨-, j, hj, hr, vs, ev, -⟩ := q2 e
    rw [ev]
    exact keepJ_upd h hr
  · rw [q3 e]
    exact h
