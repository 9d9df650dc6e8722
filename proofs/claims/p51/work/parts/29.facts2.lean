/-! PURE FACTS: remainders, bits, ice hour by hour, what lasts, what could be -/
theorem some_in (a : Int32) {d : Nat} (h0 : 0 < d) (hd : d < 1000) : ∃ r, r < d ∧ v_L_some a (nI d) = nI r := by
  have hm : (nI d).toInt = d := n_toInt (by omega)
  have hr : (jrem a (nI d)).toInt = a.toInt.tmod d := by rw [show jrem a (nI d) = a - (a / nI d) * nI d from rfl, rem_toInt, hm]
  have t := tmod_bounds (a := a.toInt) (M := (d : Int)) (by omega)
  unfold v_L_some
  by_cases hn : jrem a (nI d) < 0
  · rw [if_pos hn]
    rw [i_lt, hr, show (0 : Int32).toInt = 0 from rfl] at hn
    refine ⟨(a.toInt.tmod d + d).toNat, by omega, ?_⟩
    rw [i_eq, fb_addI (by rw [hr, hm]; omega) (by rw [hr, hm]; omega), hr, hm, n_toInt (by omega)]
    omega
  · rw [if_neg hn]
    rw [i_lt, hr, show (0 : Int32).toInt = 0 from rfl] at hn
    refine ⟨(a.toInt.tmod d).toNat, by omega, ?_⟩
    rw [i_eq, hr, n_toInt (by omega)]
    omega
theorem bt_nI (c i : Nat) : bt (nI c) i = (decide (i < 32) && c.testBit i) := by
  show (BitVec.ofNat 32 c).getLsbD i = _
  rw [BitVec.getLsbD_ofNat]
theorem nI_all (x : Int32) : ∃ k, k < 4294967296 ∧ x = nI k := ⟨x.toBitVec.toNat, x.toBitVec.isLt, Int32.toBitVec_inj.mp (by show _ = BitVec.ofNat 32 _; simp)⟩
theorem z16_of {x : Int32} (h : ∀ i, 16 ≤ i → i < 32 → bt x i = false) : zle 65535 x := by
  obtain ⟨k, hk, rfl⟩ := nI_all x
  have : k < 2 ^ 16 := by
    refine Nat.lt_pow_two_of_testBit k (fun i hi => ?_)
    rcases Nat.lt_or_ge i 32 with h2 | h2
    · have := h i hi h2
      rw [bt_nI, decide_eq_true h2, Bool.true_and] at this
      exact this
    · exact Nat.testBit_lt_two_pow (Nat.lt_of_lt_of_le (show k < 2 ^ 32 from hk) (Nat.pow_le_pow_right (by decide) h2))
  exact ⟨k, by omega, rfl⟩
theorem z16_bt {x : Int32} (h : zle 65535 x) {i : Nat} (hi : 16 ≤ i) : bt x i = false := by
  obtain ⟨k, hk, rfl⟩ := h
  rw [bt_nI, Nat.testBit_lt_two_pow (Nat.lt_of_lt_of_le (show k < 2 ^ 16 by omega) (Nat.pow_le_pow_right (by decide) hi)), Bool.and_false]
theorem z16_and (x : Int32) : zle 65535 (x &&& 65535) := z16_of (fun i h1 h2 => by rw [b_and, b_65535, decide_eq_false (by omega), Bool.and_false])
theorem z16_or {x y : Int32} (hx : zle 65535 x) (hy : zle 65535 y) : zle 65535 (x ||| y) := z16_of (fun i h1 h2 => by rw [b_or, z16_bt hx h1, z16_bt hy h1]; rfl)
theorem z16_xor {x y : Int32} (hx : zle 65535 x) (hy : zle 65535 y) : zle 65535 (x ^^^ y) := z16_of (fun i h1 h2 => by rw [b_xor, z16_bt hx h1, z16_bt hy h1]; rfl)
theorem z16_bit {c : Nat} (hc : c < 16) : zle 65535 (jshl 1 (nI c)) := z16_of (fun i h1 h2 => by rw [bt_jshl1 (by omega) h2, decide_eq_false (by omega)])
theorem z16_frost (f : Nat → Int32) : zle 65535 (frost f 16) := z16_of (fun i h1 h2 => by rw [frost_bt f 16 (by decide) i h2, decide_eq_false (by omega), Bool.false_and])
/-- one hour: how much a cell can lose -/
theorem mel_step {m : Int32} {f : Nat → Int32} {c b v : Nat} (hc : c < 16) (hm : m = nI b) (hb : b ≤ 30) (hv : f c = nI v) (hv2 : v ≤ 20) (hf : ∀ j, j < 16 → zle 20 (f j)) : ∃ w, mel m f c = nI w ∧ w ≤ v ∧ v ≤ w + b + 1 ∧ (0 < b → 0 < v → w < v) := by
  unfold mel
  rw [hm, hv]
  by_cases h0 : 0 < b
  · rw [if_pos (show 0 < nI b from (nI_lt h0 (by omega) : nI 0 < nI b))]
    by_cases hz : frost f 16 = 0
    · rw [if_pos hz]
      have := (frost_0 (f := f) (n := 16) (by decide)).mp hz c hc
      rw [hv, show (0 : Int32) = nI 0 from rfl, n_lt (by decide) (by omega)] at this
      exact ⟨v, rfl, Nat.le_refl _, by omega, fun _ h => absurd h this⟩
    · rw [if_neg hz]
      split
      · rw [← nI_succ, n_max (by omega) (by omega)]
        exact ⟨v - (b + 1), rfl, by omega, by omega, fun _ _ => by omega⟩
      · rw [n_max (by omega) (by omega)]
        exact ⟨v - b, rfl, by omega, by omega, fun _ _ => by omega⟩
  · rw [if_neg (show ¬ 0 < nI b from (nI_nlt (by omega) (by omega) : ¬ nI 0 < nI b))]
    exact ⟨v, rfl, Nat.le_refl _, by omega, fun h => absurd h h0⟩
section ZFA
variable {I V : zI} {n m i h c : Nat} {x : Int32}
theorem obI_z (hR : RC I V n m) (hi : i < m) (h : Nat) (x : Int32) : ∀ c, c < 16 → zle 20 (obI V i x h c) := by
  obtain ⟨hW, -⟩ := RC_wx hR
  obtain ⟨⟨i8, z0, z1, z2⟩, -⟩ := RC_pane hR hi
  exact fun c hc => zle_hrs z1 hW.2.2 (fun y _ => zle_ice0 z2 hW.1 hW.2.1 y) h c hc
theorem mev_z (hR : RC I V n m) (hi : i < m) (h : Nat) : zle 30 (mev V i h) := by
  obtain ⟨hW, -⟩ := RC_wx hR
  obtain ⟨⟨i8, z0, z1, z2⟩, -⟩ := RC_pane hR hi
  exact zle_me z1 hW.2.2
theorem obI_s (V : zI) (i : Nat) (x : Int32) (h c : Nat) : obI V i x (h + 1) c = mel (mev V i h) (obI V i x h) c := by
  show mel (fMe (V 92 i) (V 93 i) (V 94 i) (nI (0 + h)) (V 87 14)) _ c = _
  rw [Nat.zero_add]
  rfl
theorem obI_scr (hc : c < 16) (hb : (jshr (V 96 i) (nI c)) &&& 1 = 1) : obI V i x 0 c = 0 := by
  rw [cellbit (show c < 32 by omega) rfl] at hb
  have hbt : bt (V 96 i) c = true := by
    cases e : bt (V 96 i) c
    · rw [e] at hb; exact absurd hb (by decide)
    · rfl
  show fFr (V 92 i) (V 96 i) _ _ _ (nI c) = 0
  unfold fFr
  rw [hasCell_bit (show c < 32 by omega) rfl, hbt, if_pos rfl, if_neg (by decide)]
theorem obS_bit (V : zI) (i : Nat) (x : Int32) (h : Nat) (hc : c < 16) : (jshr (obS V i x h) (nI c)) &&& 1 = if 0 < obI V i x h c then 1 else 0 := by
  rw [cellbit (show c < 32 by omega) rfl, show obS V i x h = frost (obI V i x h) 16 from rfl, frost_bt _ 16 (by decide) c (by omega), decide_eq_true hc, Bool.true_and]
  by_cases e : 0 < obI V i x h c
  · rw [decide_eq_true e, if_pos rfl, if_pos e]
  · rw [decide_eq_false e, if_neg (by decide), if_neg e]
theorem obS_z (V : zI) (i : Nat) (x : Int32) (h : Nat) : zle 65535 (obS V i x h) := z16_frost _
end ZFA
/-- what lasts -/
theorem fst0_le (f : Nat → Int32) (x : Int32) : ∀ r c, fst0 f x r c ≤ c + r ∧ c ≤ fst0 f x r c
  | 0, c => ⟨by show c ≤ c + 0; omega, Nat.le_refl _⟩
  | r + 1, c => by
    unfold fst0
    have := fst0_le f x r (c + 1)
    split
    · omega
    · omega
theorem fst0_in (f : Nat → Int32) (x : Int32) : ∀ r c h, c ≤ h → h < fst0 f x r c → f h = x
  | 0, c, h, h1, h2 => absurd h2 (by show ¬ h < c; omega)
  | r + 1, c, h, h1, h2 => by
    unfold fst0 at h2
    by_cases e : f c = x
    · rw [if_pos e] at h2
      by_cases e2 : h = c
      · rw [e2]; exact e
      · exact fst0_in f x r (c + 1) h (by omega) h2
    · rw [if_neg e] at h2
      omega
theorem fst0_end (f : Nat → Int32) (x : Int32) : ∀ r c, fst0 f x r c < c + r → ¬ f (fst0 f x r c) = x
  | 0, c, h => absurd h (by show ¬ c < c + 0; omega)
  | r + 1, c, h => by
    unfold fst0 at h ⊢
    by_cases e : f c = x
    · rw [if_pos e] at h ⊢
      exact fst0_end f x r (c + 1) (by omega)
    · rw [if_neg e]
      exact e
/-- the letter that hangs there could hang there -/
theorem cdb_bit {V : zI} {i h j : Nat} {sh : Int32} (hj : j < 32) (he : obS V i (nI j) h = sh) : ∀ c, c ≤ 32 → j < c → bt (cdb V i sh h c) j = true
  | 0, _, hh => absurd hh (Nat.not_lt_zero _)
  | c + 1, hc, hh => by
    unfold cdb
    by_cases e : j = c
    · subst e
      rw [if_pos he, b_or, bt_jshl1 hj hj, decide_eq_true rfl, Bool.or_true]
    · have ih := cdb_bit hj he c (by omega) (by omega)
      split
      · rw [b_or, ih, Bool.true_or]
      · exact ih
theorem cdv_bit {V : zI} {n i h j : Nat} (hn : n ≤ 8) (hj : j < n) : ¬ (jshr (cdv V n i (obS V i (nI j) h) h) (nI j)) &&& 1 = 0 := by
  have h1 := cdb_bit (V := V) (i := i) (h := h) (j := j) (by omega) rfl n (by omega) hj
  rw [cellbit (show j < 32 by omega) rfl]
  unfold cdv
  have : bt (if obS V i (-1) h = obS V i (nI j) h then cdb V i (obS V i (nI j) h) h n ||| 256 else cdb V i (obS V i (nI j) h) h n) j = true := by
    split
    · rw [b_or, h1, Bool.true_or]
    · exact h1
  rw [this, if_pos rfl]
  decide
/-- nothing becomes itself -/
theorem bec_bit {z : Int32} {x : Nat} (hx : x < 8) : ¬ (jshr (z &&& (jshl 1 (nI x) ^^^ -1)) (nI x)) &&& 1 = 1 := by
  rw [cellbit (show x < 32 by omega) rfl, b_and, b_xor, bt_jshl1 (by omega) (by omega), b_m1 x (by omega), decide_eq_true rfl, Bool.xor_self, Bool.and_false, if_neg (by decide)]
  decide
