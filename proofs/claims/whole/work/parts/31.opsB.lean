/-! OPERATIONS: winter, hours -/
theorem wb_of32 (x : Int32) : ∃ n, n < 2 ^ 32 ∧ x = nI n := ⟨x.toBitVec.toNat, x.toBitVec.isLt, Int32.toBitVec_inj.mp (by show _ = BitVec.ofNat 32 _; simp)⟩
theorem draw_le (x : Int32) {d : Nat} (h0 : 0 < d) (hd : d < 1000) : ∃ r, r < d ∧ jrem (jushr x 16) (nI d) = nI r := by
  obtain ⟨n, hn, rfl⟩ := wb_of32 x
  have e : jushr (nI n) 16 = nI (n / 2 ^ 16) := pk_ushrN hn 16 16 (by decide)
  have hq : n / 2 ^ 16 < 65536 := by omega
  rw [e]
  exact ⟨n / 2 ^ 16 % d, Nat.mod_lt _ h0, pk_rem (by omega) h0 (by omega)⟩
def dw (d : Int32) : Int32 := d * 1103515245 + 12345
def wd (d : Int32) : Nat → Int32
  | 0 => d
  | k + 1 => dw (dw (wd d k))
def wc (d : Int32) (k : Nat) : Int32 := jrem (jushr (dw (wd d k)) 16) 41
def ww (d : Int32) (k : Nat) : Int32 := jrem (jushr (dw (dw (wd d k))) 16) 10
theorem zle_wc (d : Int32) (k : Nat) : zle 40 (wc d k) := by
  obtain ⟨r, hr, e⟩ := draw_le (dw (wd d k)) (d := 41) (by decide) (by decide)
  exact ⟨r, by omega, e⟩
theorem zle_ww (d : Int32) (k : Nat) : zle 9 (ww d k) := by
  obtain ⟨r, hr, e⟩ := draw_le (dw (dw (wd d k))) (d := 10) (by decide) (by decide)
  exact ⟨r, by omega, e⟩
def wn (I : zI) (n m : Nat) (d : Int32) : Nat → Int32
  | 0 => 0
  | k + 1 => wn I n m d k + (if nbit I n (wc d k) (ww d k) m = 0 then 0 else 1)
theorem forty (a : Int32) : ((a < 1 ∨ (¬ a < 1 ∧ 40 < a)) ∧ v_X7_within a 1 40 = 0) ∨ ∃ k, k < 40 ∧ a = nI (k + 1) ∧ ¬ a < 1 ∧ ¬ 40 < a ∧ v_X7_within a 1 40 = 1 := by
  unfold v_X7_within
  by_cases h : a < 1
  · exact Or.inl ⟨Or.inl h, by rw [if_pos h]⟩
  · by_cases h2 : 40 < a
    · exact Or.inl ⟨Or.inr ⟨h, h2⟩, by rw [if_neg h, if_pos h2]⟩
    · have hn : ¬ a < 0 := by
        rw [i_lt] at *
        rw [show (1 : Int32).toInt = 1 from rfl] at h
        rw [show (0 : Int32).toInt = 0 from rfl]
        omega
      obtain ⟨k, hk, rfl⟩ := n_of hn
      rw [show (40 : Int32) = nI 40 from rfl, n_lt (by decide) hk] at h2
      rw [show (1 : Int32) = nI 1 from rfl, n_lt hk (by decide)] at h
      refine Or.inr ⟨k - 1, by omega, by rw [show k - 1 + 1 = k by omega], ?_, ?_, ?_⟩
      · rw [show (1 : Int32) = nI 1 from rfl, n_lt hk (by decide)]; exact h
      · rw [show (40 : Int32) = nI 40 from rfl, n_lt (by decide) hk]; exact h2
      · rw [if_neg (show ¬ nI k < 1 from by rw [show (1 : Int32) = nI 1 from rfl, n_lt hk (by decide)]; exact h), if_neg (show ¬ 40 < nI k from by rw [show (40 : Int32) = nI 40 from rfl, n_lt (by decide) hk]; exact h2)]
theorem sim_winter (a1 : Int32) : Sim M_X6_winter 7 M_X7_winter 4 [vI a1] := by
  rintro l g I L ⟨n, m, h⟩
  obtain ⟨hW, hN, hn, hm, e2, e2', e3, e3', e4, e5, e6, hf⟩ := Rn_wx h
  obtain ⟨-, -, -, -, -, -, -, w7, w8, w9, -, -⟩ := h.1
  refine m_X6_winter ?_
  rcases forty a1 with ⟨w, w2⟩ | ⟨N, hN40, rfl, w1, w2, w3⟩
  · have key : Call l g 1 M_X6_refuse [vR 1, vI (-6)] I L (zi fun r2 I2 L2 => SimQ l g M_X7_winter 4 [vR 87, vI a1] (some (vI r2)) I2 L2) := both_no (k := 6) (by decide) rfl h (fun Q hq => m_X7_winter (fun k hk X E => by rw [if_pos w2, hk]; exact hq))
    rcases w with w | ⟨w, w'⟩
    · rw [if_pos w]; exact key
    · rw [if_neg w, if_pos w']; exact key
  rw [if_neg w1, if_neg w2]
  generalize hd : I 87 17 = d at w9
  refine m_X4_passWinter rfl (fun k hk X E => ?_)
  refine zdown (N := N + 1) (P := fun j => ∀ A : zI, (∀ a, a ≠ 2 → (∀ i, i < m → a ≠ 6 + 2 * i) → A a = I a) → (A 2 2 = I 2 2 ∧ A 2 3 = I 2 3 ∧ A 2 6 = I 2 6) → A 2 9 = wd d j → A 2 8 = I 2 8 + wn I n m d j → (∀ j', j = j' + 1 → A 2 4 = wc d j' ∧ A 2 5 = ww d j' ∧ A 2 7 = 0 ∧ ∀ i, i < m → ∀ c, c < 16 → A (6 + 2 * i) c = nrow I (wc d j') (ww d j') i c) → AW k g 4 A L 4 [(0, vR 2), (1, vI (nI (N + 1))), (2, vI (wn I n m d j)), (3, vI (nI j))] []) (fun A a1 a2 a3 a4 a5 => ?_) (fun j hj ih A a1 a2 a3 a4 a5 => ?_) (c := 0) (by omega) I (fun _ _ _ => rfl) ⟨rfl, rfl, rfl⟩ w9 (Int32.add_zero _).symm (fun j' e => absurd e (by omega))
  · refine s_X4_passWinter_4 rfl X E ?_
    rw [if_neg (nI_nlt (Nat.le_refl _) (by omega))]
    refine ⟨_, rfl, _, rfl, m_X7_winter (fun kz hkz X2 E2 => ?_)⟩
    obtain ⟨b4, b5, b7, br⟩ := a5 N rfl
    have t87 : A 87 = I 87 := a1 87 (by omega) (fun i _ => by omega)
    rw [if_neg (ne0 w3), t87]
    refine zdown (N := N + 1) (P := fun j => ∀ B : zI, (∀ a, a ≠ 87 → a ≠ 97 → a ≠ 101 → B a = A a) → (∀ x, (x < 12 ∨ 17 < x ∨ x = 14) → B 87 x = I 87 x) → B 87 17 = wd d j → B 87 16 = I 87 16 + wn I n m d j → (∀ j', j = j' + 1 → B 87 12 = wc d j' ∧ B 87 13 = ww d j' ∧ B 87 15 = 0 ∧ ∀ i, i < m → ∀ c, c < 16 → B 97 (16 * i + c) = nrow I (wc d j') (ww d j') i c) → AW kz g 4 B L 24 [(0, vR 87), (1, vI (nI (N + 1))), (2, vI (I 87 16)), (3, vI (nI j))] []) (fun B c1 c2 c3 c4 c5 => ?_) (fun j hj ih B c1 c2 c3 c4 c5 => ?_) (c := 0) (by omega) A (fun _ _ _ _ => rfl) (fun x _ => by rw [t87]) (by rw [t87]; exact hd) (by rw [t87]; exact (Int32.add_zero _).symm) (fun j' e => absurd e (by omega))
    · refine s_X7_winter_24 X2 E2 ?_
      obtain ⟨d12, d13, d15, dr⟩ := c5 N rfl
      rw [if_neg (nI_nlt (Nat.le_refl _) (by omega)), c4]
      have q2 : B 2 = A 2 := c1 2 (by decide) (by decide) (by decide)
      refine ⟨_, rfl, ?_, n, m, Rn_dyn h (fun a s b2 b87 b97 bi => ?_) ?_ (fun x hx => c2 x (by omega)) ?_ ?_ ?_ ?_ ?_ ?_ (fun i hi c hc => ?_)⟩
      · rw [Int32.add_comm, Int32.add_sub_cancel]
      · rw [c1 a b87 b97 (by unfold scr at s; omega)]
        exact a1 a b2 bi
      · rw [q2]; exact ⟨a2.1, a2.2.1⟩
      · rw [q2, b4, d12]; exact ⟨rfl, zle_wc d N⟩
      · rw [q2, b5, d13]; exact ⟨rfl, zle_ww d N⟩
      · rw [q2, a2.2.2, c2 14 (by omega)]; exact ⟨e6, hW.2.2⟩
      · rw [q2, b7, d15]; exact ⟨rfl, 0, by decide, rfl⟩
      · rw [q2, a4, c4, w8]
      · rw [q2, a3, c3]
      · rw [c1 (6 + 2 * i) (by omega) (by omega) (by omega), br i hi c hc, dr i hi c hc]
        exact ⟨rfl, zle_nrow h hi (zle_wc d N) (zle_ww d N) c⟩
    · refine s_X7_winter_24 X2 E2 ?_
      rw [if_pos (nI_lt (show j < N + 1 by omega) (by omega))]
      refine m_X7_draw ?_
      rintro I1 rfl
      refine ⟨by decide, _, rfl, ?_⟩
      rintro I3 rfl
      refine m_X7_draw ?_
      rintro I1 rfl
      refine ⟨by decide, _, rfl, ?_⟩
      intro I5 e5'
      have v1 : I5 87 17 = wd d (j + 1) := by
        rw [e5', zs_ne (fun z => by omega), zs_same, zs_ne (fun z => by omega), zs_same, c3]
        rfl
      have v12 : I5 87 12 = wc d j := by
        rw [e5', zs_ne (fun z => by omega), zs_ne (fun z => by omega), zs_same, zs_same, c3]
        rfl
      have v13 : I5 87 13 = ww d j := by
        rw [e5', zs_same, zs_same, zs_ne (fun z => by omega), zs_same, c3]
        rfl
      have vo : ∀ x, x ≠ 12 → x ≠ 13 → x ≠ 17 → I5 87 x = B 87 x := fun x h12 h13 h17 => by rw [e5', zs_ne (fun z => h13 z.2), zs_ne (fun z => h17 z.2), zs_ne (fun z => h12 z.2), zs_ne (fun z => h17 z.2)]
      have va : ∀ a, a ≠ 87 → I5 a = B a := fun a ha => by rw [e5', zs_nec ha, zs_nec ha, zs_nec ha, zs_nec ha]
      obtain ⟨q1, q2, q3, q4, q5, q6, q7, q8⟩ := MP_of h
      have hM : MPn I I5 n m (wc d j) (ww d j) := ⟨hn, hm, by rw [vo 3 (by decide) (by decide) (by decide), c2 3 (by omega)]; exact q3, by rw [vo 5 (by decide) (by decide) (by decide), c2 5 (by omega)]; exact q4, v12, v13, fun a ha hb => by rw [va a (by omega), c1 a (by omega) (by omega) (by omega)]; exact a1 a (by omega) (fun i _ => by omega), q8⟩
      refine m_night hM (fun B2 k1 k2 k3 k4 k5 => ⟨_, rfl, ?_⟩)
      rw [← nI_succ]
      refine ih B2 (fun a h1 h2 h3 => by rw [k1 a h1 h2 h3, va a h1]; exact c1 a h1 h2 h3) (fun x hx => by rw [k2 x (by omega) (by omega), vo x (by omega) (by omega) (by omega)]; exact c2 x hx) (by rw [k2 17 (by decide) (by decide)]; exact v1) ?_ (fun j' e => ?_)
      · rw [k4, vo 16 (by decide) (by decide) (by decide), c4, Int32.add_assoc]
        rfl
      · obtain rfl : j = j' := by omega
        exact ⟨by rw [k2 12 (by decide) (by decide)]; exact v12, by rw [k2 13 (by decide) (by decide)]; exact v13, k3, k5⟩
  · refine s_X4_passWinter_4 rfl X E ?_
    rw [if_pos (nI_lt (show j < N + 1 by omega) (by omega))]
    refine m_X4_drawBelow rfl ?_
    rintro I1 rfl
    refine ⟨_, rfl, ?_⟩
    rintro I3 rfl
    refine m_X4_drawBelow rfl ?_
    rintro I1 rfl
    refine ⟨_, rfl, ?_⟩
    intro I5 e5'
    rw [if_pos (by decide), if_pos (by decide)] at e5'
    have v1 : I5 2 9 = wd d (j + 1) := by
      rw [e5', zs_ne (fun z => by omega), zs_same, zs_ne (fun z => by omega), zs_same, a3]
      rfl
    have v4 : I5 2 4 = wc d j := by
      rw [e5', zs_ne (fun z => by omega), zs_ne (fun z => by omega), zs_same, zs_same, a3]
      rfl
    have v5 : I5 2 5 = ww d j := by
      rw [e5', zs_same, zs_same, zs_ne (fun z => by omega), zs_same, a3]
      rfl
    have vo : ∀ x, x ≠ 4 → x ≠ 5 → x ≠ 9 → I5 2 x = A 2 x := fun x h4 h5 h9 => by rw [e5', zs_ne (fun z => h5 z.2), zs_ne (fun z => h9 z.2), zs_ne (fun z => h4 z.2), zs_ne (fun z => h9 z.2)]
    have va : ∀ a, a ≠ 2 → I5 a = A a := fun a ha => by rw [e5', zs_nec ha, zs_nec ha, zs_nec ha, zs_nec ha]
    obtain ⟨q1, q2, q3, q4, q5, q6, q7, q8⟩ := CP_of h
    have hC : CPn I I5 n m (wc d j) (ww d j) := ⟨hn, hm, by rw [vo 2 (by decide) (by decide) (by decide), a2.1]; exact q3, by rw [vo 3 (by decide) (by decide) (by decide), a2.2.1]; exact q4, v4, v5, fun x hx => by rw [va 3 (by decide), a1 3 (by decide) (fun i _ => by omega)]; exact q7 x hx, fun i hi => by
      have := q8 i hi
      rw [va (5 + 2 * i) (by omega), a1 (5 + 2 * i) (by omega) (fun i' _ => by omega)]
      exact this⟩
    refine c_passNight hC (fun A2 k1 k2 k3 k4 k5 => ⟨_, rfl, ?_⟩)
    rw [← nI_succ]
    refine ih A2 (fun a h1 h2 => by rw [k1 a h1 h2, va a h1]; exact a1 a h1 h2) ⟨by rw [k2 2 (by decide) (by decide), vo 2 (by decide) (by decide) (by decide)]; exact a2.1, by rw [k2 3 (by decide) (by decide), vo 3 (by decide) (by decide) (by decide)]; exact a2.2.1, by rw [k2 6 (by decide) (by decide), vo 6 (by decide) (by decide) (by decide)]; exact a2.2.2⟩ (by rw [k2 9 (by decide) (by decide)]; exact v1) ?_ (fun j' e => ?_)
    · rw [k4, vo 8 (by decide) (by decide) (by decide), a4, Int32.add_assoc]
      rfl
    · obtain rfl : j = j' := by omega
      exact ⟨by rw [k2 4 (by decide) (by decide)]; exact v4, by rw [k2 5 (by decide) (by decide)]; exact v5, k3, k5⟩
