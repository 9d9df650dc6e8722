/-! THE LAW'S END: what was imaged comes back, shelves show what is there -/
theorem lcmp_self (x : Int64) : lg_cmp x x = 0 := by simp [lg_cmp]
def shN (I : zI) : Prop := ∀ s, s < 8 → I (66 + 2 * s) 4 = 0 ∧ I (66 + 2 * s) 3 = -1
/-- what stays from the image on -/
def KP (I V : zI) (n m : Nat) : Prop := I 1 8 = 1 ∧ RV I 21 V n m ∧ shN I
theorem shN_to {I I' : zI} (h : ∀ s, s < 8 → I' (66 + 2 * s) = I (66 + 2 * s)) (k : shN I) : shN I' := fun s hs => by rw [h s hs]; exact k s hs
theorem KP_fs {I I' V : zI} {n m : Nat} (f : FS I I') (k : KP I V n m) : KP I' V n m :=
  ⟨by rw [f 1 (Or.inl (by decide)) (by decide) (by unfold gl; omega)]; exact k.1, RV_cong (fun a h1 h2 => f a (Or.inr (by omega)) (by omega) (by unfold gl; omega)) k.2.1, shN_to (fun s hs => f _ (Or.inr (by omega)) (by omega) (by unfold gl; omega)) k.2.2⟩
theorem shK_N {I : zI} (h : shN I) : shK I := fun s hs => Or.inr ⟨(h s hs).1, Or.inl (h s hs).2⟩
theorem shK_re {I I' : zI} {m : Nat} (hK : shK I) (h : ∀ s, s < 8 → shR I I' m s) : shK I' := fun s hs => by
  obtain ⟨a, b, c⟩ := h s hs
  rcases hK s hs with r1 | ⟨r0, r3 | ⟨q, hq, r3⟩⟩
  · rw [a r1]; exact Or.inl r1
  · rw [b r0 r3]; exact Or.inr ⟨r0, Or.inl r3⟩
  · rcases Nat.lt_or_ge q m with hlt | hge
    · rw [(c q hq r0 r3).1 hlt]; exact Or.inr ⟨r0, Or.inr ⟨q, hq, r3⟩⟩
    · exact Or.inr ⟨((c q hq r0 r3).2 hge).1, Or.inl ((c q hq r0 r3).2 hge).2⟩
section ZLA
variable {g : zG} {I V : zI} {L : zL} {n m : Nat} {k : zK} {T : Int64}
/-- behind the shows: a row, the image comes back, twice -/
theorem law_940 (hb : gb g = true) (X : zX k g cL_law RL 13 (some .boolean) 11) (E : zEl k g) (hm : m ≤ 8) (h1 : I 1 8 = 1) (h21 : RV I 21 V n m) (hK : shK I) (s1 : I 68 4 = 0 ∧ I 68 3 = nI 7) (s2 : I 70 4 = 0 ∧ I 70 3 = if 0 < m then nI 0 else -1) (hT : T = TT V n m) : AW k g 13 I L 940 [(1, vR 1), (4, vI (nI m)), (5, vL T)] [] := by
  subst hT
  refine s_L_law_940 hb X E ?_
  refine u_row (fun I1 L1 g1 r4 r1 r2 => ⟨_, rfl, ?_⟩)
  dsimp only
  rw [if_pos rfl]
  refine u_set r4 r1 r2 (fun L2 g2 => ⟨_, rfl, ?_⟩)
  dsimp only
  rw [if_pos rfl]
  have k1 : shK I1 := fun s hs => by
    by_cases e : s = 3
    · rw [e]; exact Or.inl r4
    · rw [g1 (66 + 2 * s) (by omega)]; exact hK s hs
  refine u_restore (by rw [g1 1 (by decide)]; exact h1) (RV_cong (fun a b1 b2 => g1 a (by omega)) h21) k1 (fun I2 f1 f2 f3 => ⟨_, rfl, ?_⟩)
  dsimp only
  rw [if_pos rfl]
  refine q_told f2 (fun I3 f4 => ⟨_, rfl, ?_⟩)
  dsimp only
  rw [lcmp_self, if_pos rfl]
  have e68 : I1 68 = I 68 := g1 68 (by decide)
  have e70 : I1 70 = I 70 := g1 70 (by decide)
  obtain ⟨-, -, c1⟩ := f3 1 (by decide)
  obtain ⟨-, b2, c2⟩ := f3 2 (by decide)
  obtain ⟨a3, -, -⟩ := f3 3 (by decide)
  have q68 : I3 68 = I2 68 := f4.hi (by decide)
  have q70 : I3 70 = I2 70 := f4.hi (by decide)
  have q72 : I3 72 = I1 72 := (f4.hi (by decide)).trans (a3 r4)
  have w1 : v_X6_holds I3 1 = if nI m = 8 then 7 else -1 := by
    unfold v_X6_holds
    rw [show v_X6_shelfAt 1 = 68 by decide, if_neg (by decide)]
    unfold v_X3_told
    rw [q68]
    have c := c1 7 (by decide) (by rw [show 66 + 2 * 1 = 68 from rfl, e68]; exact s1.1) (by rw [show 66 + 2 * 1 = 68 from rfl, e68]; exact s1.2)
    by_cases e : m = 8
    · rw [show I2 68 = I1 68 from c.1 (by omega), e68, s1.1, s1.2, if_pos rfl, e, if_pos (show nI 8 = 8 by decide)]
      decide
    · obtain ⟨d1, d2⟩ := c.2 (by omega)
      rw [show I2 68 4 = 0 from d1, show I2 68 3 = -1 from d2, if_pos rfl, if_neg]
      rw [show (8 : Int32) = nI 8 from rfl, n_eq (by omega) (by decide)]
      exact e
  have w2 : v_X6_holds I3 2 = if 0 < nI m then 0 else -1 := by
    unfold v_X6_holds
    rw [show v_X6_shelfAt 2 = 70 by decide, if_neg (by decide)]
    unfold v_X3_told
    rw [q70]
    obtain ⟨t1, t2⟩ := s2
    by_cases e : 0 < m
    · rw [if_pos e] at t2
      have c := c2 0 (by decide) (by rw [show 66 + 2 * 2 = 70 from rfl, e70]; exact t1) (by rw [show 66 + 2 * 2 = 70 from rfl, e70]; exact t2)
      rw [show I2 70 = I1 70 from c.1 e, e70, t1, t2, if_pos rfl, if_pos (show 0 < nI m from (nI_lt e (by omega) : nI 0 < nI m))]
      decide
    · rw [if_neg e] at t2
      rw [show I2 70 = I1 70 from b2 (by rw [show 66 + 2 * 2 = 70 from rfl, e70]; exact t1) (by rw [show 66 + 2 * 2 = 70 from rfl, e70]; exact t2), e70, t1, t2, if_pos rfl, if_neg (show ¬ 0 < nI m from (nI_nlt (by omega) (by omega) : ¬ nI 0 < nI m))]
  have w3 : v_X6_holds I3 3 = 101 := by
    unfold v_X6_holds
    rw [show v_X6_shelfAt 3 = 72 by decide, if_neg (by decide)]
    unfold v_X3_told
    rw [q72, r4, r1, if_neg (by decide)]
    decide
  have w4 : v_X6_element I3 L2 3 1 = 77 := by
    unfold v_X6_element
    rw [show v_X6_shelfAt 3 = 72 by decide, if_neg (by decide)]
    unfold v_X3_elementAt
    rw [q72, r2, if_neg (by decide), if_pos (by decide), if_pos (by decide)]
    exact g2
  rw [w1, if_pos rfl, w2, if_pos rfl, w3, if_pos rfl, w4, lcmp_self, if_pos rfl]
  have i1 : ∀ a, (a < 2 ∨ (20 < a ∧ a < 60)) → I3 a = I1 a := fun a ha => (f4.lo (by omega)).trans (f1 a (by omega) (fun s _ => by omega))
  refine u_restore (n := n) (by rw [i1 1 (by omega), g1 1 (by decide)]; exact h1) (RV_cong (fun a b1 b2 => by rw [i1 a (by omega), g1 a (by omega)]) h21) ?_ (fun I4 f5 f6 f7 => ⟨_, rfl, ?_⟩)
  · have k2 := shK_re k1 f3
    intro s hs
    rw [f4.hi (by omega)]
    exact k2 s hs
  · dsimp only
    rw [if_pos rfl]
    refine q_told f6 (fun I5 f8 => ⟨_, rfl, ?_⟩)
    dsimp only
    rw [lcmp_self, if_pos rfl]
/-- panes until there is no room -/
theorem law_883 (hb : gb g = true) (X : zX k g cL_law RL 13 (some .boolean) 11) (E : zEl k g) (hm : m ≤ 8) (hT : T = TT V n m) (I : zI) (hV : VS I 8 m) (hk : KP I V n m) : AW k g 13 I L 883 [(1, vR 1), (4, vI (nI m)), (5, vL T), (7, vI 0)] [] := by
  refine zdown (N := 8 - m) (P := fun t => ∀ I : zI, VS I 8 (m + t) → KP I V n m → AW k g 13 I L 883 [(1, vR 1), (4, vI (nI m)), (5, vL T), (7, vI (nI t))] []) (fun I hV hk => ?_) (fun t ht ih I hV hk => ?_) (c := 0) (by omega) I hV hk
  · refine s_L_law_883 hb X E ?_
    rw [show m + (8 - m) = 8 by omega] at hV
    have ej : jrem (nI (8 - m)) 7 = nI ((8 - m) % 7) := pk_rem (d := 7) (by omega) (by decide) (by decide)
    rw [ej]
    refine x_pane_full hV ⟨_, by omega, rfl⟩ ⟨3, by decide, rfl⟩ ⟨8 - m, by omega, rfl⟩ ⟨_, rfl, ?_⟩
    dsimp only
    rw [if_pos (by decide), nI_add, show m + (8 - m) = 8 by omega, if_pos (show nI 8 = 8 by decide)]
    have hV1 : VS (rf1 I 7) 8 8 := (Up_rf (k := 7) hV).2.2
    have hk1 : KP (rf1 I 7) V n m := KP_fs FS_rf1 hk
    generalize rf1 I 7 = I1 at hV1 hk1 ⊢
    obtain ⟨k1, k2, k3⟩ := hk1
    refine u_show (s := 1) (i := 7) hV1 (by decide) (by decide) (fun I2 g1 g2 g3 => ⟨_, rfl, ?_⟩)
    dsimp only
    rw [if_pos rfl]
    have hK2 : shK I2 := fun s hs => by
      by_cases e : s = 1
      · rw [e]; exact Or.inr ⟨g2, Or.inr ⟨7, by decide, g3⟩⟩
      · rw [g1 (66 + 2 * s) (by omega)]; exact shK_N k3 s hs
    by_cases e0 : 0 < m
    · rw [if_pos (show 0 < nI m from (nI_lt e0 (by omega) : nI 0 < nI m))]
      refine u_show (s := 2) (i := 0) (m := 8) (n := 8) (VS_cong (fun a _ _ => g1 a (by omega)) hV1) (by decide) (by decide) (fun I3 g4 g5 g6 => ⟨_, rfl, ?_⟩)
      dsimp only
      rw [if_pos rfl]
      refine law_940 hb X E hm (by rw [g4 1 (by decide), g1 1 (by decide)]; exact k1) (RV_cong (fun a b1 b2 => by rw [g4 a (by omega), g1 a (by omega)]) k2) (fun s hs => ?_) ⟨by rw [g4 68 (by decide)]; exact g2, by rw [g4 68 (by decide)]; exact g3⟩ ⟨g5, by rw [if_pos e0]; exact g6⟩ hT
      by_cases e : s = 2
      · rw [e]; exact Or.inr ⟨g5, Or.inr ⟨0, by decide, g6⟩⟩
      · rw [g4 (66 + 2 * s) (by omega)]; exact hK2 s hs
    · rw [if_neg (show ¬ 0 < nI m from (nI_nlt (by omega) (by omega) : ¬ nI 0 < nI m))]
      refine law_940 hb X E hm (by rw [g1 1 (by decide)]; exact k1) (RV_cong (fun a b1 b2 => g1 a (by omega)) k2) hK2 ⟨g2, g3⟩ ⟨by rw [g1 70 (by decide)]; exact (k3 2 (by decide)).1, by rw [if_neg e0, g1 70 (by decide)]; exact (k3 2 (by decide)).2⟩ hT
  · refine s_L_law_883 hb X E ?_
    have ej : jrem (nI t) 7 = nI (t % 7) := pk_rem (d := 7) (by omega) (by decide) (by decide)
    rw [ej]
    refine u_pane hV ⟨_, by omega, rfl⟩ ⟨3, by decide, rfl⟩ ⟨t, by omega, rfl⟩ (by omega) (fun I1 u => ⟨_, rfl, ?_⟩)
    dsimp only
    rw [if_neg (nI_pos (by omega)), ← nI_succ]
    exact ih I1 u.2.2 (KP_fs u.1 hk)
/-- letters until there is no room -/
theorem law_851 (hb : gb g = true) (X : zX k g cL_law RL 13 (some .boolean) 11) (E : zEl k g) (hn : n ≤ 8) (hm : m ≤ 8) (hT : T = TT V n m) (I : zI) (hV : VS I n m) (hk : KP I V n m) : AW k g 13 I L 851 [(1, vR 1), (3, vI (nI n)), (4, vI (nI m)), (5, vL T), (7, vI 0)] [] := by
  refine zdown (N := 8 - n) (P := fun t => ∀ I : zI, VS I (n + t) m → KP I V n m → AW k g 13 I L 851 [(1, vR 1), (3, vI (nI n)), (4, vI (nI m)), (5, vL T), (7, vI (nI t))] []) (fun I hV hk => ?_) (fun t ht ih I hV hk => ?_) (c := 0) (by omega) I hV hk
  · refine s_L_law_851 hb X E ?_
    rw [show n + (8 - n) = 8 by omega] at hV
    rw [show (17 : Int32) * nI (8 - n) = nI (17 * (8 - n)) from pk_mul 17 (8 - n)]
    refine x_form_full hV ⟨_, by omega, rfl⟩ ⟨_, rfl, ?_⟩
    dsimp only
    rw [if_pos (by decide), nI_add, show n + (8 - n) = 8 by omega, if_pos (show nI 8 = 8 by decide)]
    exact law_883 hb X E hm hT _ (Up_rf (k := 7) hV).2.2 (KP_fs FS_rf1 hk)
  · refine s_L_law_851 hb X E ?_
    rw [show (17 : Int32) * nI t = nI (17 * t) from pk_mul 17 t]
    refine u_form hV ⟨_, by omega, rfl⟩ (by omega) (fun I1 u => ⟨_, rfl, ?_⟩)
    dsimp only
    rw [if_neg (nI_pos (by omega)), ← nI_succ]
    exact ih I1 u.2.2 (KP_fs u.1 hk)
/-- scratches everywhere -/
theorem law_810 (hb : gb g = true) (X : zX k g cL_law RL 13 (some .boolean) 11) (E : zEl k g) (hn : n ≤ 8) (hm : m ≤ 8) (hT : T = TT V n m) (I : zI) (hV : VS I n m) (hk : KP I V n m) : AW k g 13 I L 810 [(1, vR 1), (3, vI (nI n)), (4, vI (nI m)), (5, vL T), (7, vI 0)] [] := by
  refine zdown (N := m) (P := fun c => ∀ I : zI, VS I n m → KP I V n m → AW k g 13 I L 810 [(1, vR 1), (3, vI (nI n)), (4, vI (nI m)), (5, vL T), (7, vI (nI c))] []) (fun I hV hk => ?_) (fun c hc ih I hV hk => ?_) (c := 0) (by omega) I hV hk
  · refine s_L_law_810 hb X E ?_
    rw [if_neg (nI_nlt (Nat.le_refl _) (by omega))]
    exact law_851 hb X E hn hm hT I hV hk
  · refine s_L_law_810 hb X E ?_
    rw [if_pos (nI_lt hc (by omega))]
    refine zdown (N := 4) (P := fun t => ∀ I : zI, VS I n m → KP I V n m → AW k g 13 I L 820 [(1, vR 1), (3, vI (nI n)), (4, vI (nI m)), (5, vL T), (7, vI (nI c)), (8, vI (nI (5 * t)))] []) (fun I hV hk => ?_) (fun t ht ih2 I hV hk => ?_) (c := 0) (by omega) I hV hk
    · refine s_L_law_820 hb X E ?_
      rw [if_neg (show ¬ nI (5 * 4) < 16 by decide), ← nI_succ]
      exact ih I hV hk
    · refine s_L_law_820 hb X E ?_
      rw [if_pos (n16 (show 5 * t < 16 by omega)), show nI (5 * t) + 5 = nI (5 * (t + 1)) from nI_add (5 * t) 5]
      exact u_scratch hV (fun r I1 u => ⟨_, rfl, ih2 I1 u.2.2 (KP_fs u.1 hk)⟩)
theorem some_m1 (a : Int32) {n : Nat} (hn : n ≤ 8) : okN n (v_L_some a (nI n + 1) - 1) ∧ ¬ nI n + 1 = 0 := by
  rw [← nI_succ]
  obtain ⟨r, hr, e⟩ := some_in a (d := n + 1) (by omega) (by omega)
  refine ⟨?_, nI_ne0 (by omega) (by omega)⟩
  rw [e]
  match r, hr with
  | 0, _ => exact Or.inl (by decide)
  | r + 1, hr => exact Or.inr ⟨r, by omega, nI_m1 r⟩
/-- hung anew, rooms, seed, winter, weather -/
theorem law_694 (hb : gb g = true) (X : zX k g cL_law RL 13 (some .boolean) 11) (E : zEl k g) (hn : n ≤ 8) (hm : m ≤ 8) (hT : T = TT V n m) (I : zI) (hV : VS I n m) (hk : KP I V n m) (hs : I 2 9 = 1) : AW k g 13 I L 694 [(0, vR 3000), (1, vR 1), (3, vI (nI n)), (4, vI (nI m)), (5, vL T), (7, vI 0)] [] := by
  refine zdown (N := m) (P := fun c => ∀ I : zI, VS I n m → KP I V n m → I 2 9 = 1 → AW k g 13 I L 694 [(0, vR 3000), (1, vR 1), (3, vI (nI n)), (4, vI (nI m)), (5, vL T), (7, vI (nI c))] []) (fun I hV hk hs => ?_) (fun c hc ih I hV hk hs => ?_) (c := 0) (by omega) I hV hk hs
  · refine s_L_law_694 hb X E ?_
    rw [if_neg (nI_nlt (Nat.le_refl _) (by omega))]
    refine u_seed hV (fun I1 f1 v1 => ⟨_, rfl, ?_⟩)
    have k1 := KP_fs f1 hk
    dsimp only
    rw [if_pos hs]
    refine u_winter (N := 2) v1 (by decide) (fun r I2 r0 f2 v2 => ⟨_, rfl, ?_⟩)
    have k2 := KP_fs f2 k1
    dsimp only
    rw [if_neg r0]
    refine u_ask (i := 0) (x := 7) v2 (by decide) (fun r I3 r0 u3 => ⟨_, rfl, ?_⟩)
    dsimp only
    rw [if_neg (r0 ⟨7, by decide, rfl⟩)]
    refine u_ask (i := 1) (x := 9) u3.2.2 (by decide) (fun r I4 r0 u4 => ⟨_, rfl, ?_⟩)
    dsimp only
    rw [if_neg (r0 ⟨9, by decide, rfl⟩)]
    refine u_ask (i := 2) (x := 0) u4.2.2 (by decide) (fun r I5 r0 u5 => ⟨_, rfl, ?_⟩)
    dsimp only
    rw [if_neg (r0 ⟨0, by decide, rfl⟩)]
    exact law_810 hb X E hn hm hT I5 u5.2.2 (KP_fs u5.1 (KP_fs u4.1 (KP_fs u3.1 k2)))
  · refine s_L_law_694 hb X E ?_
    rw [if_pos (nI_lt hc (by omega))]
    obtain ⟨ho, h0⟩ := some_m1 (jshr (v_L_at g 21) (nI c)) hn
    refine ⟨h0, u_hang hV hc ho (fun I1 u1 => ⟨_, rfl, ?_⟩)⟩
    dsimp only
    rw [if_neg (show ¬ (if v_L_some (jshr (v_L_at g 21) (nI c)) (nI n + 1) - 1 = -1 then 0 else (1 : Int32)) < 0 from by split <;> decide)]
    refine u_room u1.2.2 hc (some_z _ (d := 10) (by decide) (by decide) (by decide)) (fun r I2 r0 u2 => ⟨_, rfl, ?_⟩)
    dsimp only
    rw [if_neg r0, ← nI_succ]
    exact ih I2 u2.2.2 (KP_fs u2.1 (KP_fs u1.1 hk)) (by rw [u2.2.1, u1.2.1]; exact hs)
end ZLA
