/-! THE LAW'S WORLD: letters, panes, weather out of the script -/
/-- all but the street, the glass, the refusals and the law's own row is as it was -/
def FW (I I' : zI) : Prop := ∀ a, (a < 2 ∨ 20 < a) → a ≠ 86 → ¬ gl a → a ≠ 87 → I' a = I a
def WS (I A : zI) (n m c d : Nat) : Prop := FW I A ∧ A 2 9 = I 2 9 ∧ VS A c d ∧ A 87 32 = nI n ∧ A 87 33 = nI m
theorem n87 : ¬ gl 87 := by unfold gl; omega
theorem Up_87 {A A' : zI} {c d : Nat} (u : Up A A' c d) : A' 87 = A 87 := u.1 87 (Or.inr (by decide)) (by decide) n87
theorem WS_up {I A A' : zI} {n m c d c' d' : Nat} (w : WS I A n m c d) (u : Up A A' c' d') : WS I A' n m c' d' :=
  ⟨fun a h1 h2 h3 h4 => (u.1 a h1 h2 h3).trans (w.1 a h1 h2 h3 h4), u.2.1.trans w.2.1, u.2.2, by rw [Up_87 u]; exact w.2.2.2.1, by rw [Up_87 u]; exact w.2.2.2.2⟩
theorem WS_b {I A : zI} {n m c d k : Nat} {v : Int32} (w : WS I A n m c d) (h1 : k ≠ 32) (h2 : k ≠ 33) : WS I (zs A 87 k v) n m c d :=
  ⟨fun a b1 b2 b3 b4 => by rw [zs_nec b4]; exact w.1 a b1 b2 b3 b4, by rw [zs_nec (by decide)]; exact w.2.1, VS_cong (fun a _ _ => zs_nec (by omega)) w.2.2.1, by rw [zs_ne (fun z => h1 z.2.symm)]; exact w.2.2.2.1, by rw [zs_ne (fun z => h2 z.2.symm)]; exact w.2.2.2.2⟩
theorem some_z (a : Int32) {d b : Nat} (h0 : 0 < d) (hd : d < 1000) (hb : d ≤ b + 1) : zle b (v_L_some a (nI d)) := by
  obtain ⟨r, hr, e⟩ := some_in a h0 hd
  exact ⟨r, by omega, e⟩
section ZWO
variable {l : Launch} {g : zG} {Q : Option zv → zI → zL → Prop} {I : zI} {L : zL} {n m c : Nat} {k : zK}
/-- the weather -/
theorem world_ask (hb : gb g = true) (X : zX k g cL_world RL 10 none 4) (E : zE k g Q) (hQ : ∀ A : zI, WS I A n m n m → Q none A L) (A : zI) (w : WS I A n m n m) : AW k g 10 A L 488 [(0, vR 1), (2, vR 87), (3, vI 0)] [] := by
  refine zdown (N := 3) (P := fun c => ∀ A : zI, WS I A n m n m → AW k g 10 A L 488 [(0, vR 1), (2, vR 87), (3, vI (nI c))] []) (fun A w => ?_) (fun c hc ih A w => ?_) (c := 0) (by omega) A w
  · refine s_L_world_488 hb X E ?_
    rw [if_neg (show ¬ nI 3 < 3 by decide)]
    exact hQ A w
  · refine s_L_world_488 hb X E ?_
    rw [if_pos (show nI c < 3 from (nI_lt hc (by decide) : nI c < nI 3)), show (34 : Int32) + nI c = nI (34 + c) from nI_add 34 c]
    refine ⟨zvin (by omega) (by decide), u_ask w.2.2.1 hc (fun r A' _ u => ⟨_, rfl, ?_⟩)⟩
    rw [← nI_succ]
    exact ih A' (WS_up w u)
/-- the panes -/
theorem world_panes (hb : gb g = true) (X : zX k g cL_world RL 10 none 4) (E : zE k g Q) (hn : n ≤ 8) (hm : m ≤ 8) (hQ : ∀ A : zI, WS I A n m n m → Q none A L) (A : zI) (w : WS I A n m n 0) : AW k g 10 A L 249 [(0, vR 1), (1, vR 3000), (2, vR 87), (3, vI 0)] [] := by
  refine zdown (N := m) (P := fun c => ∀ A : zI, WS I A n m n c → AW k g 10 A L 249 [(0, vR 1), (1, vR 3000), (2, vR 87), (3, vI (nI c))] []) (fun A w => ?_) (fun c hc ih A w => ?_) (c := 0) (by omega) A w
  · refine s_L_world_249 hb X E ?_
    rw [w.2.2.2.2, if_neg (nI_nlt (Nat.le_refl _) (by omega))]
    exact world_ask hb X E hQ A w
  · refine s_L_world_249 hb X E ?_
    have e9 : (9 : Int32) + nI c = nI (9 + c) := nI_add 9 c
    have e8 : (8 : Int32) + nI c = nI (8 + c) := nI_add 8 c
    have e16 : (16 : Int32) + nI c = nI (16 + c) := nI_add 16 c
    rw [w.2.2.2.2, if_pos (nI_lt hc (by omega)), e9, e8, e16, zcl (by omega), zcl (by omega)]
    generalize v_L_at g (nI (9 + c)) = x
    refine ⟨kat_lit (nI_pos (by omega)), by unfold k_L_some; split <;> decide, zvin (by omega) (by decide), ?_⟩
    intro I7 e7
    have w7 : WS I I7 n m n c := by rw [e7]; exact WS_b w (by omega) (by omega)
    rw [w7.2.2.2.1]
    refine ⟨fun _ h0 => h0, ?_⟩
    intro u14 hu
    refine ⟨zvin (by omega) (by decide), ?_⟩
    intro I16 e16'
    have w16 : WS I I16 n m n c := by rw [e16']; exact WS_b w7 (by omega) (by omega)
    have hok : okN n u14 := by
      rw [hu]
      split
      · exact Or.inl rfl
      · split
        · exact Or.inl rfl
        · rename_i h0
          have hn0 : 0 < n := by
            rcases Nat.eq_zero_or_pos n with e | e
            · rw [e] at h0; exact absurd rfl h0
            · exact e
          obtain ⟨r, hr, e⟩ := some_in (jshr x 15) hn0 (by omega)
          exact Or.inr ⟨r, hr, e⟩
    have zk : zle 6 (v_L_some x 7) := some_z x (d := 7) (by decide) (by decide) (by decide)
    have zr : zle 9 (v_L_some (jshr x 3) (if ((jshr x 7) &&& 1) = 0 then 10 else (3 : Int32))) := by
      split
      · exact some_z _ (d := 10) (by decide) (by decide) (by decide)
      · exact some_z _ (d := 3) (by decide) (by decide) (by decide)
    have za : zle 9 (v_L_some (jshr x 8) 10) := some_z _ (d := 10) (by decide) (by decide) (by decide)
    refine u_pane w16.2.2.1 zk zr za (show c < 8 by omega) (fun A1 u1 => ⟨_, rfl, ?_⟩)
    have w1 := WS_up w16 u1
    have eb : A1 87 (16 + c) = u14 := by rw [Up_87 u1, e16', zs_same]
    dsimp only
    rw [eb]
    refine u_hang w1.2.2.1 (show c < c + 1 by omega) hok (fun A2 u2 => ⟨_, rfl, ?_⟩)
    have w2 := WS_up w1 u2
    refine zdown (N := 2) (P := fun t => ∀ A : zI, WS I A n m n (c + 1) → AW k g 10 A L 399 [(0, vR 1), (1, vR 3000), (2, vR 87), (3, vI (nI c)), (4, vI x), (8, vI (nI t))] []) (fun A w => ?_) (fun t ht ih2 A w => ?_) (c := 0) (by omega) A2 w2
    · refine s_L_world_399 hb X E ?_
      rw [if_neg (show ¬ nI 2 < 2 by decide), ← nI_succ]
      exact ih A w
    · refine s_L_world_399 hb X E ?_
      have e24 : (24 : Int32) + nI c = nI (24 + c) := nI_add 24 c
      rw [if_pos (show nI t < 2 from (nI_lt ht (by decide) : nI t < nI 2)), ← nI_succ, e24, zcl (by omega)]
      split
      · exact ih2 A w
      · refine ⟨zvin (by omega) (by decide), ?_⟩
        split
        · exact ih2 A w
        · intro I5 e5
          have w5 : WS I I5 n m n (c + 1) := by rw [e5]; exact WS_b w (by omega) (by omega)
          exact u_scratch w5.2.2.1 (fun r A' u => ⟨_, rfl, ih2 A' (WS_up w5 u)⟩)
theorem q_world (hb : gb g = true) (h0 : VS I 0 0) (en : v_L_some (v_L_at g 0) 9 = nI n) (hn : n ≤ 8) (em : v_L_some (jshr (v_L_at g 0) 4) 9 = nI m) (hm : m ≤ 8) (hQ : ∀ A : zI, WS I A n m n m → Q none A L) : Call l g 4 M_L_world [vR 1, vR 3000, vR 87] I L Q := by
  refine m_L_world hb (fun k hk X E => ?_)
  rintro I1 rfl I2 rfl I3 rfl u6 _ I7 rfl
  refine ⟨by unfold k_L_some; split <;> decide, ?_⟩
  rw [en, em]
  have W0 : WS I (zs (zs I 87 32 (nI n)) 87 33 (nI m)) n m 0 0 := ⟨fun a _ _ _ h4 => by rw [zs_nec h4, zs_nec h4], by rw [zs_nec (by decide), zs_nec (by decide)], VS_cong (fun a _ _ => by rw [zs_nec (by omega), zs_nec (by omega)]) h0, by rw [zs_ne (by omega), zs_same], by rw [zs_same]⟩
  refine zdown (N := n) (P := fun c => ∀ A : zI, WS I A n m c 0 → (∀ j, j < c → zle 65535 (A 87 j)) → AW k g 10 A L 130 [(0, vR 1), (1, vR 3000), (2, vR 87), (3, vI (nI c))] []) (fun A w _ => ?_) (fun c hc ih A w hz => ?_) (c := 0) (by omega) _ (WS_b (WS_b (WS_b W0 (by decide) (by decide)) (by decide) (by decide)) (by decide) (by decide)) (fun _ hh => absurd hh (Nat.not_lt_zero _))
  · refine s_L_world_130 hb X E ?_
    rw [w.2.2.2.1, if_neg (nI_nlt (Nat.le_refl _) (by omega))]
    exact world_panes hb X E hn hm hQ A w
  · refine s_L_world_130 hb X E ?_
    have e1 : (1 : Int32) + nI c = nI (1 + c) := nI_add 1 c
    rw [w.2.2.2.1, if_pos (nI_lt hc (by omega)), e1, zcl (by omega)]
    generalize v_L_at g (nI (1 + c)) = x
    refine ⟨kat_lit (nI_pos (by omega)), zvin (by omega) (by decide), ?_⟩
    intro I4 e4
    have w4 : WS I I4 n m c 0 := by rw [e4]; exact WS_b w (by omega) (by omega)
    have z4 : zle 65535 (I4 87 c) := by rw [e4, zs_same]; exact z16_and x
    have zj : ∀ j, j < c → zle 65535 (I4 87 j) := fun j hj => by rw [e4, zs_ne (fun z => by omega)]; exact hz j hj
    have n3 : ∀ B : zI, WS I B n m c 0 → (∀ j, j < c + 1 → zle 65535 (B 87 j)) → AW k g 10 B L 233 [(0, vR 1), (1, vR 3000), (2, vR 87), (3, vI (nI c))] [] := fun B wB zB => by
      refine s_L_world_233 hb X E ?_
      rw [zcl (by omega)]
      refine ⟨zvin (by omega) (by decide), u_form wB.2.2.1 (zB c (by omega)) (show c < 8 by omega) (fun A' u => ⟨_, rfl, ?_⟩)⟩
      rw [← nI_succ]
      exact ih A' (WS_up wB u) (fun j hj => by rw [Up_87 u]; exact zB j hj)
    have n2 : ∀ B : zI, WS I B n m c 0 → (∀ j, j < c + 1 → zle 65535 (B 87 j)) → AW k g 10 B L 209 [(0, vR 1), (1, vR 3000), (2, vR 87), (3, vI (nI c)), (4, vI x)] [] := fun B wB zB => by
      refine s_L_world_209 hb X E ?_
      rw [zcl (by omega)]
      split
      · refine ⟨zvin (by omega) (by decide), n3 _ (WS_b wB (by omega) (by omega)) (fun j hj => ?_)⟩
        rw [zs_at]
        split
        · exact z16_or (zB c (by omega)) (z16_and _)
        · exact zB j hj
      · exact n3 B wB zB
    have all4 : ∀ j, j < c + 1 → zle 65535 (I4 87 j) := fun j hj => by
      by_cases e : j = c
      · rw [e]; exact z4
      · exact zj j (by omega)
    split
    · split
      · rename_i h0
        have hc0 : 0 < c := by
          rcases Nat.eq_zero_or_pos c with e | e
          · rw [e] at h0; exact absurd h0 (by decide)
          · exact e
        obtain ⟨r, hr, er⟩ := some_in (jshr x 18) hc0 (by omega)
        obtain ⟨r2, hr2, er2⟩ := some_in (jshr x 22) (d := 16) (by decide) (by decide)
        obtain ⟨r3, hr3, er3⟩ := some_in (jshr x 26) (d := 16) (by decide) (by decide)
        have er2' : v_L_some (jshr x 22) 16 = nI r2 := er2
        have er3' : v_L_some (jshr x 26) 16 = nI r3 := er3
        rw [er, er2', er3', zcl (by omega)]
        refine ⟨nI_ne0 hc0 (by omega), zvin (by omega) (by decide), n2 _ (WS_b w4 (by omega) (by omega)) (fun j hj => ?_)⟩
        rw [zs_at]
        split
        · exact z16_xor (z16_xor (all4 r (by omega)) (z16_bit hr2)) (z16_bit hr3)
        · exact all4 j hj
      · exact n2 I4 w4 all4
    · exact n2 I4 w4 all4
end ZWO
