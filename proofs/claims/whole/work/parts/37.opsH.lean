/-! OPERATIONS: let -/
def wth (f : Nat → Int32) (x : Int32) : Nat → Nat
  | 0 => 0
  | c + 1 => if f c = x then wth f x c + 1 else wth f x c
theorem wth_le {f : Nat → Int32} {x : Int32} : ∀ c, wth f x c ≤ c
  | 0 => Nat.le_refl _
  | c + 1 => by
    have := wth_le (f := f) (x := x) c
    unfold wth
    split <;> omega
def cntP (W : Nat → Nat) (v p : Nat) : Nat → Nat
  | 0 => 0
  | n + 1 => if v < W n ∨ (W n = v ∧ n < p) then cntP W v p n + 1 else cntP W v p n
theorem cntP_le {W : Nat → Nat} {v p : Nat} : ∀ n, cntP W v p n ≤ n
  | 0 => Nat.le_refl _
  | n + 1 => by
    have := cntP_le (W := W) (v := v) (p := p) n
    unfold cntP
    split <;> omega
theorem cntP_lt {W : Nat → Nat} {v p : Nat} (hv : W p = v) : ∀ n, p < n → cntP W v p n < n
  | 0, h => absurd h (by omega)
  | n + 1, h => by
    unfold cntP
    by_cases e : p = n
    · subst e
      rw [if_neg (by omega)]
      have := cntP_le (W := W) (v := v) (p := p) p
      omega
    · have := cntP_lt hv n (by omega)
      split <;> omega
theorem cntP_up {W : Nat → Nat} {v p : Nat} (hv : W p = v) : ∀ n, cntP W v (p + 1) n = cntP W v p n + (if p < n then 1 else 0)
  | 0 => by rw [if_neg (by omega)]; rfl
  | n + 1 => by
    unfold cntP
    rw [cntP_up hv n]
    by_cases e : n = p
    · subst e
      rw [if_pos (by omega), if_neg (show ¬ (v < W n ∨ (W n = v ∧ n < n)) by omega), if_neg (by omega), if_pos (by omega)]
    · by_cases c : v < W n ∨ (W n = v ∧ n < p)
      · rw [if_pos (by omega), if_pos c]
        by_cases q : p < n
        · rw [if_pos q, if_pos (by omega)]
        · rw [if_neg q, if_neg (by omega)]
      · rw [if_neg (by omega), if_neg c]
        by_cases q : p < n
        · rw [if_pos q, if_pos (by omega)]
        · rw [if_neg q, if_neg (by omega)]
theorem cntP_ne {W : Nat → Nat} {v p : Nat} (hv : ¬ W p = v) : ∀ n, cntP W v (p + 1) n = cntP W v p n
  | 0 => rfl
  | n + 1 => by
    unfold cntP
    rw [cntP_ne hv n]
    by_cases e : n = p
    · subst e
      by_cases c : v < W n
      · rw [if_pos (Or.inl c), if_pos (Or.inl c)]
      · rw [if_neg (by omega), if_neg (by omega)]
    · by_cases c : v < W n ∨ (W n = v ∧ n < p)
      · rw [if_pos (by omega), if_pos c]
      · rw [if_neg (by omega), if_neg c]
theorem cntP_next {W : Nat → Nat} {v m : Nat} (hm : ∀ j, m ≤ j → W j = 0) : ∀ n, cntP W (v + 1) m n = cntP W v 0 n
  | 0 => rfl
  | n + 1 => by
    unfold cntP
    rw [cntP_next hm n]
    have := hm n
    by_cases c : v < W n
    · rw [if_pos (by omega), if_pos (Or.inl c)]
    · rw [if_neg (by omega), if_neg (by omega)]
def mkW (W : Nat → Nat) (v p j : Nat) : Nat := if v < W j ∨ (W j = v ∧ j < p) then 0 else W j
def fIn (W : Nat → Nat) (v : Nat) (z : Int32) : Nat → Int32
  | 0 => z
  | p + 1 => if W p = v then fIn W v z p + (if cntP W v p 8 % 2 = 0 then nI v else -(nI v)) else fIn W v z p
def fOut (W : Nat → Nat) (m : Nat) : Nat → Int32
  | 0 => 0
  | u + 1 => fIn W (25 - u) (fOut W m u) m
theorem mkW_next {W : Nat → Nat} {v m : Nat} (hm : ∀ j, m ≤ j → W j = 0) (j : Nat) : mkW W (v + 1) m j = mkW W v 0 j := by
  unfold mkW
  have := hm j
  by_cases c : v < W j
  · rw [if_pos (by omega), if_pos (Or.inl c)]
  · rw [if_neg (by omega), if_neg (by omega)]
theorem mkW_ne {W : Nat → Nat} {v p j : Nat} (h : j ≠ p ∨ ¬ W p = v) : mkW W v (p + 1) j = mkW W v p j := by
  unfold mkW
  by_cases e : j = p
  · subst e
    by_cases c : v < W j
    · rw [if_pos (Or.inl c), if_pos (Or.inl c)]
    · rw [if_neg (by omega), if_neg (by omega)]
  · by_cases c : v < W j ∨ (W j = v ∧ j < p)
    · rw [if_pos (by omega), if_pos c]
    · rw [if_neg (by omega), if_neg c]
section ZLE
variable {l : Launch} {g : zG} {Q : Option zv → zI → zL → Prop} {I : zI} {L : zL} {n m i p v : Nat}
theorem c_dearest {X : Nat → Nat} (hX : ∀ j, j < 8 → I 64 j = nI (X j)) (hp : p < 8) (hv : X p = v) (h0 : 0 < v) (h25 : v ≤ 25) (hle : ∀ j, j < 8 → X j ≤ v) (hlt : ∀ j, j < p → X j < v) (h : Q (some (vI (nI v))) (zs I 64 p 0) L) : Call l g 1 M_X5_takeDearest [vR 59] I L Q := by
  refine m_X5_takeDearest (fun k hk X' E => ?_)
  refine zdown (N := 8) (P := fun c => ∀ y1 y2 : Int32, (c ≤ p → ∃ u, u < v ∧ y2 = nI u) → (p < c → y1 = nI p ∧ y2 = nI v) → AW k g 4 I L 6 [(0, vR 59), (1, vI y1), (2, vI y2), (3, vI (nI c))] []) (fun y1 y2 a b => ?_) (fun c hc ih y1 y2 a b => ?_) (c := 0) (by omega) (-1) 0 (fun _ => ⟨0, h0, rfl⟩) (fun hh => absurd hh (Nat.not_lt_zero _))
  · refine s_X5_takeDearest_6 X' E ?_
    obtain ⟨rfl, rfl⟩ := b hp
    rw [if_neg (show ¬ nI 8 < 8 by decide), if_neg (nI_pos (by omega)), if_pos (n8 hp), zcl (by omega)]
    exact h
  · refine s_X5_takeDearest_6 X' E ?_
    rw [if_pos (n8 hc), zcl (by omega), hX c hc, ← nI_succ]
    refine ⟨zvin hc (by decide), ih _ _ (fun hcp => ?_) (fun hpc => ?_)⟩
    · obtain ⟨u, hu, rfl⟩ := a (by omega)
      by_cases q : nI u < nI (X c)
      · rw [if_pos q]
        exact ⟨X c, hlt c (by omega), rfl⟩
      · rw [if_neg q]
        exact ⟨u, hu, rfl⟩
    · by_cases e : c = p
      · subst e
        obtain ⟨u, hu, rfl⟩ := a (Nat.le_refl _)
        rw [hv, if_pos (nI_lt hu (by omega)), if_pos (nI_lt hu (by omega))]
        exact ⟨rfl, rfl⟩
      · obtain ⟨rfl, rfl⟩ := b (by omega)
        rw [if_neg (nI_nlt (hle c hc) (by omega)), if_neg (nI_nlt (hle c hc) (by omega))]
        exact ⟨rfl, rfl⟩
theorem c_dearest0 (hX : ∀ j, j < 8 → I 64 j = 0) (h : Q (some (vI 0)) I L) : Call l g 1 M_X5_takeDearest [vR 59] I L Q := by
  refine m_X5_takeDearest (fun k hk X' E => ?_)
  refine zdown (N := 8) (P := fun c => AW k g 4 I L 6 [(0, vR 59), (1, vI (-1)), (2, vI 0), (3, vI (nI c))] []) ?_ (fun c hc ih => ?_) (c := 0) (by omega)
  · refine s_X5_takeDearest_6 X' E ?_
    rw [if_neg (show ¬ nI 8 < 8 by decide), if_pos (by decide)]
    exact h
  · refine s_X5_takeDearest_6 X' E ?_
    rw [if_pos (n8 hc), zcl (by omega), hX c hc, ← nI_succ, if_neg (by decide), if_neg (by decide)]
    exact ⟨zvin hc (by decide), ih⟩
theorem jrem2 {t : Nat} (ht : t < 2147483648) : jrem (nI t) 2 = 0 ↔ t % 2 = 0 := by
  rw [show jrem (nI t) 2 = nI (t % 2) from pk_rem (d := 2) ht (by decide) (by decide), show (0 : Int32) = nI 0 from rfl, n_eq (by omega) (by decide)]
theorem c_lead {W : Nat → Nat} (hW : ∀ j, W j ≤ 25) (hm : m ≤ 8) (hz : ∀ j, m ≤ j → W j = 0) {k : zK} (X : zX k g cX5_firstPaperLead RX5 4 (some .int) 6) (E : zE k g Q) (hI : ∀ j, j < 8 → I 64 j = nI (W j)) (h : ∀ I' : zI, (∀ a, a ≠ 64 → I' a = I a) → Q (some (vI (fOut W m 25))) I' L) : AW k g 4 I L 39 [(0, vR 59), (1, vI 0), (2, vI 0)] [] := by
  have c0 : cntP W 25 0 8 = 0 := by
    have : ∀ n, cntP W 25 0 n = 0 := by
      intro n
      induction n with
      | zero => rfl
      | succ n ih =>
        unfold cntP
        rw [if_neg (by have := hW n; omega)]
        exact ih
    exact this 8
  have key : ∀ u, u ≤ 25 → ∀ B : zI, (∀ a, a ≠ 64 → B a = I a) → (∀ j, j < 8 → B 64 j = nI (mkW W (25 - u) 0 j)) → AW k g 4 B L 39 [(0, vR 59), (1, vI (fOut W m u)), (2, vI (nI (cntP W (25 - u) 0 8)))] [] := by
    intro u hu
    refine zdown (N := 25) (P := fun u => ∀ B : zI, (∀ a, a ≠ 64 → B a = I a) → (∀ j, j < 8 → B 64 j = nI (mkW W (25 - u) 0 j)) → AW k g 4 B L 39 [(0, vR 59), (1, vI (fOut W m u)), (2, vI (nI (cntP W (25 - u) 0 8)))] []) (fun B b1 b2 => ?_) (fun u hu ih B b1 b2 => ?_) (c := u) hu
    · have hb0 : ∀ j, j < 8 → B 64 j = 0 := fun j hj => by
        rw [b2 j hj]
        unfold mkW
        by_cases c : 0 < W j
        · rw [if_pos (Or.inl c)]; rfl
        · rw [if_neg (by omega), show W j = 0 by omega]; rfl
      refine zdown (N := 8) (P := fun t => AW k g 4 B L 39 [(0, vR 59), (1, vI (fOut W m 25)), (2, vI (nI t))] []) ?_ (fun t ht ih => ?_) (c := cntP W (25 - 25) 0 8) (cntP_le 8)
      · refine s_X5_firstPaperLead_39 X E ?_
        rw [if_neg (show ¬ nI 8 < 8 by decide)]
        exact h B b1
      · refine s_X5_firstPaperLead_39 X E ?_
        rw [if_pos (n8 ht)]
        refine c_dearest0 hb0 ⟨_, rfl, ?_⟩
        dsimp only
        rw [show (if jrem (nI t) 2 = 0 then (0 : Int32) else -0) = 0 from by split <;> rfl, Int32.add_zero, ← nI_succ]
        exact ih
    · obtain ⟨v, ev⟩ : ∃ v, 25 - u = v + 1 := ⟨24 - u, by omega⟩
      rw [ev] at b2 ⊢
      rw [show 25 - (u + 1) = v by omega] at ih
      refine zdown (N := m) (P := fun p => ∀ B : zI, (∀ a, a ≠ 64 → B a = I a) → (∀ j, j < 8 → B 64 j = nI (mkW W (v + 1) p j)) → AW k g 4 B L 39 [(0, vR 59), (1, vI (fIn W (v + 1) (fOut W m u) p)), (2, vI (nI (cntP W (v + 1) p 8)))] []) (fun B b1 b2 => ?_) (fun p hp ih2 B b1 b2 => ?_) (c := 0) (by omega) B b1 b2
      · have := ih B b1 (fun j hj => by rw [b2 j hj, mkW_next hz])
        rw [cntP_next hz]
        unfold fOut at this
        rw [ev] at this
        exact this
      · by_cases hv : W p = v + 1
        · refine s_X5_firstPaperLead_39 X E ?_
          have ht := cntP_lt hv 8 (show p < 8 by omega)
          rw [if_pos (n8 ht)]
          refine c_dearest (X := mkW W (v + 1) p) (p := p) (v := v + 1) b2 (by omega) ?_ (by omega) (by have := hW p; omega) (fun j hj => ?_) (fun j hj => ?_) ⟨_, rfl, ?_⟩
          · unfold mkW
            rw [if_neg (by omega)]
            exact hv
          · unfold mkW
            split
            · omega
            · omega
          · unfold mkW
            split
            · omega
            · omega
          · have := ih2 (zs B 64 p 0) (fun a ha => by rw [zs_nec ha]; exact b1 a ha) (fun j hj => ?_)
            · unfold fIn at this
              rw [if_pos hv, cntP_up hv, if_pos (show p < 8 by omega)] at this
              dsimp only
              rw [← nI_succ]
              by_cases c2 : cntP W (v + 1) p 8 % 2 = 0
              · rw [if_pos c2] at this
                rw [if_pos ((jrem2 (by omega)).mpr c2)]
                exact this
              · rw [if_neg c2] at this
                rw [if_neg (fun z => c2 ((jrem2 (by omega)).mp z))]
                exact this
            · rw [zs_at]
              by_cases e : j = p
              · rw [if_pos e, e]
                unfold mkW
                rw [if_pos (by omega)]
                rfl
              · rw [if_neg e, b2 j hj, mkW_ne (Or.inl e)]
        · have := ih2 B b1 (fun j hj => by rw [b2 j hj, mkW_ne (Or.inr hv)])
          unfold fIn at this
          rw [if_neg hv, cntP_ne hv] at this
          exact this
  have := key 0 (by decide) I (fun _ _ => rfl) (fun j hj => by
    rw [hI j hj]
    unfold mkW
    rw [if_neg (by have := hW j; omega)])
  rw [show 25 - 0 = 25 from rfl, c0] at this
  exact this
def tnI (t : Nat) : Int32 := if t % 2 = 0 then 1 else 0
theorem m_lead {W : Nat → Nat} (hW : ∀ j, W j ≤ 25) (hm : m ≤ 8) (hz : ∀ j, m ≤ j → W j = 0) {k : zK} (X : zX k g cX7_let RX7 5 (some .int) 5) (E : zE k g Q) (e5 : I 87 5 = nI m) (hI : ∀ j, j < m → I 104 j = nI (W j)) (h : Q (some (vI (fOut W m 25))) I L) : AW k g 5 I L 88 [(0, vR 87), (1, vI 0), (2, vI 1), (3, vI 25)] [] := by
  have c0 : cntP W 25 0 8 = 0 := by
    have : ∀ n, cntP W 25 0 n = 0 := by
      intro n
      induction n with
      | zero => rfl
      | succ n ih =>
        unfold cntP
        rw [if_neg (by have := hW n; omega)]
        exact ih
    exact this 8
  have key := zdown (N := 25) (P := fun u => AW k g 5 I L 88 [(0, vR 87), (1, vI (fOut W m u)), (2, vI (tnI (cntP W (25 - u) 0 8))), (3, vI (nI (25 - u)))] []) ?_ (fun u hu ih => ?_) (c := 0) (by omega)
  · rw [show 25 - 0 = 25 from rfl, c0] at key
    exact key
  · refine s_X7_let_88 X E ?_
    rw [if_neg (by decide)]
    exact h
  · obtain ⟨v, ev⟩ : ∃ v, 25 - u = v + 1 := ⟨24 - u, by omega⟩
    rw [show 25 - (u + 1) = v by omega] at ih
    rw [ev]
    refine s_X7_let_88 X E ?_
    rw [if_pos (show (0 : Int32) < nI (v + 1) from nI_lt (a := 0) (show 0 < v + 1 by omega) (by omega))]
    refine zdown (N := m) (P := fun p => AW k g 5 I L 95 [(0, vR 87), (1, vI (fIn W (v + 1) (fOut W m u) p)), (2, vI (tnI (cntP W (v + 1) p 8))), (3, vI (nI (v + 1))), (4, vI (nI p))] []) ?_ (fun p hp ih2 => ?_) (c := 0) (by omega)
    · refine s_X7_let_95 X E ?_
      rw [e5, if_neg (nI_nlt (Nat.le_refl _) (by omega)), cntP_next hz, nI_sub1]
      unfold fOut at ih
      rw [ev] at ih
      exact ih
    · refine s_X7_let_95 X E ?_
      rw [e5, if_pos (nI_lt hp (by omega)), zcl (by omega), hI p hp, ← nI_succ]
      refine ⟨zvin (by omega) (by decide), ?_⟩
      have hwp := hW p
      intro u9 e9 u10 e10
      unfold fIn at ih2
      by_cases hv : W p = v + 1
      · have heq : nI (W p) = nI (v + 1) := by rw [hv]
        rw [if_pos heq] at e9 e10
        rw [if_pos hv, cntP_up hv, if_pos (show p < 8 by omega)] at ih2
        by_cases c2 : cntP W (v + 1) p 8 % 2 = 0
        · have t1 : tnI (cntP W (v + 1) p 8) = 1 := by unfold tnI; rw [if_pos c2]
          have t2 : tnI (cntP W (v + 1) p 8 + 1) = 0 := by unfold tnI; rw [if_neg (by omega)]
          rw [t1, if_neg (by decide)] at e9 e10
          rw [if_pos c2, t2] at ih2
          rw [e9, e10]
          exact ih2
        · have t1 : tnI (cntP W (v + 1) p 8) = 0 := by unfold tnI; rw [if_neg c2]
          have t2 : tnI (cntP W (v + 1) p 8 + 1) = 1 := by unfold tnI; rw [if_pos (by omega)]
          rw [t1, if_pos rfl] at e9 e10
          rw [if_neg c2, t2] at ih2
          rw [e9, e10]
          exact ih2
      · have hne : ¬ nI (W p) = nI (v + 1) := fun e => hv ((n_eq (by omega) (by omega)).mp e)
        rw [if_neg hne] at e9 e10
        rw [if_neg hv, cntP_ne hv] at ih2
        rw [e9, e10]
        exact ih2
/-- the worth of a pane -/
def wrt (I : zI) (i : Nat) : Nat := if I 95 i = -1 then 0 else wth (ob I i (I 95 i)) (I 95 i) 25
theorem wrt_le (I : zI) (i : Nat) : wrt I i ≤ 25 := by
  unfold wrt
  split
  · omega
  · exact wth_le 25
theorem wth_cong {f f2 : Nat → Int32} {x : Int32} : ∀ c, (∀ j, j < c → f j = f2 j) → wth f x c = wth f2 x c
  | 0, _ => rfl
  | c + 1, h => by
    unfold wth
    rw [wth_cong c (fun j hj => h j (by omega)), h c (by omega)]
theorem wrt_t {I1 : zI} (h : ∀ a, ¬ scr a → I1 a = I a) (i : Nat) : wrt I1 i = wrt I i := by
  unfold wrt
  rw [h 95 s95, wth_cong 25 (fun j _ => ob_t h i (I 95 i) j)]
theorem R_worth (h : Rn I L n m) (hi : i < m) (hQ : ∀ I' : zI, (∀ a, a ≠ 60 → a ≠ 61 → a ≠ 62 → I' a = I a) → Q (some (vI (nI (wrt I i)))) I' L) : Call l g 5 M_X5_worthOf [vR 59, vR (5 + 2 * i)] I L Q := by
  obtain ⟨⟨i8, z0, z1, z2⟩, p0, p1, p2, p3, p4, p5, p6⟩ := Rn_pane h hi
  refine m_X5_worthOf (fun k hk X E => ?_)
  rw [if_neg (by omega), p3]
  refine ⟨zshP i i8, ?_⟩
  unfold wrt at hQ
  by_cases hh : I 95 i = -1
  · rw [if_pos hh] at hQ ⊢
    exact hQ I (fun _ _ _ _ => rfl)
  rw [if_neg hh] at hQ ⊢
  refine R_readAll h hi p5 (fun A g1 g2 => ⟨rfl, ?_⟩)
  refine zdown (N := 25) (P := fun c => AW k g 4 A L 27 [(0, vR 59), (1, vR (5 + 2 * i)), (2, vI (nI (wth (ob I i (I 95 i)) (I 95 i) c))), (3, vI (nI c))] []) ?_ (fun c hc ih => ?_) (c := 0) (by omega)
  · refine s_X5_worthOf_27 X E ?_
    rw [if_neg (show ¬ nI 25 < 25 by decide)]
    exact hQ A g1
  · refine s_X5_worthOf_27 X E ?_
    have e3 : A (5 + 2 * i) 3 = I 95 i := by rw [g1 (5 + 2 * i) (by omega) (by omega) (by omega)]; exact p3
    rw [if_pos (n25 hc), zcl (by omega), g2 c hc, e3, ← nI_succ]
    refine ⟨zvin hc (by decide), zshP i i8, ?_⟩
    unfold wth at ih
    by_cases e : ob I i (I 95 i) c = I 95 i
    · rw [if_pos e] at ih ⊢
      rw [← nI_succ]
      exact ih
    · rw [if_neg e] at ih ⊢
      rw [Int32.add_zero]
      exact ih
end ZLE
theorem scr64 : scr 64 := Or.inl ⟨by decide, by decide⟩
theorem scr104 : scr 104 := Or.inr (Or.inr ⟨by decide, by decide⟩)
theorem sim_let : Sim M_X6_let 7 M_X7_let 5 [] := by
  rintro l g I L ⟨n, m, h⟩
  obtain ⟨hW, hN, hn, hm, e2, e2', e3, e3', e4, e5, e6, hf⟩ := Rn_wx h
  have hWle : ∀ j, (fun j => if j < m then wrt I j else 0) j ≤ 25 := fun j => by
    dsimp only
    split
    · exact wrt_le I j
    · omega
  have hWz : ∀ j, m ≤ j → (fun j => if j < m then wrt I j else 0) j = 0 := fun j hj => if_neg (by omega)
  generalize hWW : (fun j => if j < m then wrt I j else 0) = W at hWle hWz
  have hWi : ∀ j, j < m → W j = wrt I j := fun j hj => by rw [← hWW]; exact if_pos hj
  refine m_X6_let ?_
  refine m_X5_firstPaperLead (fun k hk X E => ?_)
  refine zdown (N := 8) (P := fun c => ∀ B : zI, (∀ a, ¬ scr a → B a = I a) → (∀ j, j < c → B 64 j = nI (W j)) → AW k g 4 B L 2 [(0, vR 59), (1, vI (nI c))] []) (fun B b1 b2 => ?_) (fun c hc ih B b1 b2 => ?_) (c := 0) (by omega) I (fun _ _ => rfl) (fun _ hh => absurd hh (Nat.not_lt_zero _))
  · refine s_X5_firstPaperLead_2 X E ?_
    rw [if_neg (show ¬ nI 8 < 8 by decide)]
    refine c_lead hWle hm hWz X E b2 (fun A a1 => ⟨_, rfl, _, rfl, ?_⟩)
    have oA : ∀ a, ¬ scr a → A a = I a := fun a ha => (a1 a (fun e => ha (by rw [e]; exact scr64))).trans (b1 a ha)
    refine m_X7_let (fun k2 hk2 X2 E2 => ?_)
    refine zdown (N := m) (P := fun c => ∀ C : zI, (∀ a, ¬ scr a → C a = I a) → (∀ j, j < c → C 104 j = nI (W j)) → AW k2 g 5 C L 6 [(0, vR 87), (1, vI 0), (2, vI 1), (3, vI (nI c))] []) (fun C c1 c2 => ?_) (fun c hc ih C c1 c2 => ?_) (c := 0) (by omega) A oA (fun _ hh => absurd hh (Nat.not_lt_zero _))
    · refine s_X7_let_6 X2 E2 ?_
      rw [c1 87 s87, e3', if_neg (nI_nlt (Nat.le_refl _) (by omega))]
      exact m_lead hWle hm hWz X2 E2 (by rw [c1 87 s87]; exact e3') c2 ⟨_, rfl, rfl, n, m, R_scr c1 h⟩
    · refine s_X7_let_6 X2 E2 ?_
      rw [c1 87 s87, e3', if_pos (nI_lt hc (by omega)), zcl (by omega)]
      refine ⟨zvin (by omega) (by decide), ?_⟩
      obtain ⟨⟨i8, z0, z1, z2⟩, p0, p1, p2, p3, p4, p5, p6⟩ := Rn_pane h hc
      have hWc := hWi c hc
      unfold wrt at hWc
      by_cases hh : I 95 c = -1
      · rw [if_pos hh] at hWc
        refine s_X7_let_24 X2 E2 ?_
        rw [if_pos (by decide), zcl (by omega), zs_nec (show 95 ≠ 104 by decide), c1 95 s95, if_pos hh, ← nI_succ]
        refine ⟨zvin (by omega) (by decide), ih _ (fun a ha => by rw [zs_nec (fun e => ha (by rw [e]; exact scr104))]; exact c1 a ha) (fun j hj => ?_)⟩
        rw [zs_at]
        by_cases e : j = c
        · rw [if_pos e, e, hWc]; rfl
        · rw [if_neg e]; exact c2 j (by omega)
      · rw [if_neg hh] at hWc
        refine zdown (N := 25) (P := fun q => ∀ D : zI, (∀ a, ¬ scr a → D a = I a) → (∀ j, j < c → D 104 j = nI (W j)) → D 104 c = nI (wth (ob I c (I 95 c)) (I 95 c) q) → AW k2 g 5 D L 24 [(0, vR 87), (1, vI 0), (2, vI 1), (3, vI (nI c)), (4, vI (nI q))] []) (fun D d1 d2 d3 => ?_) (fun q hq ih2 D d1 d2 d3 => ?_) (c := 0) (by omega) _ (fun a ha => by rw [zs_nec (fun e => ha (by rw [e]; exact scr104))]; exact c1 a ha) (fun j hj => by rw [zs_ne (fun z => by omega)]; exact c2 j hj) (by rw [zs_same]; rfl)
        · refine s_X7_let_24 X2 E2 ?_
          rw [if_neg (show ¬ nI 25 < 25 by decide), ← nI_succ]
          refine ih D d1 (fun j hj => ?_)
          by_cases e : j = c
          · rw [e, d3, hWc]
          · exact d2 j (by omega)
        · refine s_X7_let_24 X2 E2 ?_
          rw [if_pos (n25 hq), zcl (by omega), d1 95 s95, if_neg hh, ← nI_succ]
          refine ⟨zvin (by omega) (by decide), ?_⟩
          have hRD := R_scr d1 h
          refine R_readAt hRD hc (x := I 95 c) p5 (show q ≤ 24 by omega) (fun D1 f1 => ⟨_, rfl, ?_⟩)
          have of1 : ∀ a, ¬ scr a → D1 a = I a := fun a ha => (sc2 f1 a ha).trans (d1 a ha)
          dsimp only
          rw [of1 95 s95, ob_t d1, f1 104 (by decide) (by decide)]
          have w := ih2
          unfold wth at w
          by_cases e : ob I c (I 95 c) q = I 95 c
          · rw [if_pos e] at w ⊢
            refine w _ (fun a ha => by rw [zs_nec (fun e => ha (by rw [e]; exact scr104))]; exact of1 a ha) (fun j hj => by rw [zs_ne (fun z => by omega), f1 104 (by decide) (by decide)]; exact d2 j hj) ?_
            rw [zs_same, d3, nI_succ]
          · rw [if_neg e] at w ⊢
            exact w D1 of1 (fun j hj => by rw [f1 104 (by decide) (by decide)]; exact d2 j hj) (by rw [f1 104 (by decide) (by decide)]; exact d3)
  · refine s_X5_firstPaperLead_2 X E ?_
    have hRB := R_scr b1 h
    have b23 : B 2 3 = nI m := by rw [b1 2 (by unfold scr; omega)]; exact e3
    have next : ∀ (A : zI) (w : Nat), (∀ a, a ≠ 60 → a ≠ 61 → a ≠ 62 → A a = B a) → w = W c → vp_in (nI c) 8 ∧ AW k g 4 (zs A 64 (nI c).toNatClampNeg (nI w)) L 2 [(0, vR 59), (1, vI (nI c + 1))] [] := fun A w hA hw => by
      rw [zcl (by omega), ← nI_succ]
      refine ⟨zvin hc (by decide), ih _ (fun a ha => ?_) (fun j hj => ?_)⟩
      · rw [zs_nec (fun e => ha (by rw [e]; exact scr64))]
        exact (sc3 hA a ha).trans (b1 a ha)
      · rw [zs_at]
        by_cases e : j = c
        · rw [if_pos e, e, hw]
        · rw [if_neg e, hA 64 (by decide) (by decide) (by decide)]
          exact b2 j (by omega)
    rw [if_pos (n8 hc)]
    rcases paneAt_g (I := B) (s := 2) (m := m) (i := c) b23 hm hc with ⟨w1, w2⟩ | ⟨w1, w2⟩
    · rw [w2, show 2 + 3 + 2 * c = 5 + 2 * c by omega]
      exact R_worth hRB w1 (fun A hA => ⟨_, rfl, next A (wrt B c) hA (by rw [hWi c w1, wrt_t b1])⟩)
    · rw [w2]
      refine m_X5_worthOf (fun k3 hk3 X3 E3 => ?_)
      rw [if_pos rfl]
      exact ⟨_, rfl, next B 0 (fun _ _ _ _ => rfl) (hWz c w1).symm⟩
