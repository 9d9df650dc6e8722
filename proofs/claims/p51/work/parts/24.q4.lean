/-! LET: two papers -/
theorem zs_at {α : Type} {M : Nat → Nat → α} {c k : Nat} {v : α} {j : Nat} : zs M c k v c j = if j = k then v else M c j := by
  unfold zs
  by_cases h : j = k
  · rw [if_pos ⟨rfl, h⟩, if_pos h]
  · rw [if_neg (fun z => h z.2), if_neg h]
def wth (f : Nat → Int32) (x : Int32) : Nat → Nat
  | 0 => 0
  | c + 1 => if f c = x then wth f x c + 1 else wth f x c
theorem wth_le {f : Nat → Int32} {x : Int32} : ∀ c, wth f x c ≤ c
  | 0 => Nat.le_refl _
  | c + 1 => by
    have := wth_le (f := f) (x := x) c
    unfold wth
    split <;> omega
def cntP (W : Nat → Nat) (v p : Nat) : Nat → Nat
  | 0 => 0
  | n + 1 => if v < W n ∨ (W n = v ∧ n < p) then cntP W v p n + 1 else cntP W v p n
theorem cntP_le {W : Nat → Nat} {v p : Nat} : ∀ n, cntP W v p n ≤ n
  | 0 => Nat.le_refl _
  | n + 1 => by
    have := cntP_le (W := W) (v := v) (p := p) n
    unfold cntP
    split <;> omega
theorem cntP_lt {W : Nat → Nat} {v p : Nat} (hv : W p = v) : ∀ n, p < n → cntP W v p n < n
  | 0, h => absurd h (by omega)
  | n + 1, h => by
    unfold cntP
    by_cases e : p = n
    · subst e
      rw [if_neg (by omega)]
      have := cntP_le (W := W) (v := v) (p := p) p
      omega
    · have := cntP_lt hv n (by omega)
      split <;> omega
theorem cntP_up {W : Nat → Nat} {v p : Nat} (hv : W p = v) : ∀ n, cntP W v (p + 1) n = cntP W v p n + (if p < n then 1 else 0)
  | 0 => by rw [if_neg (by omega)]; rfl
  | n + 1 => by
    unfold cntP
    rw [cntP_up hv n]
    by_cases e : n = p
    · subst e
      rw [if_pos (by omega), if_neg (show ¬ (v < W n ∨ (W n = v ∧ n < n)) by omega), if_neg (by omega), if_pos (by omega)]
    · by_cases c : v < W n ∨ (W n = v ∧ n < p)
      · rw [if_pos (by omega), if_pos c]
        by_cases q : p < n
        · rw [if_pos q, if_pos (by omega)]
        · rw [if_neg q, if_neg (by omega)]
      · rw [if_neg (by omega), if_neg c]
        by_cases q : p < n
        · rw [if_pos q, if_pos (by omega)]
        · rw [if_neg q, if_neg (by omega)]
theorem cntP_ne {W : Nat → Nat} {v p : Nat} (hv : ¬ W p = v) : ∀ n, cntP W v (p + 1) n = cntP W v p n
  | 0 => rfl
  | n + 1 => by
    unfold cntP
    rw [cntP_ne hv n]
    by_cases e : n = p
    · subst e
      by_cases c : v < W n
      · rw [if_pos (Or.inl c), if_pos (Or.inl c)]
      · rw [if_neg (by omega), if_neg (by omega)]
    · by_cases c : v < W n ∨ (W n = v ∧ n < p)
      · rw [if_pos (by omega), if_pos c]
      · rw [if_neg (by omega), if_neg c]
theorem cntP_next {W : Nat → Nat} {v m : Nat} (hm : ∀ j, m ≤ j → W j = 0) : ∀ n, cntP W (v + 1) m n = cntP W v 0 n
  | 0 => rfl
  | n + 1 => by
    unfold cntP
    rw [cntP_next hm n]
    have := hm n
    by_cases c : v < W n
    · rw [if_pos (by omega), if_pos (Or.inl c)]
    · rw [if_neg (by omega), if_neg (by omega)]
def mkW (W : Nat → Nat) (v p j : Nat) : Nat := if v < W j ∨ (W j = v ∧ j < p) then 0 else W j
def fIn (W : Nat → Nat) (v : Nat) (z : Int32) : Nat → Int32
  | 0 => z
  | p + 1 => if W p = v then fIn W v z p + (if cntP W v p 8 % 2 = 0 then nI v else -(nI v)) else fIn W v z p
def fOut (W : Nat → Nat) (m : Nat) : Nat → Int32
  | 0 => 0
  | u + 1 => fIn W (25 - u) (fOut W m u) m
theorem mkW_next {W : Nat → Nat} {v m : Nat} (hm : ∀ j, m ≤ j → W j = 0) (j : Nat) : mkW W (v + 1) m j = mkW W v 0 j := by
  unfold mkW
  have := hm j
  by_cases c : v < W j
  · rw [if_pos (by omega), if_pos (Or.inl c)]
  · rw [if_neg (by omega), if_neg (by omega)]
theorem mkW_ne {W : Nat → Nat} {v p j : Nat} (h : j ≠ p ∨ ¬ W p = v) : mkW W v (p + 1) j = mkW W v p j := by
  unfold mkW
  by_cases e : j = p
  · subst e
    by_cases c : v < W j
    · rw [if_pos (Or.inl c), if_pos (Or.inl c)]
    · rw [if_neg (by omega), if_neg (by omega)]
  · by_cases c : v < W j ∨ (W j = v ∧ j < p)
    · rw [if_pos (by omega), if_pos c]
    · rw [if_neg (by omega), if_neg c]
section ZLE
variable {l : Launch} {g : zG} {Q : Option zv → zI → zL → Prop} {I V : zI} {L : zL} {n m i p v : Nat}
theorem c_dearest {X : Nat → Nat} (hX : ∀ j, j < 8 → I 64 j = nI (X j)) (hp : p < 8) (hv : X p = v) (h0 : 0 < v) (h25 : v ≤ 25) (hle : ∀ j, j < 8 → X j ≤ v) (hlt : ∀ j, j < p → X j < v) (h : Q (some (vI (nI v))) (zs I 64 p 0) L) : Call l g 1 M_X5_takeDearest [vR 59] I L Q := by
  refine m_X5_takeDearest (fun k hk X' E => ?_)
  refine zdown (N := 8) (P := fun c => ∀ y1 y2 : Int32, (c ≤ p → ∃ u, u < v ∧ y2 = nI u) → (p < c → y1 = nI p ∧ y2 = nI v) → AW k g 4 I L 6 [(0, vR 59), (1, vI y1), (2, vI y2), (3, vI (nI c))] []) (fun y1 y2 a b => ?_) (fun c hc ih y1 y2 a b => ?_) (c := 0) (by omega) (-1) 0 (fun _ => ⟨0, h0, rfl⟩) (fun hh => absurd hh (Nat.not_lt_zero _))
  · refine s_X5_takeDearest_6 X' E ?_
    obtain ⟨rfl, rfl⟩ := b hp
    rw [if_neg (show ¬ nI 8 < 8 by decide), if_neg (nI_pos (by omega)), if_pos (n8 hp), zcl (by omega)]
    exact h
  · refine s_X5_takeDearest_6 X' E ?_
    rw [if_pos (n8 hc), zcl (by omega), hX c hc, ← nI_succ]
    refine ⟨zvin hc (by decide), ih _ _ (fun hcp => ?_) (fun hpc => ?_)⟩
    · obtain ⟨u, hu, rfl⟩ := a (by omega)
      by_cases q : nI u < nI (X c)
      · rw [if_pos q]
        exact ⟨X c, hlt c (by omega), rfl⟩
      · rw [if_neg q]
        exact ⟨u, hu, rfl⟩
    · by_cases e : c = p
      · subst e
        obtain ⟨u, hu, rfl⟩ := a (Nat.le_refl _)
        rw [hv, if_pos (nI_lt hu (by omega)), if_pos (nI_lt hu (by omega))]
        exact ⟨rfl, rfl⟩
      · obtain ⟨rfl, rfl⟩ := b (by omega)
        rw [if_neg (nI_nlt (hle c hc) (by omega)), if_neg (nI_nlt (hle c hc) (by omega))]
        exact ⟨rfl, rfl⟩
theorem c_dearest0 (hX : ∀ j, j < 8 → I 64 j = 0) (h : Q (some (vI 0)) I L) : Call l g 1 M_X5_takeDearest [vR 59] I L Q := by
  refine m_X5_takeDearest (fun k hk X' E => ?_)
  refine zdown (N := 8) (P := fun c => AW k g 4 I L 6 [(0, vR 59), (1, vI (-1)), (2, vI 0), (3, vI (nI c))] []) ?_ (fun c hc ih => ?_) (c := 0) (by omega)
  · refine s_X5_takeDearest_6 X' E ?_
    rw [if_neg (show ¬ nI 8 < 8 by decide), if_pos (by decide)]
    exact h
  · refine s_X5_takeDearest_6 X' E ?_
    rw [if_pos (n8 hc), zcl (by omega), hX c hc, ← nI_succ, if_neg (by decide), if_neg (by decide)]
    exact ⟨zvin hc (by decide), ih⟩
theorem jrem2 {t : Nat} (ht : t < 2147483648) : jrem (nI t) 2 = 0 ↔ t % 2 = 0 := by
  rw [show jrem (nI t) 2 = nI (t % 2) from pk_rem (d := 2) ht (by decide) (by decide), show (0 : Int32) = nI 0 from rfl, n_eq (by omega) (by decide)]
theorem c_lead {W : Nat → Nat} (hW : ∀ j, W j ≤ 25) (hm : m ≤ 8) (hz : ∀ j, m ≤ j → W j = 0) {k : zK} (X : zX k g cX5_firstPaperLead RX5 4 (some .int) 6) (E : zE k g Q) (hI : ∀ j, j < 8 → I 64 j = nI (W j)) (h : ∀ I' : zI, (∀ a, a ≠ 64 → I' a = I a) → Q (some (vI (fOut W m 25))) I' L) : AW k g 4 I L 39 [(0, vR 59), (1, vI 0), (2, vI 0)] [] := by
  have c0 : cntP W 25 0 8 = 0 := by
    have : ∀ n, cntP W 25 0 n = 0 := by
      intro n
      induction n with
      | zero => rfl
      | succ n ih =>
        unfold cntP
        rw [if_neg (by have := hW n; omega)]
        exact ih
    exact this 8
  have key : ∀ u, u ≤ 25 → ∀ B : zI, (∀ a, a ≠ 64 → B a = I a) → (∀ j, j < 8 → B 64 j = nI (mkW W (25 - u) 0 j)) → AW k g 4 B L 39 [(0, vR 59), (1, vI (fOut W m u)), (2, vI (nI (cntP W (25 - u) 0 8)))] [] := by
    intro u hu
    refine zdown (N := 25) (P := fun u => ∀ B : zI, (∀ a, a ≠ 64 → B a = I a) → (∀ j, j < 8 → B 64 j = nI (mkW W (25 - u) 0 j)) → AW k g 4 B L 39 [(0, vR 59), (1, vI (fOut W m u)), (2, vI (nI (cntP W (25 - u) 0 8)))] []) (fun B b1 b2 => ?_) (fun u hu ih B b1 b2 => ?_) (c := u) hu
    · have hb0 : ∀ j, j < 8 → B 64 j = 0 := fun j hj => by
        rw [b2 j hj]
        unfold mkW
        by_cases c : 0 < W j
        · rw [if_pos (Or.inl c)]; rfl
        · rw [if_neg (by omega), show W j = 0 by omega]; rfl
      refine zdown (N := 8) (P := fun t => AW k g 4 B L 39 [(0, vR 59), (1, vI (fOut W m 25)), (2, vI (nI t))] []) ?_ (fun t ht ih => ?_) (c := cntP W (25 - 25) 0 8) (cntP_le 8)
      · refine s_X5_firstPaperLead_39 X E ?_
        rw [if_neg (show ¬ nI 8 < 8 by decide)]
        exact h B b1
      · refine s_X5_firstPaperLead_39 X E ?_
        rw [if_pos (n8 ht)]
        refine c_dearest0 hb0 ⟨_, rfl, ?_⟩
        dsimp only
        rw [show (if jrem (nI t) 2 = 0 then (0 : Int32) else -0) = 0 from by split <;> rfl, Int32.add_zero, ← nI_succ]
        exact ih
    · obtain ⟨v, ev⟩ : ∃ v, 25 - u = v + 1 := ⟨24 - u, by omega⟩
      rw [ev] at b2 ⊢
      rw [show 25 - (u + 1) = v by omega] at ih
      refine zdown (N := m) (P := fun p => ∀ B : zI, (∀ a, a ≠ 64 → B a = I a) → (∀ j, j < 8 → B 64 j = nI (mkW W (v + 1) p j)) → AW k g 4 B L 39 [(0, vR 59), (1, vI (fIn W (v + 1) (fOut W m u) p)), (2, vI (nI (cntP W (v + 1) p 8)))] []) (fun B b1 b2 => ?_) (fun p hp ih2 B b1 b2 => ?_) (c := 0) (by omega) B b1 b2
      · have := ih B b1 (fun j hj => by rw [b2 j hj, mkW_next hz])
        rw [cntP_next hz]
        unfold fOut at this
        rw [ev] at this
        exact this
      · by_cases hv : W p = v + 1
        · refine s_X5_firstPaperLead_39 X E ?_
          have ht := cntP_lt hv 8 (show p < 8 by omega)
          rw [if_pos (n8 ht)]
          refine c_dearest (X := mkW W (v + 1) p) (p := p) (v := v + 1) b2 (by omega) ?_ (by omega) (by have := hW p; omega) (fun j hj => ?_) (fun j hj => ?_) ⟨_, rfl, ?_⟩
          · unfold mkW
            rw [if_neg (by omega)]
            exact hv
          · unfold mkW
            split
            · omega
            · omega
          · unfold mkW
            split
            · omega
            · omega
          · have := ih2 (zs B 64 p 0) (fun a ha => by rw [zs_nec ha]; exact b1 a ha) (fun j hj => ?_)
            · unfold fIn at this
              rw [if_pos hv, cntP_up hv, if_pos (show p < 8 by omega)] at this
              dsimp only
              rw [← nI_succ]
              by_cases c2 : cntP W (v + 1) p 8 % 2 = 0
              · rw [if_pos c2] at this
                rw [if_pos ((jrem2 (by omega)).mpr c2)]
                exact this
              · rw [if_neg c2] at this
                rw [if_neg (fun z => c2 ((jrem2 (by omega)).mp z))]
                exact this
            · rw [zs_at]
              by_cases e : j = p
              · rw [if_pos e, e]
                unfold mkW
                rw [if_pos (by omega)]
                rfl
              · rw [if_neg e, b2 j hj, mkW_ne (Or.inl e)]
        · have := ih2 B b1 (fun j hj => by rw [b2 j hj, mkW_ne (Or.inr hv)])
          unfold fIn at this
          rw [if_neg hv, cntP_ne hv] at this
          exact this
  have := key 0 (by decide) I (fun _ _ => rfl) (fun j hj => by
    rw [hI j hj]
    unfold mkW
    rw [if_neg (by have := hW j; omega)])
  rw [show 25 - 0 = 25 from rfl, c0] at this
  exact this
/-- the worth of a pane -/
def wrt (V : zI) (i : Nat) : Nat := if V 95 i = -1 then 0 else wth (ob V i (V 95 i)) (V 95 i) 25
theorem wrt_le (V : zI) (i : Nat) : wrt V i ≤ 25 := by
  unfold wrt
  split
  · omega
  · exact wth_le 25
theorem R_worth (h : RC I V n m) (hi : i < m) (hQ : ∀ I' : zI, (∀ a, a ≠ 60 → a ≠ 61 → a ≠ 62 → I' a = I a) → Q (some (vI (nI (wrt V i)))) I' L) : Call l g 5 M_X5_worthOf [vR 59, vR (5 + 2 * i)] I L Q := by
  obtain ⟨⟨i8, z0, z1, z2⟩, p0, p1, p2, p3, p4, p5, p6⟩ := RC_pane h hi
  obtain ⟨hW, hN, hn, hm, e2, e2', e3, e3', e4, e5, e6, hf⟩ := RC_wx h
  refine m_X5_worthOf (fun k hk X E => ?_)
  rw [if_neg (by omega), p3]
  refine ⟨zshP i i8, ?_⟩
  unfold wrt at hQ
  by_cases hh : V 95 i = -1
  · rw [if_pos hh] at hQ ⊢
    exact hQ I (fun _ _ _ _ => rfl)
  rw [if_neg hh] at hQ ⊢
  refine c_readAllHours (zshP i i8) (by omega) ⟨n, hn, e2⟩ (fun A g1 g2 => ⟨rfl, ?_⟩)
  refine zdown (N := 25) (P := fun c => AW k g 4 A L 27 [(0, vR 59), (1, vR (5 + 2 * i)), (2, vI (nI (wth (ob V i (V 95 i)) (V 95 i) c))), (3, vI (nI c))] []) ?_ (fun c hc ih => ?_) (c := 0) (by omega)
  · refine s_X5_worthOf_27 X E ?_
    rw [if_neg (show ¬ nI 25 < 25 by decide)]
    exact hQ A g1
  · refine s_X5_worthOf_27 X E ?_
    have e3 : A (5 + 2 * i) 3 = V 95 i := by rw [g1 (5 + 2 * i) (by omega) (by omega) (by omega)]; exact p3
    rw [if_pos (n25 hc), zcl (by omega), g2 c hc, ob_c h hi p5, e3, ← nI_succ]
    refine ⟨zvin hc (by decide), zshP i i8, ?_⟩
    unfold wth at ih
    by_cases e : ob V i (V 95 i) c = V 95 i
    · rw [if_pos e] at ih ⊢
      rw [← nI_succ]
      exact ih
    · rw [if_neg e] at ih ⊢
      rw [Int32.add_zero]
      exact ih
def wrtW (V : zI) (m : Nat) (j : Nat) : Nat := if j < m then wrt V j else 0
theorem paneAt_g {m : Nat} {I : zI} {s i : Nat} (e : I s 3 = nI m) (hm : m ≤ 8) (hi : i < 8) : (i < m ∧ v_X4_paneAt I s (nI i) = s + 3 + 2 * i) ∨ (m ≤ i ∧ v_X4_paneAt I s (nI i) = 0) := by
  unfold v_X4_paneAt
  rw [if_neg (nI_pos (by omega)), e]
  by_cases h : i < m
  · exact Or.inl ⟨h, by rw [if_pos (nI_lt h (by omega)), if_pos (n8 hi), zcl (by omega)]⟩
  · exact Or.inr ⟨by omega, by rw [if_neg (nI_nlt (by omega) (by omega))]⟩
theorem q_let (h : RC I V n m) (hQ : ∀ I' : zI, Gf I I' → Q (some (vI (fOut (wrtW V m) m 25))) I' L) : Call l g 7 M_X6_let [vR 1] I L Q := by
  obtain ⟨hW, hN, hn, hm, e2, e2', e3, e3', e4, e5, e6, hf⟩ := RC_wx h
  have hWle : ∀ j, wrtW V m j ≤ 25 := fun j => by
    unfold wrtW
    split
    · exact wrt_le V j
    · omega
  have hWz : ∀ j, m ≤ j → wrtW V m j = 0 := fun j hj => if_neg (by omega)
  refine m_X6_let ?_
  refine m_X5_firstPaperLead (fun k hk X E => ?_)
  refine zdown (N := 8) (P := fun c => ∀ B : zI, Gf I B → (∀ j, j < c → B 64 j = nI (wrtW V m j)) → AW k g 4 B L 2 [(0, vR 59), (1, vI (nI c))] []) (fun B b1 b2 => ?_) (fun c hc ih B b1 b2 => ?_) (c := 0) (by omega) I Gf.rf (fun _ hh => absurd hh (Nat.not_lt_zero _))
  · refine s_X5_firstPaperLead_2 X E ?_
    rw [if_neg (show ¬ nI 8 < 8 by decide)]
    exact c_lead hWle hm hWz X E b2 (fun A a1 => ⟨_, rfl, hQ A (fun a ha => (a1 a (by unfold gl at ha; omega)).trans (b1 a ha))⟩)
  · refine s_X5_firstPaperLead_2 X E ?_
    have hRB := RC_gl b1 h
    have b23 : B 2 3 = nI m := by rw [b1.lo (by decide)]; exact e3
    have next : ∀ (A : zI) (w : Nat), (∀ a, a ≠ 60 → a ≠ 61 → a ≠ 62 → A a = B a) → w = wrtW V m c → vp_in (nI c) 8 ∧ AW k g 4 (zs A 64 (nI c).toNatClampNeg (nI w)) L 2 [(0, vR 59), (1, vI (nI c + 1))] [] := fun A w hA hw => by
      rw [zcl (by omega), ← nI_succ]
      refine ⟨zvin hc (by decide), ih _ (fun a ha => ?_) (fun j hj => ?_)⟩
      · rw [zs_nec (by unfold gl at ha; omega), hA a (by unfold gl at ha; omega) (by unfold gl at ha; omega) (by unfold gl at ha; omega)]
        exact b1 a ha
      · rw [zs_at]
        by_cases e : j = c
        · rw [if_pos e, e, hw]
        · rw [if_neg e, hA 64 (by decide) (by decide) (by decide)]
          exact b2 j (by omega)
    rw [if_pos (n8 hc)]
    rcases paneAt_g (I := B) (s := 2) (m := m) (i := c) b23 hm hc with ⟨w1, w2⟩ | ⟨w1, w2⟩
    · rw [w2, show 2 + 3 + 2 * c = 5 + 2 * c by omega]
      exact R_worth hRB w1 (fun A hA => ⟨_, rfl, next A (wrt V c) hA (if_pos w1).symm⟩)
    · rw [w2]
      refine m_X5_worthOf (fun k3 hk3 X3 E3 => ?_)
      rw [if_pos rfl]
      exact ⟨_, rfl, next B 0 (fun _ _ _ _ => rfl) (hWz c w1).symm⟩
end ZLE
