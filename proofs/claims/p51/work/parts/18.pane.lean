/-! PANES OF THE CLASS: freezing, melting, glass -/
theorem n16 {c : Nat} (h : c < 16) : nI c < 16 := (nI_lt h (by decide) : nI c < nI 16)
theorem n25 {c : Nat} (h : c < 25) : nI c < 25 := (nI_lt h (by decide) : nI c < nI 25)
theorem n24 {c : Nat} (h : c < 24) : nI c < 24 := (nI_lt h (by decide) : nI c < nI 24)
theorem n8 {c : Nat} (h : c < 8) : nI c < 8 := (nI_lt h (by decide) : nI c < nI 8)
section ZPA
variable {l : Launch} {g : zG} {Q : Option zv → zI → zL → Prop} {I : zI} {L : zL} {p q : Nat} {a1 a2 a3 : Int32}
theorem c_freezeWith (hp : zsh p = (11, 6)) (h : ∀ I' : zI, (∀ a, a ≠ p + 1 → I' a = I a) → (∀ c, c < 16 → I' (p + 1) c = fFr (I p 0) (I p 4) (fPat (I p 0) (I p 2) a1) (jmin a2 20) a3 (nI c)) → Q none I' L) : Call l g 3 M_X1_freezeWith [vR p, vI a1, vI a2, vI a3] I L Q := by
  refine m_X1_freezeWith hp (fun k hk X E => ?_)
  refine zdown (N := 16) (P := fun c => ∀ I1 : zI, (∀ a, a ≠ p + 1 → I1 a = I a) → (∀ j, j < c → I1 (p + 1) j = fFr (I p 0) (I p 4) (fPat (I p 0) (I p 2) a1) (jmin a2 20) a3 (nI j)) → AW k g 7 I1 L 18 [(0, vR p), (3, vI a3), (4, vI (v_X1_patternWith I p a1)), (5, vI (jmin a2 20)), (6, vI (nI c))] []) (fun I1 h1 h2 => ?_) (fun c hc ih I1 h1 h2 => ?_) (c := 0) (by omega) I (fun _ _ => rfl) (fun _ h => absurd h (Nat.not_lt_zero _))
  · refine s_X1_freezeWith_18 hp X E ?_
    rw [if_neg (show ¬ nI 16 < 16 by decide)]
    exact h I1 h1 h2
  · refine s_X1_freezeWith_18 hp X E ?_
    rw [if_pos (n16 hc), zcl (by omega), ← nI_succ, c_fr, c_pat, h1 p (by omega)]
    refine ⟨zvin hc (by decide), ih _ (fun a ha => by rw [zs_nec ha]; exact h1 a ha) (fun j hj => ?_)⟩
    by_cases e : j = c
    · rw [e, zs_same]
    · rw [zs_ne (fun z => e z.2)]
      exact h2 j (by omega)
theorem mel_cong {m : Int32} {f f2 : Nat → Int32} (h : ∀ c, c < 16 → f c = f2 c) {c : Nat} (hc : c < 16) : mel m f c = mel m f2 c := by
  unfold mel
  rw [frost_cong h, h c hc]
theorem c_meltBy (hp : zsh p = (11, 6)) (h : ∀ I' : zI, (∀ a, a ≠ p + 1 → I' a = I a) → (∀ c, c < 16 → I' (p + 1) c = mel a1 (I (p + 1)) c) → Q none I' L) : Call l g 2 M_X1_meltBy [vR p, vI a1] I L Q := by
  refine m_X1_meltBy hp (fun k hk X E => ?_)
  by_cases h0 : 0 < a1
  · rw [if_pos h0]
    by_cases hf : frost (I (p + 1)) 16 = 0
    · rw [if_pos (show v_X1_frosted I p = 0 from hf)]
      refine h I (fun _ _ => rfl) (fun c hc => ?_)
      unfold mel
      rw [if_pos h0, if_pos hf]
    · rw [if_neg (show ¬ v_X1_frosted I p = 0 from hf)]
      refine zdown (N := 16) (P := fun c => ∀ I1 : zI, (∀ a, a ≠ p + 1 → I1 a = I a) → (∀ j, j < c → I1 (p + 1) j = mel a1 (I (p + 1)) j) → (∀ j, c ≤ j → I1 (p + 1) j = I (p + 1) j) → AW k g 6 I1 L 29 [(0, vR p), (1, vI a1), (3, vI (((jshl (v_X1_frosted I p) 1) &&& (jshr (v_X1_frosted I p) 1)) &&& 26214)), (4, vI (nI c))] []) (fun I1 h1 h2 h3 => ?_) (fun c hc ih I1 h1 h2 h3 => ?_) (c := 0) (by omega) I (fun _ _ => rfl) (fun _ h => absurd h (Nat.not_lt_zero _)) (fun _ _ => rfl)
      · refine s_X1_meltBy_29 hp X E ?_
        rw [if_neg (show ¬ nI 16 < 16 by decide)]
        exact h I1 h1 h2
      · refine s_X1_meltBy_29 hp X E ?_
        rw [if_pos (n16 hc), zcl (by omega), ← nI_succ, h3 c (Nat.le_refl _)]
        refine ⟨zvin hc (by decide), ih _ (fun a ha => by rw [zs_nec ha]; exact h1 a ha) (fun j hj => ?_) (fun j hj => ?_)⟩
        · by_cases e : j = c
          · rw [e, zs_same]
            unfold mel
            rw [if_pos h0, if_neg hf]
            rfl
          · rw [zs_ne (fun z => e z.2)]
            exact h2 j (by omega)
        · rw [zs_ne (fun z => by omega)]
          exact h3 j (by omega)
  · rw [if_neg h0]
    refine h I (fun _ _ => rfl) (fun c hc => ?_)
    unfold mel
    rw [if_neg h0]
/-- n hours from hour s on -/
def hrs (k room a out : Int32) (s : Nat) (f : Nat → Int32) : Nat → Nat → Int32
  | 0 => f
  | n + 1 => mel (fMe k room a (nI (s + n)) out) (hrs k room a out s f n)
theorem hrs_cong {k room a out : Int32} {s : Nat} {f f2 : Nat → Int32} (h : ∀ c, c < 16 → f c = f2 c) : ∀ n {c : Nat}, c < 16 → hrs k room a out s f n c = hrs k room a out s f2 n c
  | 0, c, hc => h c hc
  | n + 1, c, hc => mel_cong (fun c hc => hrs_cong h n hc) hc
theorem c_passHours {s n : Nat} (hn : s + n ≤ 24) (hp : zsh p = (11, 6)) (h : ∀ I' : zI, (∀ a, a ≠ p + 1 → I' a = I a) → (∀ c, c < 16 → I' (p + 1) c = hrs (I p 0) (I p 1) (I p 2) a3 s (I (p + 1)) n c) → Q none I' L) : Call l g 3 M_X1_passHours [vR p, vI (nI s), vI (nI (s + n)), vI a3] I L Q := by
  refine m_X1_passHours hp (fun k hk X E => ?_)
  refine zdown (N := n) (P := fun c => ∀ I1 : zI, (∀ a, a ≠ p + 1 → I1 a = I a) → (∀ j, j < 16 → I1 (p + 1) j = hrs (I p 0) (I p 1) (I p 2) a3 s (I (p + 1)) c j) → AW k g 5 I1 L 3 [(0, vR p), (2, vI (nI (s + n))), (3, vI a3), (4, vI (nI (s + c)))] []) (fun I1 h1 h2 => ?_) (fun c hc ih I1 h1 h2 => ?_) (c := 0) (by omega) I (fun _ _ => rfl) (fun _ _ => rfl)
  · refine s_X1_passHours_3 hp X E ?_
    rw [if_neg (nI_nlt (Nat.le_refl _) (by omega))]
    exact h I1 h1 h2
  · refine s_X1_passHours_3 hp X E ?_
    rw [if_pos (nI_lt (show s + c < s + n by omega) (by omega)), if_pos (n24 (show s + c < 24 by omega)), c_me, h1 p (by omega)]
    refine c_meltBy hp (fun I2 g1 g2 => ⟨rfl, ?_⟩)
    rw [← nI_succ, Nat.add_assoc]
    refine ih I2 (fun a ha => (g1 a ha).trans (h1 a ha)) (fun j hj => ?_)
    rw [g2 j hj]
    exact mel_cong h2 hj
theorem c_takeGlass (hp : zsh p = (11, 6)) (hq : zsh q = (11, 6)) (hpq : p ≠ q) (h : ∀ I' : zI, (∀ a, a ≠ p → I' a = I a) → (∀ j, j < 5 → I' p j = I q j) → Q none I' L) : Call l g 1 M_X1_takeGlass [vR p, vR q] I L Q := by
  refine m_X1_takeGlass hp ⟨hq, ?_⟩
  intro I2 e2 I3 e3 I4 e4 I5 e5
  have hq' : q ≠ p := fun e => hpq e.symm
  have q2 : I2 q = I q := by rw [e2, zs_nec hq']
  have q3 : I3 q = I q := by rw [e3, zs_nec hq', q2]
  have q4 : I4 q = I q := by rw [e4, zs_nec hq', q3]
  have q5 : I5 q = I q := by rw [e5, zs_nec hq', q4]
  refine h _ (fun a ha => by rw [zs_nec ha, e5, zs_nec ha, e4, zs_nec ha, e3, zs_nec ha, e2, zs_nec ha]) (fun j hj => ?_)
  rw [q5]
  have : j = 0 ∨ j = 1 ∨ j = 2 ∨ j = 3 ∨ j = 4 := by omega
  rcases this with rfl | rfl | rfl | rfl | rfl
  · rw [zs_ne (by omega), e5, zs_ne (by omega), e4, zs_ne (by omega), e3, zs_ne (by omega), e2, zs_same]
  · rw [zs_ne (by omega), e5, zs_ne (by omega), e4, zs_ne (by omega), e3, zs_same, q2]
  · rw [zs_ne (by omega), e5, zs_ne (by omega), e4, zs_same, q3]
  · rw [zs_ne (by omega), e5, zs_same, q4]
  · rw [zs_same]
/-- the ice of a fresh pane; after n hours; the shape -/
def ice0 (k a scr form cold wet : Int32) (c : Nat) : Int32 := fFr k scr (fPat k a form) (jmin (fSh k a cold wet) 20) wet (nI c)
def iceH (k room a scr form cold wet out : Int32) (n : Nat) : Nat → Int32 := hrs k room a out 0 (ice0 k a scr form cold wet) n
def shpH (k room a scr form cold wet out : Int32) (n : Nat) : Int32 := frost (iceH k room a scr form cold wet out n) 16
theorem c_shapeOnGlass {n : Nat} (hn : n ≤ 24) (h : ∀ I' : zI, (∀ a, a ≠ 61 → I' a = I a) → (∀ c, c < 16 → I' 61 c = iceH (I 60 0) (I 60 1) (I 60 2) (I 60 4) (v_X4_cellsOf I 2 a1) a3 (I 2 5) (I 2 6) n c) → Q (some (vI (shpH (I 60 0) (I 60 1) (I 60 2) (I 60 4) (v_X4_cellsOf I 2 a1) a3 (I 2 5) (I 2 6) n))) I' L) : Call l g 4 M_X5_shapeOnGlass [vR 59, vI a1, vI (nI n), vI a3] I L Q := by
  refine m_X5_shapeOnGlass ?_
  refine c_freezeWith (p := 60) rfl (fun I1 g1 g2 => ⟨rfl, ?_⟩)
  have e60 : I1 60 = I 60 := g1 60 (by decide)
  have e2 : I1 2 = I 2 := g1 2 (by decide)
  have := c_passHours (l := l) (g := g) (I := I1) (L := L) (p := 60) (a3 := I1 2 6) (s := 0) (n := n) (by omega) rfl (Q := zn fun I2 L2 => Q (some (vI (v_X1_frosted I2 60))) I2 L2) (fun I2 g3 g4 => ⟨rfl, ?_⟩)
  · rw [Nat.zero_add] at this
    exact this
  · have key : ∀ c, c < 16 → I2 61 c = iceH (I 60 0) (I 60 1) (I 60 2) (I 60 4) (v_X4_cellsOf I 2 a1) a3 (I 2 5) (I 2 6) n c := by
      intro c hc
      rw [g4 c hc, e60, e2]
      refine hrs_cong (fun c hc => ?_) n hc
      rw [g2 c hc, c_sh]
      rfl
    have e : v_X1_frosted I2 60 = shpH (I 60 0) (I 60 1) (I 60 2) (I 60 4) (v_X4_cellsOf I 2 a1) a3 (I 2 5) (I 2 6) n := frost_cong key
    show Q (some (vI (v_X1_frosted I2 60))) I2 L
    rw [e]
    exact h I2 (fun a ha => (g3 a ha).trans (g1 a ha)) key
theorem c_shapeAt {n : Nat} (hn : n ≤ 24) (hq : zsh q = (11, 6)) (h60 : q ≠ 60) (h : ∀ I' : zI, (∀ a, a ≠ 60 → a ≠ 61 → I' a = I a) → (∀ c, c < 16 → I' 61 c = iceH (I q 0) (I q 1) (I q 2) (I q 4) (v_X4_cellsOf I 2 a1) (I 2 4) (I 2 5) (I 2 6) n c) → Q (some (vI (shpH (I q 0) (I q 1) (I q 2) (I q 4) (v_X4_cellsOf I 2 a1) (I 2 4) (I 2 5) (I 2 6) n))) I' L) : Call l g 5 M_X5_shapeAt [vR 59, vR q, vI a1, vI (nI n)] I L Q := by
  refine m_X5_shapeAt ?_
  refine c_takeGlass (p := 60) rfl hq (fun e => h60 e.symm) (fun I1 g1 g2 => ⟨rfl, ?_⟩)
  have e2 : I1 2 = I 2 := g1 2 (by decide)
  have e3 : I1 3 = I 3 := g1 3 (by decide)
  have ec : v_X4_cellsOf I1 2 a1 = v_X4_cellsOf I 2 a1 := by unfold v_X4_cellsOf v_X4_isLetter; rw [e2, e3]
  refine c_shapeOnGlass hn (fun I2 g3 g4 => ⟨_, rfl, ?_⟩)
  rw [ec, e2, g2 0 (by decide), g2 1 (by decide), g2 2 (by decide), g2 4 (by decide)] at g4 ⊢
  exact h I2 (fun a ha hb => (g3 a hb).trans (g1 a ha)) g4
end ZPA
