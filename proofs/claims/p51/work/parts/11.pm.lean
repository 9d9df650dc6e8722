/-! PURE METHODS WITH LOOPS: their values, by hand -/
theorem Call_mono {l : Launch} {g : zG} {d : Nat} {M : zM} {as : List zv} {I : zI} {L : zL} {Q Q' : Option zv → zI → zL → Prop} (h : Call l g d M as I L Q) (hQ : ∀ v I' L', Q v I' L' → Q' v I' L') : Call l g d M as I L Q' := by
  unfold Call Met MetFree at *
  intro p e h1 h2 h3 s m args below h4 h5 h6 h7
  obtain ⟨n, o, a1, a2, a3, ⟨⟨⟨v, I', L', e1, e2, e3⟩, e4⟩, e5⟩⟩ := h p e h1 h2 h3 s m args below h4 h5 h6 h7
  exact ⟨n, o, a1, a2, a3, ⟨⟨v, I', L', e1, hQ _ _ _ e2, e3⟩, e4⟩, e5⟩
/-- a pure call, before what follows it -/
theorem Call_p {l : Launch} {g : zG} {d : Nat} {M : zM} {as : List zv} {I : zI} {L : zL} {Q : Option zv → zI → zL → Prop} {v : Option zv} (h : Call l g d M as I L (zp v I L)) (hQ : Q v I L) : Call l g d M as I L Q := Call_mono h (fun v' I' L' e => by obtain ⟨rfl, rfl, rfl⟩ := e; exact hQ)
/-- counting down the rest of a loop -/
theorem zdown {N : Nat} {P : Nat → Prop} (hN : P N) (hs : ∀ c, c < N → P (c + 1) → P c) : ∀ {c}, c ≤ N → P c := by
  have key : ∀ n c, c + n = N → P c := by
    intro n
    induction n with
    | zero => intro c h; rw [show c = N by omega]; exact hN
    | succ n ih => intro c h; exact hs c (by omega) (ih (c + 1) (by omega))
  intro c h
  exact key (N - c) c (by omega)
theorem zvin {c n : Nat} (h : c < n) (hn : n < 2147483648) : vp_in (nI c) n := nI_in h hn
theorem zcl {c : Nat} (h : c < 2147483648) : (nI c).toNatClampNeg = c := nI_clamp h
/-- a small count -/
def zle (b : Nat) (x : Int32) : Prop := ∃ n, n ≤ b ∧ x = nI n
theorem zle_c {b : Nat} {x : Int32} (h : zle b x) (hb : b < 2147483648) : x = nI x.toNatClampNeg ∧ x.toNatClampNeg ≤ b := by
  obtain ⟨n, hn, rfl⟩ := h
  rw [zcl (by omega)]
  exact ⟨rfl, hn⟩
abbrev bc (x : Int32) : Int32 := v_J6_bitCount_0f7a4 x
def v_X1_kindAbove (a1 : Int32) : Int32 := if a1 < 0 then (-1) else if a1 < 7 then zK_KIND_ABOVE.getD a1.toNatClampNeg 0 else ((-1) : Int32)
/-- Pane.isOf -/
def ofl : Nat → Int32 → Int32 → Int32
  | 0, y, w => if y = w then 1 else 0
  | n + 1, y, w => if y = w then 1 else ofl n (v_X1_kindAbove y) w
def v_X1_isOf (I : zI) (p : Nat) (a1 : Int32) : Int32 := ofl 7 (I p 0) a1
theorem ofl01 : ∀ n y w, ofl n y w = 0 ∨ ofl n y w = 1
  | 0, y, w => by unfold ofl; split; exact Or.inr rfl; exact Or.inl rfl
  | n + 1, y, w => by unfold ofl; split; exact Or.inr rfl; exact ofl01 n _ w
theorem b_X1_isOf {I : zI} {p : Nat} {a1 : Int32} : v_X1_isOf I p a1 = 0 ∨ v_X1_isOf I p a1 = 1 := ofl01 _ _ _
theorem ofl_eq {n : Nat} {y w : Int32} (h : y = w) : ofl n y w = 1 := by cases n <;> simp [ofl, h]
theorem p_X1_isOf {l : Launch} {g : zG} {I : zI} {L : zL} {p : Nat} {a1 : Int32} (hp : zsh p = (11, 6)) : Call l g 1 M_X1_isOf [vR p, vI a1] I L (zp (some (vI (v_X1_isOf I p a1))) I L) := by
  refine m_X1_isOf hp (fun k hk X E => ?_)
  have key : ∀ n c y, c + n = 7 → ofl n y a1 = ofl 7 (I p 0) a1 → AW k g 4 I L 7 [(1, vI a1), (2, vI y), (3, vI (nI c))] [] := by
    intro n
    induction n with
    | zero =>
      intro c y hc he
      obtain rfl : c = 7 := by omega
      refine s_X1_isOf_7 hp X E ?_
      rw [if_neg (show ¬ nI 7 < 7 by decide)]
      exact ⟨by unfold v_X1_isOf; rw [← he]; rfl, rfl, rfl⟩
    | succ n ih =>
      intro c y hc he
      refine s_X1_isOf_7 hp X E ?_
      rw [if_pos (show nI c < 7 from (nI_lt (by omega) (by omega) : nI c < nI 7))]
      split
      · rename_i h
        refine ⟨?_, rfl, rfl⟩
        rw [ofl_eq h] at he
        unfold v_X1_isOf
        rw [← he]
      · rename_i h
        intro u hu
        rw [← nI_succ]
        refine ih (c + 1) u (by omega) ?_
        rw [← he, hu]
        show ofl n (v_X1_kindAbove y) a1 = if y = a1 then 1 else ofl n (v_X1_kindAbove y) a1
        rw [if_neg h]
  exact key 7 0 (I p 0) rfl rfl
/-- the bits of a row of ice -/
def frost (f : Nat → Int32) : Nat → Int32
  | 0 => 0
  | n + 1 => if 0 < f n then frost f n ||| jshl 1 (nI n) else frost f n
def v_X1_frosted (I : zI) (p : Nat) : Int32 := frost (I (p + 1)) 16
theorem p_X1_frosted {l : Launch} {g : zG} {I : zI} {L : zL} {p : Nat} (hp : zsh p = (11, 6)) : Call l g 1 M_X1_frosted [vR p] I L (zp (some (vI (v_X1_frosted I p))) I L) := by
  refine m_X1_frosted hp (fun k hk X E => ?_)
  refine zdown (N := 16) (P := fun c => AW k g 3 I L 4 [(0, vR p), (1, vI (frost (I (p + 1)) c)), (2, vI (nI c))] []) ?_ (fun c hc ih => ?_) (c := 0) (by omega)
  · refine s_X1_frosted_4 hp X E ?_
    rw [if_neg (show ¬ nI 16 < 16 by decide)]
    exact ⟨rfl, rfl, rfl⟩
  · refine s_X1_frosted_4 hp X E ?_
    rw [if_pos (show nI c < 16 from (nI_lt hc (by decide) : nI c < nI 16)), zcl (by omega), ← nI_succ]
    exact ⟨zvin hc (by decide), ih⟩
/-- what a shape is read as: the letter, the fewest cells unlike -/
def rdg (f : Nat → Int32) (sh : Int32) : Nat → Int32 × Int32
  | 0 => (-1, 5)
  | n + 1 => (if bc (f n ^^^ sh) < (rdg f sh n).2 then nI n else if bc (f n ^^^ sh) = (rdg f sh n).2 then -1 else (rdg f sh n).1, if bc (f n ^^^ sh) < (rdg f sh n).2 then bc (f n ^^^ sh) else (rdg f sh n).2)
def v_X4_readingOf (I : zI) (p : Nat) (a1 : Int32) : Int32 := (rdg (I (p + 1)) a1 (I p 2).toNatClampNeg).1
def k_X4_readingOf (I : zI) (p : Nat) (_a1 : Int32) : Prop := zle 8 (I p 2)
theorem isl {I : zI} {p c n : Nat} (he : I p 2 = nI n) (hn : n ≤ 8) (hc : c < n) : v_X4_isLetter I p (nI c) = 1 := by
  unfold v_X4_isLetter
  rw [if_neg (nI_pos (by omega)), he, if_pos (nI_lt hc (by omega)), if_pos (show nI c < 8 from (nI_lt (by omega) (by decide) : nI c < nI 8))]
theorem cellsOf_in {I : zI} {p c n : Nat} (he : I p 2 = nI n) (hn : n ≤ 8) (hc : c < n) : v_X4_cellsOf I p (nI c) = I (p + 1) c := by
  unfold v_X4_cellsOf
  rw [isl he hn hc, if_neg (by decide), zcl (by omega)]
theorem p_X4_readingOf {l : Launch} {g : zG} {I : zI} {L : zL} {p : Nat} {a1 : Int32} (hp : zsh p = (14, 10)) (hk0 : k_X4_readingOf I p a1) : Call l g 3 M_X4_readingOf [vR p, vI a1] I L (zp (some (vI (v_X4_readingOf I p a1))) I L) := by
  obtain ⟨e0, h8⟩ := zle_c hk0 (by decide)
  generalize hN : (I p 2).toNatClampNeg = N at e0 h8
  refine m_X4_readingOf hp (fun k hk X E => ?_)
  refine zdown (N := N) (P := fun c => AW k g 6 I L 7 [(0, vR p), (1, vI a1), (2, vI (rdg (I (p + 1)) a1 c).1), (3, vI (rdg (I (p + 1)) a1 c).2), (4, vI (nI c))] []) ?_ (fun c hc ih => ?_) (c := 0) (by omega)
  · refine s_X4_readingOf_7 hp X E ?_
    rw [e0, if_neg (nI_nlt (Nat.le_refl _) (by omega))]
    exact ⟨by unfold v_X4_readingOf; rw [hN], rfl, rfl⟩
  · refine s_X4_readingOf_7 hp X E ?_
    rw [cellsOf_in e0 h8 hc]
    rw [e0, if_pos (nI_lt hc (by omega)), ← nI_succ]
    rintro u5 rfl u6 rfl
    exact ih
/-- the fewest cells unlike, but for one letter -/
def few (f : Nat → Int32) (cells but : Int32) : Nat → Int32
  | 0 => 17
  | n + 1 => if nI n = but then few f cells but n else jmin (few f cells but n) (bc (f n ^^^ cells))
def v_X4_fewestUnlike (I : zI) (p : Nat) (a1 a2 : Int32) : Int32 := few (I (p + 1)) a1 a2 (I p 2).toNatClampNeg
def k_X4_fewestUnlike (I : zI) (p : Nat) (_a1 _a2 : Int32) : Prop := zle 8 (I p 2)
theorem p_X4_fewestUnlike {l : Launch} {g : zG} {I : zI} {L : zL} {p : Nat} {a1 a2 : Int32} (hp : zsh p = (14, 10)) (hk0 : k_X4_fewestUnlike I p a1 a2) : Call l g 3 M_X4_fewestUnlike [vR p, vI a1, vI a2] I L (zp (some (vI (v_X4_fewestUnlike I p a1 a2))) I L) := by
  obtain ⟨e0, h8⟩ := zle_c hk0 (by decide)
  generalize hN : (I p 2).toNatClampNeg = N at e0 h8
  refine m_X4_fewestUnlike hp (fun k hk X E => ?_)
  refine zdown (N := N) (P := fun c => AW k g 5 I L 6 [(0, vR p), (1, vI a1), (2, vI a2), (3, vI (few (I (p + 1)) a1 a2 c)), (4, vI (nI c))] []) ?_ (fun c hc ih => ?_) (c := 0) (by omega)
  · refine s_X4_fewestUnlike_6 hp X E ?_
    rw [e0, if_neg (nI_nlt (Nat.le_refl _) (by omega))]
    exact ⟨by unfold v_X4_fewestUnlike; rw [hN], rfl, rfl⟩
  · refine s_X4_fewestUnlike_6 hp X E ?_
    rw [cellsOf_in e0 h8 hc]
    rw [e0, if_pos (nI_lt hc (by omega)), ← nI_succ]
    rintro u5 rfl
    exact ih
/-- the change of a cell that is the best -/
def bst (f : Nat → Int32) (n : Nat) (letter own : Int32) : Nat → Int32 × Int32
  | 0 => (-1, -1)
  | c + 1 => (if (bst f n letter own c).2 < few f (own ^^^ jshl 1 (nI c)) letter n then nI c else (bst f n letter own c).1, if (bst f n letter own c).2 < few f (own ^^^ jshl 1 (nI c)) letter n then few f (own ^^^ jshl 1 (nI c)) letter n else (bst f n letter own c).2)
def v_X4_bestChange (I : zI) (p : Nat) (a1 : Int32) : Int32 := (bst (I (p + 1)) (I p 2).toNatClampNeg a1 (v_X4_cellsOf I p a1) 16).1
def k_X4_bestChange (I : zI) (p : Nat) (_a1 : Int32) : Prop := zle 8 (I p 2)
theorem p_X4_bestChange {l : Launch} {g : zG} {I : zI} {L : zL} {p : Nat} {a1 : Int32} (hp : zsh p = (14, 10)) (hk0 : k_X4_bestChange I p a1) : Call l g 4 M_X4_bestChange [vR p, vI a1] I L (zp (some (vI (v_X4_bestChange I p a1))) I L) := by
  refine m_X4_bestChange hp (fun k hk X E => ?_)
  refine zdown (N := 16) (P := fun c => AW k g 6 I L 7 [(0, vR p), (1, vI a1), (2, vI (bst (I (p + 1)) (I p 2).toNatClampNeg a1 (v_X4_cellsOf I p a1) c).1), (3, vI (bst (I (p + 1)) (I p 2).toNatClampNeg a1 (v_X4_cellsOf I p a1) c).2), (4, vI (nI c))] []) ?_ (fun c hc ih => ?_) (c := 0) (by omega)
  · refine s_X4_bestChange_7 hp X E ?_
    rw [if_neg (show ¬ nI 16 < 16 by decide)]
    exact ⟨rfl, rfl, rfl⟩
  · refine s_X4_bestChange_7 hp X E ?_
    rw [if_pos (show nI c < 16 from (nI_lt hc (by decide) : nI c < nI 16)), ← nI_succ]
    refine Call_p (p_X4_fewestUnlike hp hk0) ⟨_, rfl, ?_⟩
    exact ih
/-- the letters whose forms lie nearest: pair, fewest -/
def nrI (f : Nat → Int32) (i : Nat) (z : Int32 × Int32) : Nat → Int32 × Int32
  | 0 => z
  | n + 1 => (if bc (f i ^^^ f (i + 1 + n)) < (nrI f i z n).2 then 10 * nI i + nI (i + 1 + n) else (nrI f i z n).1, if bc (f i ^^^ f (i + 1 + n)) < (nrI f i z n).2 then bc (f i ^^^ f (i + 1 + n)) else (nrI f i z n).2)
def nrO (f : Nat → Int32) (N : Nat) : Nat → Int32 × Int32
  | 0 => (-1, 17)
  | i + 1 => nrI f i (nrO f N i) (N - (i + 1))
def v_X4_nearestPair (I : zI) (p : Nat) : Int32 := (nrO (I (p + 1)) (I p 2).toNatClampNeg (I p 2).toNatClampNeg).1
def k_X4_nearestPair (I : zI) (p : Nat) : Prop := zle 8 (I p 2)
theorem p_X4_nearestPair {l : Launch} {g : zG} {I : zI} {L : zL} {p : Nat} (hp : zsh p = (14, 10)) (hk0 : k_X4_nearestPair I p) : Call l g 4 M_X4_nearestPair [vR p] I L (zp (some (vI (v_X4_nearestPair I p))) I L) := by
  obtain ⟨e0, h8⟩ := zle_c hk0 (by decide)
  generalize hN : (I p 2).toNatClampNeg = N at e0 h8
  refine m_X4_nearestPair hp (fun k hk X E => ?_)
  refine zdown (N := N) (P := fun c => AW k g 6 I L 7 [(0, vR p), (1, vI (nrO (I (p + 1)) N c).1), (2, vI (nrO (I (p + 1)) N c).2), (3, vI (nI c))] []) ?_ (fun c hc ih => ?_) (c := 0) (by omega)
  · refine s_X4_nearestPair_7 hp X E ?_
    rw [e0, if_neg (nI_nlt (Nat.le_refl _) (by omega))]
    exact ⟨by unfold v_X4_nearestPair; rw [hN], rfl, rfl⟩
  · refine s_X4_nearestPair_7 hp X E ?_
    rw [e0, if_pos (nI_lt hc (by omega)), ← nI_succ]
    refine zdown (N := N - (c + 1)) (P := fun j => AW k g 6 I L 20 [(0, vR p), (1, vI (nrI (I (p + 1)) c (nrO (I (p + 1)) N c) j).1), (2, vI (nrI (I (p + 1)) c (nrO (I (p + 1)) N c) j).2), (3, vI (nI c)), (4, vI (nI (c + 1 + j)))] []) ?_ (fun j hj ih2 => ?_) (c := 0) (by omega)
    · refine s_X4_nearestPair_20 hp X E ?_
      rw [e0, show c + 1 + (N - (c + 1)) = N by omega, if_neg (nI_nlt (Nat.le_refl _) (by omega)), ← nI_succ]
      exact ih
    · refine s_X4_nearestPair_20 hp X E ?_
      unfold v_X4_cellsUnlike
      rw [cellsOf_in e0 h8 hc, cellsOf_in e0 h8 (show c + 1 + j < N by omega)]
      rw [e0, if_pos (nI_lt (by omega) (by omega)), ← nI_succ]
      rintro u rfl
      exact ih2
/-- the letters among readings -/
def lam (f : Nat → Int32) : Nat → Int32
  | 0 => 0
  | n + 1 => if f n < 0 then lam f n else lam f n ||| jshl 1 (f n)
def v_X5_lettersAmongReadings (I : zI) : Int32 := lam (I 62) 25
theorem p_X5_lettersAmongReadings {l : Launch} {g : zG} {I : zI} {L : zL} : Call l g 1 M_X5_lettersAmongReadings [vR 59] I L (zp (some (vI (v_X5_lettersAmongReadings I))) I L) := by
  refine m_X5_lettersAmongReadings (fun k hk X E => ?_)
  refine zdown (N := 25) (P := fun c => AW k g 3 I L 4 [(0, vR 59), (1, vI (lam (I 62) c)), (2, vI (nI c))] []) ?_ (fun c hc ih => ?_) (c := 0) (by omega)
  · refine s_X5_lettersAmongReadings_4 X E ?_
    rw [if_neg (show ¬ nI 25 < 25 by decide)]
    exact ⟨rfl, rfl, rfl⟩
  · refine s_X5_lettersAmongReadings_4 X E ?_
    rw [if_pos (show nI c < 25 from (nI_lt hc (by decide) : nI c < nI 25)), zcl (by omega), ← nI_succ]
    refine ⟨zvin hc (by decide), ?_⟩
    rintro u rfl
    exact ih
