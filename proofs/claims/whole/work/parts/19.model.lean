/-! THE REFERENCE: freezing, melting, shapes -/
/-- a fresh row is small, so are those behind it -/
def okW (k a cold wet out room : Int32) : Prop := zle 6 k ∧ zle 9 a ∧ zle 40 cold ∧ zle 9 wet ∧ zle 9 out ∧ zle 9 room
theorem zle_max {a b : Int32} {m : Nat} (ha : zle m a) (hb : zle m b) (hm : m < 2147483648) : zle m (jmax (a - b) 0) := by
  obtain ⟨x, hx, rfl⟩ := ha
  obtain ⟨y, hy, rfl⟩ := hb
  exact ⟨x - y, by omega, n_max (by omega) (by omega)⟩
theorem zle_cc {k a cold : Int32} (ha : zle 9 a) (hc : zle 40 cold) : zle 40 (fCC k a cold) := by
  unfold fCC
  split
  · exact hc
  · obtain ⟨x, hx, rfl⟩ := ha
    exact zle_max hc ⟨x, by omega, rfl⟩ (by decide)
theorem zle_sh {k a cold wet : Int32} (ha : zle 9 a) (hc : zle 40 cold) (hw : zle 9 wet) : zle 27 (fSh k a cold wet) := by
  unfold fSh
  obtain ⟨c, h1, e1⟩ := zle_cc (k := k) ha hc
  obtain ⟨w, h2, rfl⟩ := hw
  obtain ⟨x, h3, rfl⟩ := ha
  rw [e1, pk_mul]
  have hm : c * w ≤ 40 * 9 := Nat.mul_le_mul h1 h2
  have e : nI (c * w) / 20 = nI (c * w / 20) := pk_div (d := 20) (by omega) (by decide) (by decide)
  rw [e]
  have hd : c * w / 20 ≤ 18 := by omega
  split
  · exact ⟨_, by omega, rfl⟩
  · split
    · exact ⟨_, by omega, rfl⟩
    · rw [nI_add]
      exact ⟨_, by omega, rfl⟩
theorem zle_min {x : Int32} (h : zle 27 x) : zle 20 (jmin x 20) := by
  obtain ⟨n, hn, rfl⟩ := h
  unfold jmin
  split
  · exact ⟨20, by decide, rfl⟩
  · rename_i h
    rw [show (20 : Int32) = nI 20 from rfl, n_lt (by decide) (by omega)] at h
    exact ⟨n, by omega, rfl⟩
theorem zle_ite {b : Nat} {c : Prop} [Decidable c] {x y : Int32} (hx : zle b x) (hy : zle b y) : zle b (if c then x else y) := by
  split
  · exact hx
  · exact hy
theorem zle_ice0 {k a scr form cold wet : Int32} (ha : zle 9 a) (hc : zle 40 cold) (hw : zle 9 wet) (c : Nat) : zle 20 (ice0 k a scr form cold wet c) := by
  unfold ice0 fFr
  have z0 : zle 20 (0 : Int32) := ⟨0, by decide, rfl⟩
  have zw := zle_min (zle_sh (k := k) ha hc hw)
  have zh : zle 20 (jmin (fSh k a cold wet) 20 / 2) := by
    obtain ⟨n, hn, e⟩ := zw
    rw [e, show nI n / 2 = nI (n / 2) from pk_div (d := 2) (by omega) (by decide) (by decide)]
    exact ⟨_, by omega, rfl⟩
  exact zle_ite (zle_ite (zle_ite z0 (zle_ite zh z0)) zw) z0
theorem zle_mel {m : Int32} {f : Nat → Int32} {c : Nat} (hc : c < 16) (hm : zle 30 m) (hf : ∀ j, j < 16 → zle 20 (f j)) : zle 20 (mel m f c) := by
  unfold mel
  obtain ⟨b, hb, rfl⟩ := hm
  obtain ⟨v, hv, e⟩ := hf c hc
  rw [e]
  split
  · split
    · exact ⟨v, hv, rfl⟩
    · split
      · rw [← nI_succ, n_max (by omega) (by omega)]
        exact ⟨_, by omega, rfl⟩
      · rw [n_max (by omega) (by omega)]
        exact ⟨_, by omega, rfl⟩
  · exact ⟨v, hv, rfl⟩
theorem zle_me {k room a h out : Int32} (hr : zle 9 room) (ho : zle 9 out) : zle 30 (fMe k room a h out) := by
  unfold fMe
  obtain ⟨r, h1, rfl⟩ := hr
  obtain ⟨o, h2, rfl⟩ := ho
  rw [show nI r / 3 = nI (r / 3) from pk_div (d := 3) (by omega) (by decide) (by decide), nI_add, nI_add]
  have e1 : nI (o + r / 3) + 3 = nI (o + r / 3 + 3) := nI_add _ 3
  have e2 : nI (o + r) + 3 = nI (o + r + 3) := nI_add _ 3
  split
  · split
    · split
      · exact ⟨_, by omega, rfl⟩
      · exact ⟨_, by omega, rfl⟩
    · split
      · rw [e1]; exact ⟨_, by omega, rfl⟩
      · rw [e2]; exact ⟨_, by omega, rfl⟩
  · split
    · exact ⟨_, by omega, rfl⟩
    · exact ⟨_, by omega, rfl⟩
theorem zle_hrs {k room a out : Int32} {s : Nat} {f : Nat → Int32} (hr : zle 9 room) (ho : zle 9 out) (hf : ∀ j, j < 16 → zle 20 (f j)) : ∀ n c, c < 16 → zle 20 (hrs k room a out s f n c)
  | 0, c, hc => hf c hc
  | n + 1, c, hc => zle_mel hc (zle_me hr ho) (fun j hj => zle_hrs hr ho hf n j hj)
section ZMO
variable {l : Launch} {g : zG} {Q : Option zv → zI → zL → Prop} {I : zI} {L : zL} {a1 a2 a3 : Int32}
/-- the form of a letter, or of nothing, as the reference reads it -/
def mform (I : zI) (l : Int32) : Int32 := if l = -1 then 0 else I 91 l.toNatClampNeg
theorem m_freeze {i : Nat} (hi : i < 8) (hk : zle 6 (I 92 i)) (hl : a2 = -1 ∨ ∃ j, j < 8 ∧ a2 = nI j) (h : ∀ I' : zI, (∀ a, a ≠ 101 → I' a = I a) → (∀ c, c < 16 → I' 101 c = ice0 (I 92 i) (I 94 i) (I 96 i) (mform I a2) (I 87 12) (I 87 13) c) → Q none I' L) : Call l g 2 M_X7_freeze [vR 87, vI (nI i), vI a2] I L Q := by
  have ei : (nI i).toNatClampNeg = i := zcl (by omega)
  have hk' : zle 6 (I 92 (nI i).toNatClampNeg) := by rw [ei]; exact hk
  refine m_X7_freeze (fun k hk X E => ⟨⟨fun hne => ?_, zvin hi (by decide)⟩, zvin hi (by decide), ?_⟩)
  · rcases hl with e | ⟨j, hj, rfl⟩
    · exact absurd e hne
    · exact zvin hj (by decide)
  have e1 := m_sh hk'
  have e2 := m_pat I (nI i) a2
  rw [ei] at e1 e2
  refine zdown (N := 16) (P := fun c => ∀ I1 : zI, (∀ a, a ≠ 101 → I1 a = I a) → (∀ j, j < c → I1 101 j = ice0 (I 92 i) (I 94 i) (I 96 i) (mform I a2) (I 87 12) (I 87 13) j) → AW k g 8 I1 L 22 [(0, vR 87), (1, vI (nI i)), (3, vI (v_X7_pattern I (nI i) a2)), (4, vI (jmin 20 (v_X7_sharp I (nI i)))), (5, vI (nI c))] []) (fun I1 h1 h2 => ?_) (fun c hc ih I1 h1 h2 => ?_) (c := 0) (by omega) I (fun _ _ => rfl) (fun _ h => absurd h (Nat.not_lt_zero _))
  · refine s_X7_freeze_22 X E ?_
    rw [if_neg (show ¬ nI 16 < 16 by decide)]
    exact h I1 h1 h2
  · refine s_X7_freeze_22 X E ?_
    rw [if_pos (n16 hc)]
    intro u6 e6 u11 e11
    refine ⟨fun _ _ => zvin hi (by decide), ?_⟩
    intro u20 e20
    refine ⟨zvin hi (by decide), ?_⟩
    intro u26 e26
    refine ⟨zvin hc (by decide), ?_⟩
    rw [zcl (by omega), ← nI_succ]
    rw [h1 96 (by decide), ei] at e26
    rw [h1 87 (by decide), h1 92 (by decide), ei] at e20
    have e : u26 = mFr (I 92 i) (I 96 i) (v_X7_pattern I (nI i) a2) (jmin 20 (v_X7_sharp I (nI i))) (I 87 13) (nI c) := by
      rw [e26, e20, e11, e6]
      rfl
    have ev : u26 = ice0 (I 92 i) (I 94 i) (I 96 i) (mform I a2) (I 87 12) (I 87 13) c := by
      rw [e, m_fr hc, e1, e2, jmin_c]
      rfl
    rw [ev]
    refine ih _ (fun a ha => by rw [zs_nec ha]; exact h1 a ha) (fun j hj => ?_)
    by_cases e : j = c
    · rw [e, zs_same]
    · rw [zs_ne (fun z => e z.2)]
      exact h2 j (by omega)
theorem m_melting {i hh : Nat} (hi : i < 8) (hk : zle 6 (I 92 i)) (hr : zle 9 (I 93 i)) (ho : zle 9 (I 87 14)) (hf : ∀ c, c < 16 → zle 20 (I 101 c)) (h : ∀ I' : zI, (∀ a, a ≠ 101 → a ≠ 102 → I' a = I a) → (∀ c, c < 16 → I' 101 c = mel (fMe (I 92 i) (I 93 i) (I 94 i) (nI hh) (I 87 14)) (I 101) c) → Q none I' L) : Call l g 2 M_X7_melting [vR 87, vI (nI i), vI (nI hh)] I L Q := by
  have ei : (nI i).toNatClampNeg = i := zcl (by omega)
  have e1 := m_me (I := I) (i := nI i) (hh := nI hh) (by rw [ei]; exact hk)
  rw [ei] at e1
  generalize hm : fMe (I 92 i) (I 93 i) (I 94 i) (nI hh) (I 87 14) = m at e1 h
  have hmz : zle 30 m := by rw [← hm]; exact zle_me hr ho
  refine m_X7_melting (fun k hk X E => ⟨zvin hi (by decide), ?_⟩)
  rw [e1]
  refine zdown (N := 16) (P := fun c => ∀ I1 : zI, (∀ a, a ≠ 102 → I1 a = I a) → (∀ j, j < c → I1 102 j = I 101 j) → AW k g 6 I1 L 10 [(0, vR 87), (3, vI m), (4, vI (nI c))] []) (fun I1 h1 h2 => ?_) (fun c hc ih I1 h1 h2 => ?_) (c := 0) (by omega) I (fun _ _ => rfl) (fun _ h => absurd h (Nat.not_lt_zero _))
  · refine s_X7_melting_10 X E ?_
    rw [if_neg (show ¬ nI 16 < 16 by decide)]
    refine zdown (N := 16) (P := fun c => ∀ I2 : zI, (∀ a, a ≠ 101 → I2 a = I1 a) → (∀ j, j < c → I2 101 j = mel m (I 101) j) → AW k g 6 I2 L 40 [(0, vR 87), (3, vI m), (4, vI (nI c))] []) (fun I2 g1 g2 => ?_) (fun c hc ih I2 g1 g2 => ?_) (c := 0) (by omega) I1 (fun _ _ => rfl) (fun _ h => absurd h (Nat.not_lt_zero _))
    · refine s_X7_melting_40 X E ?_
      rw [if_neg (show ¬ nI 16 < 16 by decide)]
      exact h I2 (fun a ha hb => (g1 a ha).trans (h1 a hb)) g2
    · refine s_X7_melting_40 X E ?_
      rw [if_pos (n16 hc)]
      have w : I2 102 = I1 102 := g1 102 (by decide)
      have hcc : ¬ jrem (nI c) 4 = 0 → ¬ jrem (nI c) 4 = 3 → nI c - 1 = nI (c - 1) ∧ nI c + 1 = nI (c + 1) ∧ 1 ≤ c ∧ c + 1 < 16 := by
        intro z1 z2
        obtain ⟨t1, t2⟩ := inn_tab c hc
        have hb : bt 26214 c = true := by rw [t1]; simp [z1, z2]
        obtain ⟨h1', h2'⟩ := t2 hb
        exact ⟨pk_sub (b := 1) h1', (nI_succ c).symm, h1', h2'⟩
      refine ⟨fun z1 z2 => ?_, ?_⟩
      · obtain ⟨q1, q2, q3, q4⟩ := hcc z1 z2
        exact ⟨by rw [q1]; exact zvin (by omega) (by decide), fun _ => by rw [q2]; exact zvin q4 (by decide)⟩
      intro u12 e12
      refine ⟨zvin hc (by decide), ?_⟩
      rw [zcl (by omega), ← nI_succ, w, h2 c hc]
      have eo : u12 = mOp (I 101) c := by
        rw [e12]
        unfold mOp
        by_cases z1 : jrem (nI c) 4 = 0
        · rw [if_pos z1, if_pos z1]
        · by_cases z2 : jrem (nI c) 4 = 3
          · rw [if_neg z1, if_neg z1, if_pos z2, if_pos z2]
          · obtain ⟨q1, q2, q3, q4⟩ := hcc z1 z2
            rw [if_neg z1, if_neg z1, if_neg z2, if_neg z2, q1, q2, zcl (by omega), zcl (by omega), w, h2 (c - 1) (by omega), h2 (c + 1) q4]
      have ev : jmax 0 (((I 101 c) - m) - (if 0 < m then if u12 = 0 then 0 else (1 : Int32) else (0 : Int32))) = mel m (I 101) c := by
        rw [eo]
        exact m_mel hc hf hmz
      rw [ev]
      refine ih _ (fun a ha => by rw [zs_nec ha]; exact g1 a ha) (fun j hj => ?_)
      by_cases e : j = c
      · rw [e, zs_same]
      · rw [zs_ne (fun z => e z.2)]
        exact g2 j (by omega)
  · refine s_X7_melting_10 X E ?_
    rw [if_pos (n16 hc), zcl (by omega), ← nI_succ, h1 101 (by decide)]
    refine ⟨zvin hc (by decide), ih _ (fun a ha => by rw [zs_nec ha]; exact h1 a ha) (fun j hj => ?_)⟩
    by_cases e : j = c
    · rw [e, zs_same]
    · rw [zs_ne (fun z => e z.2)]
      exact h2 j (by omega)
/-- what the reference needs of a pane -/
def okP (I : zI) (i : Nat) : Prop := i < 8 ∧ zle 6 (I 92 i) ∧ zle 9 (I 93 i) ∧ zle 9 (I 94 i)
def okWx (I : zI) : Prop := zle 40 (I 87 12) ∧ zle 9 (I 87 13) ∧ zle 9 (I 87 14)
def okL (a : Int32) : Prop := a = -1 ∨ ∃ j, j < 8 ∧ a = nI j
/-- n hours of melting in the reference's own row -/
theorem m_shapeAt {i n : Nat} (hn : n ≤ 24) (hP : okP I i) (hW : okWx I) (hl : okL a2) (h : ∀ I' : zI, (∀ a, a ≠ 101 → a ≠ 102 → I' a = I a) → (∀ c, c < 16 → I' 101 c = iceH (I 92 i) (I 93 i) (I 94 i) (I 96 i) (mform I a2) (I 87 12) (I 87 13) (I 87 14) n c) → Q (some (vI (shpH (I 92 i) (I 93 i) (I 94 i) (I 96 i) (mform I a2) (I 87 12) (I 87 13) (I 87 14) n))) I' L) : Call l g 3 M_X7_shapeAt [vR 87, vI (nI i), vI a2, vI (nI n)] I L Q := by
  obtain ⟨hi, hk, hr, ha⟩ := hP
  obtain ⟨hc, hw, ho⟩ := hW
  refine m_X7_shapeAt (fun k hk9 X E => ?_)
  refine m_freeze hi hk hl (fun I1 g1 g2 => ⟨rfl, ?_⟩)
  refine zdown (N := n) (P := fun j => ∀ I2 : zI, (∀ a, a ≠ 101 → a ≠ 102 → I2 a = I a) → (∀ c, c < 16 → I2 101 c = iceH (I 92 i) (I 93 i) (I 94 i) (I 96 i) (mform I a2) (I 87 12) (I 87 13) (I 87 14) j c) → AW k g 5 I2 L 9 [(0, vR 87), (1, vI (nI i)), (3, vI (nI n)), (4, vI (nI j))] []) (fun I2 f1 f2 => ?_) (fun j hj ih I2 f1 f2 => ?_) (c := 0) (by omega) I1 (fun a ha _ => g1 a ha) g2
  · refine s_X7_shapeAt_9 X E ?_
    rw [if_neg (nI_nlt (Nat.le_refl _) (by omega))]
    rw [show v_X7_shapeNow I2 = shpH (I 92 i) (I 93 i) (I 94 i) (I 96 i) (mform I a2) (I 87 12) (I 87 13) (I 87 14) n from frost_cong f2]
    exact h I2 f1 f2
  · refine s_X7_shapeAt_9 X E ?_
    rw [if_pos (nI_lt hj (by omega))]
    have q1 : I2 92 = I 92 := f1 92 (by decide) (by decide)
    have q2 : I2 93 = I 93 := f1 93 (by decide) (by decide)
    have q3 : I2 94 = I 94 := f1 94 (by decide) (by decide)
    have q4 : I2 87 = I 87 := f1 87 (by decide) (by decide)
    have hz : ∀ c, c < 16 → zle 20 (I2 101 c) := fun c hc9 => by
      rw [f2 c hc9]
      exact zle_hrs hr ho (fun c _ => zle_ice0 ha hc hw c) j c hc9
    refine m_melting hi (by rw [q1]; exact hk) (by rw [q2]; exact hr) (by rw [q4]; exact ho) hz (fun I3 b1 b2 => ⟨rfl, ?_⟩)
    rw [← nI_succ]
    refine ih I3 (fun a ha hb => (b1 a ha hb).trans (f1 a ha hb)) (fun c hc9 => ?_)
    rw [b2 c hc9, q1, q2, q3, q4]
    show _ = mel (fMe (I 92 i) (I 93 i) (I 94 i) (nI (0 + j)) (I 87 14)) (iceH (I 92 i) (I 93 i) (I 94 i) (I 96 i) (mform I a2) (I 87 12) (I 87 13) (I 87 14) j) c
    rw [Nat.zero_add]
    exact mel_cong f2 hc9
/-- what a pane with a letter behind it is read as at an hour -/
def rdH (f : Nat → Int32) (N : Nat) (k room a scr form cold wet out : Int32) (n : Nat) : Int32 := (rdg f (shpH k room a scr form cold wet out n) N).1
theorem m_readAt {i n : Nat} (hn : n ≤ 24) (hP : okP I i) (hW : okWx I) (hl : okL a2) (hN : zle 8 (I 87 3)) (h : ∀ I' : zI, (∀ a, a ≠ 101 → a ≠ 102 → I' a = I a) → Q (some (vI (rdH (I 91) (I 87 3).toNatClampNeg (I 92 i) (I 93 i) (I 94 i) (I 96 i) (mform I a2) (I 87 12) (I 87 13) (I 87 14) n))) I' L) : Call l g 4 M_X7_readAt [vR 87, vI (nI i), vI a2, vI (nI n)] I L Q := by
  refine m_X7_readAt ?_
  refine m_shapeAt hn hP hW hl (fun I1 g1 g2 => ⟨_, rfl, ?_⟩)
  have q1 : I1 87 = I 87 := g1 87 (by decide) (by decide)
  have q2 : I1 91 = I 91 := g1 91 (by decide) (by decide)
  refine ⟨by unfold k_X7_read; rw [q1]; exact hN, ?_⟩
  unfold v_X7_read
  rw [q1, q2]
  exact h I1 g1
end ZMO
