/-! A STREET THAT IS AS IT SHOULD BE; what changes it -/
def VP (I : zI) (p n : Nat) : Prop := zle 6 (I p 0) ∧ zle 9 (I p 1) ∧ zle 9 (I p 2) ∧ okN n (I p 3) ∧ ∀ c, c < 16 → zle 20 (I (p + 1) c)
def VS (I : zI) (n m : Nat) : Prop := n ≤ 8 ∧ m ≤ 8 ∧ I 2 2 = nI n ∧ I 2 3 = nI m ∧ zle 40 (I 2 4) ∧ zle 9 (I 2 5) ∧ zle 9 (I 2 6) ∧ zle 24 (I 2 7) ∧ (∀ j, j < n → zle 65535 (I 3 j)) ∧ ∀ i, i < m → VP I (5 + 2 * i) n
/-- what it shows now -/
def snp (I : zI) : zI := fun a k => if a = 91 then I 3 k else if a = 92 then I (5 + 2 * k) 0 else if a = 93 then I (5 + 2 * k) 1 else if a = 94 then I (5 + 2 * k) 2 else if a = 95 then I (5 + 2 * k) 3 else if a = 96 then I (5 + 2 * k) 4 else if a = 97 then I (6 + 2 * (k / 16)) (k % 16) else if k = 3 then I 2 2 else if k = 5 then I 2 3 else if k = 12 then I 2 4 else if k = 13 then I 2 5 else if k = 14 then I 2 6 else if k = 15 then I 2 7 else if k = 16 then I 2 8 else I 2 9
theorem RC_snp {I : zI} {n m : Nat} (h : VS I n m) : RC I (snp I) n m := by
  obtain ⟨hn, hm, e2, e3, z4, z5, z6, z7, hf, hp⟩ := h
  refine ⟨hn, hm, ⟨e2, e2⟩, ⟨e3, e3⟩, ⟨rfl, z4⟩, ⟨rfl, z5⟩, ⟨rfl, z6⟩, ⟨rfl, z7⟩, rfl, rfl, fun j hj => ⟨rfl, hf j hj⟩, fun i hi => ?_⟩
  obtain ⟨p0, p1, p2, p3, p4⟩ := hp i hi
  rw [show 2 + 3 + 2 * i = 5 + 2 * i by omega]
  refine ⟨⟨rfl, p0⟩, ⟨rfl, p1⟩, ⟨rfl, p2⟩, ⟨rfl, p3⟩, rfl, fun c hc => ?_⟩
  have e : snp I 97 (16 * i + c) = I (5 + 2 * i + 1) c := by
    show I (6 + 2 * ((16 * i + c) / 16)) ((16 * i + c) % 16) = _
    rw [show (16 * i + c) / 16 = i by omega, show (16 * i + c) % 16 = c by omega, show 6 + 2 * i = 5 + 2 * i + 1 by omega]
  exact ⟨e.symm, by dsimp only; rw [e]; exact p4 c hc⟩
theorem VS_of {I V : zI} {n m : Nat} (h : RC I V n m) : VS I n m := by
  obtain ⟨hn, hm, ⟨e2, -⟩, ⟨e3, -⟩, ⟨e4, z4⟩, ⟨e5, z5⟩, ⟨e6, z6⟩, ⟨e7, z7⟩, -, -, hf, hp⟩ := h
  refine ⟨hn, hm, e2, e3, by rw [e4]; exact z4, by rw [e5]; exact z5, by rw [e6]; exact z6, by rw [e7]; exact z7, fun j hj => ?_, fun i hi => ?_⟩
  · obtain ⟨a, b⟩ := hf j hj
    rw [show I 3 j = V 91 j from a]
    exact b
  · obtain ⟨⟨p0, z0⟩, ⟨p1, z1⟩, ⟨p2, z2⟩, ⟨p3, z3⟩, p4, p5⟩ := hp i hi
    rw [show 2 + 3 + 2 * i = 5 + 2 * i by omega] at p0 p1 p2 p3 p5
    exact ⟨by rw [p0]; exact z0, by rw [p1]; exact z1, by rw [p2]; exact z2, by rw [p3]; exact z3, fun c hc => by rw [(p5 c hc).1]; exact (p5 c hc).2⟩
theorem VP_cong {I I' : zI} {p n : Nat} (h1 : I' p = I p) (h2 : I' (p + 1) = I (p + 1)) (h : VP I p n) : VP I' p n := by
  unfold VP at *
  rw [h1, h2]
  exact h
theorem VS_cong {I I' : zI} {n m : Nat} (hI : ∀ a, 2 ≤ a → a ≤ 20 → I' a = I a) (h : VS I n m) : VS I' n m := by
  unfold VS at *
  rw [hI 2 (by omega) (by omega), hI 3 (by omega) (by omega)]
  obtain ⟨a1, a2, a3, a4, a5, a6, a7, a8, a9, a10⟩ := h
  exact ⟨a1, a2, a3, a4, a5, a6, a7, a8, a9, fun i hi => VP_cong (hI _ (by omega) (by omega)) (hI _ (by omega) (by omega)) (a10 i hi)⟩
/-- all but the street's own cells, the glass and the count of refusals is as it was -/
def FS (I I' : zI) : Prop := ∀ a, (a < 2 ∨ 20 < a) → a ≠ 86 → ¬ gl a → I' a = I a
theorem FS.rf {I : zI} : FS I I := fun _ _ _ _ => rfl
theorem FS.t {I J K : zI} (h1 : FS I J) (h2 : FS J K) : FS I K := fun a b c d => (h2 a b c d).trans (h1 a b c d)
theorem FS.gl {I J : zI} (h : Gf I J) : FS I J := fun a _ _ d => h a d
theorem FS_rf1 {I : zI} {k : Nat} : FS I (rf1 I k) := fun _ _ c _ => rf1_ne c
/-- a change: what stays, the seed, the new street -/
def Up (I I' : zI) (n m : Nat) : Prop := FS I I' ∧ I' 2 9 = I 2 9 ∧ VS I' n m
theorem Up_rf {I : zI} {n m k : Nat} (h : VS I n m) : Up I (rf1 I k) n m := ⟨FS_rf1, by rw [rf1_ne (by decide)], VS_cong (fun a _ _ => rf1_ne (by omega)) h⟩
theorem VS_one {I I' : zI} {n m i : Nat} (h : VS I n m) (hi : i < m) (hI : ∀ a, 2 ≤ a → a ≤ 20 → a ≠ 5 + 2 * i → a ≠ 6 + 2 * i → I' a = I a) (hp : VP I' (5 + 2 * i) n) : VS I' n m := by
  obtain ⟨a1, a2, a3, a4, a5, a6, a7, a8, a9, a10⟩ := h
  unfold VS
  rw [hI 2 (by omega) (by omega) (by omega) (by omega), hI 3 (by omega) (by omega) (by omega) (by omega)]
  refine ⟨a1, a2, a3, a4, a5, a6, a7, a8, a9, fun j hj => ?_⟩
  by_cases e : j = i
  · subst e; exact hp
  · exact VP_cong (hI _ (by omega) (by omega) (by omega) (by omega)) (hI _ (by omega) (by omega) (by omega) (by omega)) (a10 j hj)
theorem paneAt_out {I : zI} {m : Nat} (e : I 2 3 = nI m) : v_X4_paneAt I 2 (nI m) = 0 := by
  unfold v_X4_paneAt
  rw [e]
  by_cases h : nI m < 0
  · rw [if_pos h]
  · rw [if_neg h, if_neg Int32.lt_irrefl]
theorem paneAt_m1 {I : zI} : v_X4_paneAt I 2 (-1) = 0 := by
  unfold v_X4_paneAt
  rw [if_pos (by decide)]
section ZMU
variable {l : Launch} {g : zG} {Q : Option zv → zI → zL → Prop} {I : zI} {L : zL} {n m i j s N : Nat} {a1 a2 a3 x : Int32}
theorem u_form (h : VS I n m) (hx : zle 65535 x) (h8 : n < 8) (hQ : ∀ I' : zI, Up I I' (n + 1) m → Q (some (vI (nI n))) I' L) : Call l g 3 M_X6_form [vR 1, vI x] I L Q := by
  obtain ⟨hn, hm, e2, e3, z4, z5, z6, z7, hf, hp⟩ := id h
  obtain ⟨k, hk, rfl⟩ := id hx
  refine m_X6_form ?_
  have hr : ¬ v_X4_hasLetterRoom I 2 = 0 := by
    unfold v_X4_hasLetterRoom
    rw [e2, if_neg (nI_pos (by omega)), if_pos (n8 h8)]
    decide
  rw [if_neg (by rw [shape_in hk]; decide), if_neg hr]
  refine m_X4_addLetter rfl ?_
  rw [if_neg hr, e2, zcl (by omega)]
  rintro I2 rfl I3 rfl
  have v2 : zs I (2 + 1) n (nI k) 2 2 = nI n := by rw [zs_nec (by decide)]; exact e2
  rw [v2, zs_same, ← nI_succ, nI_m1]
  refine ⟨_, rfl, hQ _ ⟨fun a ha _ _ => by rw [zs_nec (by omega), zs_nec (by omega)], by rw [zs_ne (by omega), zs_nec (by decide)], ?_⟩⟩
  have q2 : ∀ j, j ≠ 2 → zs (zs I (2 + 1) n (nI k)) 2 2 (nI (n + 1)) 2 j = I 2 j := fun j hj => by rw [zs_ne (fun z => hj z.2), zs_nec (by decide)]
  unfold VS
  rw [q2 3 (by decide), q2 4 (by decide), q2 5 (by decide), q2 6 (by decide), q2 7 (by decide)]
  refine ⟨by omega, hm, by rw [zs_same], e3, z4, z5, z6, z7, fun j hj => ?_, fun i hi => ?_⟩
  · rw [zs_nec (show 3 ≠ 2 by decide), show (3 : Nat) = 2 + 1 from rfl, zs_at]
    by_cases e : j = n
    · rw [if_pos e]; exact hx
    · rw [if_neg e]; exact hf j (by omega)
  · obtain ⟨p0, p1, p2, p3, p4⟩ := hp i hi
    unfold VP
    rw [zs_nec (show 5 + 2 * i ≠ 2 by omega), zs_nec (show 5 + 2 * i ≠ 2 + 1 by omega), zs_nec (show 5 + 2 * i + 1 ≠ 2 by omega), zs_nec (show 5 + 2 * i + 1 ≠ 2 + 1 by omega)]
    exact ⟨p0, p1, p2, p3.imp id (fun ⟨q, hq, e⟩ => ⟨q, by omega, e⟩), p4⟩
theorem x_form_full (h : VS I 8 m) (hx : zle 65535 x) (hQ : Q (some (vI (-7))) (rf1 I 7) L) : Call l g 3 M_X6_form [vR 1, vI x] I L Q := by
  obtain ⟨hn, hm, e2, -⟩ := h
  obtain ⟨k, hk, rfl⟩ := id hx
  refine m_X6_form ?_
  rw [if_neg (by rw [shape_in hk]; decide), if_pos (show v_X4_hasLetterRoom I 2 = 0 from by unfold v_X4_hasLetterRoom; rw [e2]; decide)]
  exact c_refuse (k := 7) (by decide) rfl ⟨_, rfl, hQ⟩
theorem x_form_bad (hQ : Q (some (vI (-6))) (rf1 I 6) L) : Call l g 3 M_X6_form [vR 1, vI (-1)] I L Q := by
  refine m_X6_form ?_
  rw [if_pos (by decide)]
  exact c_refuse (k := 6) (by decide) rfl ⟨_, rfl, hQ⟩
theorem c_makeNew {p : Nat} (hp : zsh p = (11, 6)) (h : ∀ I' : zI, (∀ a, a ≠ p → a ≠ p + 1 → I' a = I a) → (I' p 0 = a1 ∧ I' p 1 = a2 ∧ I' p 2 = a3 ∧ I' p 3 = -1 ∧ I' p 4 = 0) → (∀ c, c < 16 → I' (p + 1) c = 0) → Q none I' L) : Call l g 1 M_X1_makeNew [vR p, vI a1, vI a2, vI a3] I L Q := by
  refine m_X1_makeNew hp (fun k hk X E => ?_)
  rintro I1 rfl I2 rfl I3 rfl I4 rfl
  refine zdown (N := 16) (P := fun c => ∀ I5 : zI, (∀ a, a ≠ p → a ≠ p + 1 → I5 a = I a) → (I5 p 0 = a1 ∧ I5 p 1 = a2 ∧ I5 p 2 = a3 ∧ I5 p 3 = -1 ∧ I5 p 4 = 0) → (∀ j, j < c → I5 (p + 1) j = 0) → AW k g 5 I5 L 28 [(0, vR p), (4, vI (nI c))] []) (fun I5 h1 h2 h3 => ?_) (fun c hc ih I5 h1 h2 h3 => ?_) (c := 0) (by omega) _ (fun a ha _ => by rw [zs_nec ha, zs_nec ha, zs_nec ha, zs_nec ha, zs_nec ha]) ?_ (fun _ hh => absurd hh (Nat.not_lt_zero _))
  · refine s_X1_makeNew_28 hp X E ?_
    rw [if_neg (show ¬ nI 16 < 16 by decide)]
    exact h I5 h1 h2 h3
  · refine s_X1_makeNew_28 hp X E ?_
    rw [if_pos (n16 hc), zcl (by omega), ← nI_succ]
    refine ⟨zvin hc (by decide), ih _ (fun a ha hb => by rw [zs_nec hb]; exact h1 a ha hb) (by rw [zs_nec (show p ≠ p + 1 by omega)]; exact h2) (fun j hj => ?_)⟩
    by_cases e : j = c
    · rw [e, zs_same]
    · rw [zs_ne (fun z => e z.2)]
      exact h3 j (by omega)
  · refine ⟨?_, ?_, ?_, ?_, ?_⟩
    · rw [zs_ne (by omega), zs_ne (by omega), zs_ne (by omega), zs_ne (by omega), zs_same]
    · rw [zs_ne (by omega), zs_ne (by omega), zs_ne (by omega), zs_same]
    · rw [zs_ne (by omega), zs_ne (by omega), zs_same]
    · rw [zs_ne (by omega), zs_same]
    · rw [zs_same]
theorem c_addPane {p : Nat} (hp : zsh p = (14, 10)) (he : I p 3 = nI m) (hm : m < 8) (h : ∀ I' : zI, (∀ a, a ≠ p → a ≠ p + 3 + 2 * m → a ≠ p + 3 + 2 * m + 1 → I' a = I a) → (∀ j, j ≠ 3 → I' p j = I p j) → I' p 3 = nI (m + 1) → (I' (p + 3 + 2 * m) 0 = a1 ∧ I' (p + 3 + 2 * m) 1 = a2 ∧ I' (p + 3 + 2 * m) 2 = a3 ∧ I' (p + 3 + 2 * m) 3 = -1 ∧ I' (p + 3 + 2 * m) 4 = 0) → (∀ c, c < 16 → I' (p + 3 + 2 * m + 1) c = 0) → Q (some (vI (nI m))) I' L) : Call l g 2 M_X4_addPane [vR p, vI a1, vI a2, vI a3] I L Q := by
  refine m_X4_addPane hp ?_
  rintro I1 rfl
  have e3 : zs I p 3 (I p 3 + 1) p 3 = nI (m + 1) := by rw [zs_same, he, nI_succ]
  have ep : v_X4_paneAt (zs I p 3 (I p 3 + 1)) p (nI (m + 1) - 1) = p + 3 + 2 * m := by
    unfold v_X4_paneAt
    rw [nI_m1, if_neg (nI_pos (by omega)), e3, if_pos (nI_lt (by omega) (by omega)), if_pos (n8 hm), zcl (by omega)]
  rw [e3, ep, if_neg (by omega)]
  refine c_makeNew (((zL4 hp).2.2 m hm).2) (fun I2 g1 g2 g3 => ⟨rfl, ?_⟩)
  have g3p : I2 p = zs I p 3 (I p 3 + 1) p := g1 p (by omega) (by omega)
  dsimp only
  rw [g3p, e3, nI_m1]
  exact h I2 (fun a h1 h2 h3 => by rw [g1 a h2 h3, zs_nec h1]) (fun j hj => by rw [g3p, zs_ne (fun z => hj z.2)]) (by rw [g3p]; exact e3) g2 g3
theorem kind_in {a : Int32} (h : zle 6 a) : v_X1_isKind a = 1 := by
  obtain ⟨k, hk, rfl⟩ := h
  unfold v_X1_isKind
  rw [if_neg (nI_pos (by omega)), if_pos (show nI k < 7 from (nI_lt (show k < 7 by omega) (by decide) : nI k < nI 7))]
theorem u_pane (h : VS I n m) (h1 : zle 6 a1) (h2 : zle 9 a2) (h3 : zle 9 a3) (h8 : m < 8) (hQ : ∀ I' : zI, Up I I' n (m + 1) → Q (some (vI (nI m))) I' L) : Call l g 3 M_X6_pane [vR 1, vI a1, vI a2, vI a3] I L Q := by
  obtain ⟨hn, hm, e2, e3, z4, z5, z6, z7, hf, hp⟩ := id h
  refine m_X6_pane ?_
  rw [if_neg (by rw [kind_in h1]; decide), if_neg (zle_ge h2 (by decide)), if_neg (show ¬ 9 < a2 from zle_gt h2 (Nat.le_refl _) (by decide)), if_neg (zle_ge h3 (by decide)), if_neg (show ¬ 9 < a3 from zle_gt h3 (Nat.le_refl _) (by decide)), if_neg (show ¬ v_X4_hasPaneRoom I 2 = 0 from by unfold v_X4_hasPaneRoom; rw [e3, if_neg (nI_pos (by omega)), if_pos (n8 h8)]; decide)]
  refine c_addPane (p := 2) rfl e3 h8 (fun I1 g1 g2 g3 g4 g5 => ⟨_, rfl, hQ I1 ⟨fun a ha _ _ => g1 a (by omega) (by omega) (by omega), g2 9 (by decide), ?_⟩⟩)
  have f3 : I1 3 = I 3 := g1 3 (by omega) (by omega) (by omega)
  unfold VS
  rw [f3, g2 2 (by decide), g2 4 (by decide), g2 5 (by decide), g2 6 (by decide), g2 7 (by decide)]
  refine ⟨hn, by omega, e2, g3, z4, z5, z6, z7, hf, fun i hi => ?_⟩
  by_cases e : i = m
  · subst e
    obtain ⟨c0, c1, c2, c3, c4⟩ := g4
    rw [show 2 + 3 + 2 * i = 5 + 2 * i by omega] at c0 c1 c2 c3 g5
    exact ⟨by rw [c0]; exact h1, by rw [c1]; exact h2, by rw [c2]; exact h3, Or.inl c3, fun c hc => by rw [g5 c hc]; exact ⟨0, by decide, rfl⟩⟩
  · exact VP_cong (g1 _ (by omega) (by omega) (by omega)) (g1 _ (by omega) (by omega) (by omega)) (hp i (by omega))
theorem x_pane_full (h : VS I n 8) (h1 : zle 6 a1) (h2 : zle 9 a2) (h3 : zle 9 a3) (hQ : Q (some (vI (-7))) (rf1 I 7) L) : Call l g 3 M_X6_pane [vR 1, vI a1, vI a2, vI a3] I L Q := by
  obtain ⟨hn, hm, e2, e3, -⟩ := h
  refine m_X6_pane ?_
  rw [if_neg (by rw [kind_in h1]; decide), if_neg (zle_ge h2 (by decide)), if_neg (show ¬ 9 < a2 from zle_gt h2 (Nat.le_refl _) (by decide)), if_neg (zle_ge h3 (by decide)), if_neg (show ¬ 9 < a3 from zle_gt h3 (Nat.le_refl _) (by decide)), if_pos (show v_X4_hasPaneRoom I 2 = 0 from by unfold v_X4_hasPaneRoom; rw [e3]; decide)]
  exact c_refuse (k := 7) (by decide) rfl ⟨_, rfl, hQ⟩
theorem x_pane_kind (hQ : Q (some (vI (-1))) (rf1 I 1) L) : Call l g 3 M_X6_pane [vR 1, vI 7, vI 0, vI 0] I L Q := by
  refine m_X6_pane ?_
  rw [if_pos (by decide)]
  exact c_refuse (k := 1) (by decide) rfl ⟨_, rfl, hQ⟩
theorem x_pane_room (hQ : Q (some (vI (-6))) (rf1 I 6) L) : Call l g 3 M_X6_pane [vR 1, vI 0, vI 10, vI 0] I L Q := by
  refine m_X6_pane ?_
  rw [if_neg (by decide), if_neg (by decide), if_pos (by decide)]
  exact c_refuse (k := 6) (by decide) rfl ⟨_, rfl, hQ⟩
theorem u_hang (h : VS I n m) (hi : i < m) (hx : okN n x) (hQ : ∀ I' : zI, Up I I' n m → Q (some (vI (if x = -1 then 0 else (1 : Int32)))) I' L) : Call l g 3 M_X6_hang [vR 1, vI (nI i), vI x] I L Q := by
  obtain ⟨hn, hm, e2, e3, z4, z5, z6, z7, hf, hp⟩ := id h
  refine m_X6_hang ?_
  rw [paneAt_in hm e3 hi, if_neg (by omega), if_neg (by rw [letN_in hn e2 hx]; decide)]
  rintro I4 rfl
  refine hQ _ ⟨fun a ha _ _ => zs_nec (by omega), by rw [zs_nec (by omega)], VS_one h hi (fun a _ _ h5 _ => zs_nec h5) ?_⟩
  obtain ⟨p0, p1, p2, p3, p4⟩ := hp i hi
  unfold VP
  rw [zs_ne (fun z => by omega), zs_ne (fun z => by omega), zs_ne (fun z => by omega), zs_same, zs_nec (show 5 + 2 * i + 1 ≠ 5 + 2 * i by omega)]
  exact ⟨p0, p1, p2, hx, p4⟩
theorem x_hang (h : VS I n m) (hQ : Q (some (vI (-1))) (rf1 I 1) L) : Call l g 3 M_X6_hang [vR 1, vI (nI m), vI x] I L Q := by
  obtain ⟨hn, hm, e2, e3, -⟩ := h
  refine m_X6_hang ?_
  rw [if_pos (paneAt_out e3)]
  exact c_refuse (k := 1) (by decide) rfl ⟨_, rfl, hQ⟩
theorem u_scratch (h : VS I n m) (hQ : ∀ (r : Int32) (I' : zI), Up I I' n m → Q (some (vI r)) I' L) : Call l g 3 M_X6_scratch [vR 1, vI a1, vI a2] I L Q := by
  obtain ⟨hn, hm, e2, e3, z4, z5, z6, z7, hf, hp⟩ := id h
  refine m_X6_scratch ?_
  rcases pane_c hm e3 a1 with c1 | ⟨i, hi, rfl, c1⟩
  · rw [if_pos c1]
    exact c_refuse (k := 1) (by decide) rfl ⟨_, rfl, hQ _ _ (Up_rf h)⟩
  rw [if_neg (by rw [c1]; omega), c1]
  by_cases b : v_X6_isCell a2 = 0
  · rw [if_pos b]
    exact c_refuse (k := 5) (by decide) rfl ⟨_, rfl, hQ _ _ (Up_rf h)⟩
  rw [if_neg b]
  by_cases b2 : v_X1_isScratched I (5 + 2 * i) a2 = 0
  · rw [if_pos b2]
    refine m_X1_scratchOff (zshP i (by omega)) ?_
    rintro I1 rfl
    obtain ⟨p0, p1, p2, p3, p4⟩ := hp i hi
    have key1 : Up I (zs I (5 + 2 * i) 4 (I (5 + 2 * i) 4 ||| jshl 1 a2)) n m := ⟨fun a ha _ _ => zs_nec (by omega), by rw [zs_nec (by omega)], VS_one h hi (fun a _ _ h5 _ => zs_nec h5) (by
      unfold VP
      rw [zs_ne (fun z => by omega), zs_ne (fun z => by omega), zs_ne (fun z => by omega), zs_ne (fun z => by omega), zs_nec (show 5 + 2 * i + 1 ≠ 5 + 2 * i by omega)]
      exact ⟨p0, p1, p2, p3, p4⟩)⟩
    have key2 : Up I (zs (zs I (5 + 2 * i) 4 (I (5 + 2 * i) 4 ||| jshl 1 a2)) (5 + 2 * i + 1) a2.toNatClampNeg 0) n m := ⟨fun a ha _ _ => by rw [zs_nec (by omega), zs_nec (by omega)], by rw [zs_nec (by omega), zs_nec (by omega)], VS_one h hi (fun a _ _ h5 h6 => by rw [zs_nec (by omega), zs_nec h5]) (by
      unfold VP
      rw [zs_nec (show 5 + 2 * i ≠ 5 + 2 * i + 1 by omega), zs_ne (fun z => by omega), zs_ne (fun z => by omega), zs_ne (fun z => by omega), zs_ne (fun z => by omega)]
      refine ⟨p0, p1, p2, p3, fun c hc => ?_⟩
      rw [zs_at, zs_nec (show 5 + 2 * i + 1 ≠ 5 + 2 * i by omega)]
      split
      · exact ⟨0, by decide, rfl⟩
      · exact p4 c hc)⟩
    split
    · exact ⟨_, rfl, hQ _ _ key1⟩
    · split
      · exact ⟨_, rfl, hQ _ _ key2⟩
      · exact ⟨_, rfl, hQ _ _ key1⟩
  · rw [if_neg b2]
    exact c_refuse (k := 6) (by decide) rfl ⟨_, rfl, hQ _ _ (Up_rf h)⟩
theorem x_scratch (hQ : Q (some (vI (-1))) (rf1 I 1) L) : Call l g 3 M_X6_scratch [vR 1, vI (-1), vI x] I L Q := by
  refine m_X6_scratch ?_
  rw [if_pos paneAt_m1]
  exact c_refuse (k := 1) (by decide) rfl ⟨_, rfl, hQ⟩
theorem u_room (h : VS I n m) (hi : i < m) (hx : zle 9 x) (hQ : ∀ (r : Int32) (I' : zI), ¬ r < 0 → Up I I' n m → Q (some (vI r)) I' L) : Call l g 2 M_X6_room [vR 1, vI (nI i), vI x] I L Q := by
  obtain ⟨hn, hm, e2, e3, z4, z5, z6, z7, hf, hp⟩ := id h
  obtain ⟨p0, p1, p2, p3, p4⟩ := hp i hi
  refine m_X6_room ?_
  rw [paneAt_in hm e3 hi, if_neg (by omega), if_neg (zle_ge hx (by decide)), if_neg (show ¬ 9 < x from zle_gt hx (Nat.le_refl _) (by decide))]
  refine hQ _ _ (zle_ge p1 (by decide)) ⟨fun a ha _ _ => zs_nec (by omega), by rw [zs_nec (by omega)], VS_one h hi (fun a _ _ h5 _ => zs_nec h5) ?_⟩
  unfold VP
  rw [zs_ne (fun z => by omega), zs_same, zs_ne (fun z => by omega), zs_ne (fun z => by omega), zs_nec (show 5 + 2 * i + 1 ≠ 5 + 2 * i by omega)]
  exact ⟨p0, hx, p2, p3, p4⟩
theorem x_room (hQ : Q (some (vI (-1))) (rf1 I 1) L) : Call l g 2 M_X6_room [vR 1, vI (-1), vI x] I L Q := by
  refine m_X6_room ?_
  rw [if_pos paneAt_m1]
  exact c_refuse (k := 1) (by decide) rfl ⟨_, rfl, hQ⟩
/-- the weather -/
theorem VS_wx {f : Nat} (h : VS I n m) (hc : (f = 4 ∧ zle 40 x) ∨ (f = 5 ∧ zle 9 x) ∨ (f = 6 ∧ zle 9 x)) : Up I (zs I 2 f x) n m := by
  obtain ⟨hn, hm, e2, e3, z4, z5, z6, z7, hf, hp⟩ := h
  refine ⟨fun a ha _ _ => zs_nec (by omega), by rw [zs_ne (by omega)], ?_⟩
  unfold VS
  rw [zs_ne (M := I) (k := f) (j := 2) (by omega), zs_ne (M := I) (k := f) (j := 3) (by omega), zs_ne (M := I) (k := f) (j := 7) (by omega), zs_at (j := 4), zs_at (j := 5), zs_at (j := 6), zs_nec (show 3 ≠ 2 by decide)]
  refine ⟨hn, hm, e2, e3, ?_, ?_, ?_, z7, hf, fun i hi => VP_cong (zs_nec (by omega)) (zs_nec (by omega)) (hp i hi)⟩
  · rcases hc with ⟨rfl, hz⟩ | ⟨rfl, hz⟩ | ⟨rfl, hz⟩
    · rw [if_pos rfl]; exact hz
    · rw [if_neg (by decide)]; exact z4
    · rw [if_neg (by decide)]; exact z4
  · rcases hc with ⟨rfl, hz⟩ | ⟨rfl, hz⟩ | ⟨rfl, hz⟩
    · rw [if_neg (by decide)]; exact z5
    · rw [if_pos rfl]; exact hz
    · rw [if_neg (by decide)]; exact z5
  · rcases hc with ⟨rfl, hz⟩ | ⟨rfl, hz⟩ | ⟨rfl, hz⟩
    · rw [if_neg (by decide)]; exact z6
    · rw [if_neg (by decide)]; exact z6
    · rw [if_pos rfl]; exact hz
theorem u_ask (h : VS I n m) (hi : i < 3) (hQ : ∀ (r : Int32) (I' : zI), (zle (if i = 0 then 40 else 9) x → ¬ r < 0) → Up I I' n m → Q (some (vI r)) I' L) : Call l g 3 M_X6_ask [vR 1, vI (nI i), vI x] I L Q := by
  obtain ⟨hn, hm, e2, e3, z4, z5, z6, z7, hf, hp⟩ := id h
  refine m_X6_ask ?_
  have hcase : i = 0 ∨ i = 1 ∨ i = 2 := by omega
  rcases hcase with rfl | rfl | rfl
  · rcases may_c x 40 (by decide) with w | ⟨hz, w1, w2⟩
    · have hmb : v_X4_mayBecome (nI 0) x = 0 := by
        unfold v_X4_mayBecome
        rcases w with w | ⟨w, w'⟩
        · rw [if_pos w]
        · rw [if_neg w]; exact if_pos w'
      rw [if_pos hmb]
      refine c_refuse (k := 6) (by decide) rfl ⟨_, rfl, hQ _ _ (fun hz => ?_) (Up_rf h)⟩
      rcases w with w | ⟨w, w'⟩
      · exact absurd w (zle_ge hz (by decide))
      · exact absurd w' (zle_gt hz (Nat.le_refl _) (by decide))
    · rw [if_neg (show ¬ v_X4_mayBecome (nI 0) x = 0 from by unfold v_X4_mayBecome; rw [if_neg w1, if_neg (show ¬ v_X4_mostOf (nI 0) < x from w2)]; decide)]
      refine m_X4_changeWeather rfl ?_
      rw [if_pos (by decide)]
      exact ⟨_, rfl, hQ _ _ (fun _ => zle_ge z4 (by decide)) (VS_wx h (Or.inl ⟨rfl, hz⟩))⟩
  · rcases may_c x 9 (by decide) with w | ⟨hz, w1, w2⟩
    · have hmb : v_X4_mayBecome (nI 1) x = 0 := by
        unfold v_X4_mayBecome
        rcases w with w | ⟨w, w'⟩
        · rw [if_pos w]
        · rw [if_neg w]; exact if_pos w'
      rw [if_pos hmb]
      refine c_refuse (k := 6) (by decide) rfl ⟨_, rfl, hQ _ _ (fun hz => ?_) (Up_rf h)⟩
      rcases w with w | ⟨w, w'⟩
      · exact absurd w (zle_ge hz (by decide))
      · exact absurd w' (zle_gt hz (Nat.le_refl _) (by decide))
    · rw [if_neg (show ¬ v_X4_mayBecome (nI 1) x = 0 from by unfold v_X4_mayBecome; rw [if_neg w1, if_neg (show ¬ v_X4_mostOf (nI 1) < x from w2)]; decide)]
      refine m_X4_changeWeather rfl ?_
      rw [if_neg (by decide), if_pos (by decide)]
      exact ⟨_, rfl, hQ _ _ (fun _ => zle_ge z5 (by decide)) (VS_wx h (Or.inr (Or.inl ⟨rfl, hz⟩)))⟩
  · rcases may_c x 9 (by decide) with w | ⟨hz, w1, w2⟩
    · have hmb : v_X4_mayBecome (nI 2) x = 0 := by
        unfold v_X4_mayBecome
        rcases w with w | ⟨w, w'⟩
        · rw [if_pos w]
        · rw [if_neg w]; exact if_pos w'
      rw [if_pos hmb]
      refine c_refuse (k := 6) (by decide) rfl ⟨_, rfl, hQ _ _ (fun hz => ?_) (Up_rf h)⟩
      rcases w with w | ⟨w, w'⟩
      · exact absurd w (zle_ge hz (by decide))
      · exact absurd w' (zle_gt hz (Nat.le_refl _) (by decide))
    · rw [if_neg (show ¬ v_X4_mayBecome (nI 2) x = 0 from by unfold v_X4_mayBecome; rw [if_neg w1, if_neg (show ¬ v_X4_mostOf (nI 2) < x from w2)]; decide)]
      refine m_X4_changeWeather rfl ?_
      rw [if_neg (by decide), if_neg (by decide), if_pos (by decide)]
      exact ⟨_, rfl, hQ _ _ (fun _ => zle_ge z6 (by decide)) (VS_wx h (Or.inr (Or.inr ⟨rfl, hz⟩)))⟩
theorem x_ask (hQ : Q (some (vI (-6))) (rf1 I 6) L) : Call l g 3 M_X6_ask [vR 1, vI 0, vI 41] I L Q := by
  refine m_X6_ask ?_
  rw [if_pos (by decide)]
  exact c_refuse (k := 6) (by decide) rfl ⟨_, rfl, hQ⟩
theorem u_seed (h : VS I n m) (hQ : ∀ I' : zI, FS I I' → VS I' n m → Q (some (vI (I 2 9))) I' L) : Call l g 1 M_X6_seed [vR 1, vI x] I L Q := by
  obtain ⟨hn, hm, e2, e3, z4, z5, z6, z7, hf, hp⟩ := h
  refine m_X6_seed (hQ _ (fun a ha _ _ => zs_nec (by omega)) ?_)
  unfold VS
  rw [zs_ne (M := I) (k := 9) (j := 2) (by omega), zs_ne (M := I) (k := 9) (j := 3) (by omega), zs_ne (M := I) (k := 9) (j := 4) (by omega), zs_ne (M := I) (k := 9) (j := 5) (by omega), zs_ne (M := I) (k := 9) (j := 6) (by omega), zs_ne (M := I) (k := 9) (j := 7) (by omega), zs_nec (show 3 ≠ 2 by decide)]
  exact ⟨hn, hm, e2, e3, z4, z5, z6, z7, hf, fun i hi => VP_cong (zs_nec (by omega)) (zs_nec (by omega)) (hp i hi)⟩
end ZMU
