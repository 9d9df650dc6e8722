/-! SMALL NUMBERS; the reading at an hour -/
def okW (k a cold wet out room : Int32) : Prop := zle 6 k ∧ zle 9 a ∧ zle 40 cold ∧ zle 9 wet ∧ zle 9 out ∧ zle 9 room
theorem zle_max {a b : Int32} {m : Nat} (ha : zle m a) (hb : zle m b) (hm : m < 2147483648) : zle m (jmax (a - b) 0) := by
  obtain ⟨x, hx, rfl⟩ := ha
  obtain ⟨y, hy, rfl⟩ := hb
  exact ⟨x - y, by omega, n_max (by omega) (by omega)⟩
theorem zle_cc {k a cold : Int32} (ha : zle 9 a) (hc : zle 40 cold) : zle 40 (fCC k a cold) := by
  unfold fCC
  split
  · exact hc
  · obtain ⟨x, hx, rfl⟩ := ha
    exact zle_max hc ⟨x, by omega, rfl⟩ (by decide)
theorem zle_sh {k a cold wet : Int32} (ha : zle 9 a) (hc : zle 40 cold) (hw : zle 9 wet) : zle 27 (fSh k a cold wet) := by
  unfold fSh
  obtain ⟨c, h1, e1⟩ := zle_cc (k := k) ha hc
  obtain ⟨w, h2, rfl⟩ := hw
  obtain ⟨x, h3, rfl⟩ := ha
  rw [e1, pk_mul]
  have hm : c * w ≤ 40 * 9 := Nat.mul_le_mul h1 h2
  have e : nI (c * w) / 20 = nI (c * w / 20) := pk_div (d := 20) (by omega) (by decide) (by decide)
  rw [e]
  have hd : c * w / 20 ≤ 18 := by omega
  split
  · exact ⟨_, by omega, rfl⟩
  · split
    · exact ⟨_, by omega, rfl⟩
    · rw [nI_add]
      exact ⟨_, by omega, rfl⟩
theorem zle_min {x : Int32} (h : zle 27 x) : zle 20 (jmin x 20) := by
  obtain ⟨n, hn, rfl⟩ := h
  unfold jmin
  split
  · exact ⟨20, by decide, rfl⟩
  · rename_i h
    rw [show (20 : Int32) = nI 20 from rfl, n_lt (by decide) (by omega)] at h
    exact ⟨n, by omega, rfl⟩
theorem zle_ite {b : Nat} {c : Prop} [Decidable c] {x y : Int32} (hx : zle b x) (hy : zle b y) : zle b (if c then x else y) := by
  split
  · exact hx
  · exact hy
theorem zle_ice0 {k a scr form cold wet : Int32} (ha : zle 9 a) (hc : zle 40 cold) (hw : zle 9 wet) (c : Nat) : zle 20 (ice0 k a scr form cold wet c) := by
  unfold ice0 fFr
  have z0 : zle 20 (0 : Int32) := ⟨0, by decide, rfl⟩
  have zw := zle_min (zle_sh (k := k) ha hc hw)
  have zh : zle 20 (jmin (fSh k a cold wet) 20 / 2) := by
    obtain ⟨n, hn, e⟩ := zw
    rw [e, show nI n / 2 = nI (n / 2) from pk_div (d := 2) (by omega) (by decide) (by decide)]
    exact ⟨_, by omega, rfl⟩
  exact zle_ite (zle_ite (zle_ite z0 (zle_ite zh z0)) zw) z0
theorem zle_mel {m : Int32} {f : Nat → Int32} {c : Nat} (hc : c < 16) (hm : zle 30 m) (hf : ∀ j, j < 16 → zle 20 (f j)) : zle 20 (mel m f c) := by
  unfold mel
  obtain ⟨b, hb, rfl⟩ := hm
  obtain ⟨v, hv, e⟩ := hf c hc
  rw [e]
  split
  · split
    · exact ⟨v, hv, rfl⟩
    · split
      · rw [← nI_succ, n_max (by omega) (by omega)]
        exact ⟨_, by omega, rfl⟩
      · rw [n_max (by omega) (by omega)]
        exact ⟨_, by omega, rfl⟩
  · exact ⟨v, hv, rfl⟩
theorem zle_me {k room a h out : Int32} (hr : zle 9 room) (ho : zle 9 out) : zle 30 (fMe k room a h out) := by
  unfold fMe
  obtain ⟨r, h1, rfl⟩ := hr
  obtain ⟨o, h2, rfl⟩ := ho
  rw [show nI r / 3 = nI (r / 3) from pk_div (d := 3) (by omega) (by decide) (by decide), nI_add, nI_add]
  have e1 : nI (o + r / 3) + 3 = nI (o + r / 3 + 3) := nI_add _ 3
  have e2 : nI (o + r) + 3 = nI (o + r + 3) := nI_add _ 3
  split
  · split
    · split
      · exact ⟨_, by omega, rfl⟩
      · exact ⟨_, by omega, rfl⟩
    · split
      · rw [e1]; exact ⟨_, by omega, rfl⟩
      · rw [e2]; exact ⟨_, by omega, rfl⟩
  · split
    · exact ⟨_, by omega, rfl⟩
    · exact ⟨_, by omega, rfl⟩
theorem zle_hrs {k room a out : Int32} {s : Nat} {f : Nat → Int32} (hr : zle 9 room) (ho : zle 9 out) (hf : ∀ j, j < 16 → zle 20 (f j)) : ∀ n c, c < 16 → zle 20 (hrs k room a out s f n c)
  | 0, c, hc => hf c hc
  | n + 1, c, hc => zle_mel hc (zle_me hr ho) (fun j hj => zle_hrs hr ho hf n j hj)
/-- what a pane with a letter behind it is read as at an hour -/
def rdH (f : Nat → Int32) (N : Nat) (k room a scr form cold wet out : Int32) (n : Nat) : Int32 := (rdg f (shpH k room a scr form cold wet out n) N).1
