/-! THE MEMORY BEHIND THE CONSTRUCTORS -/
theorem wr_foldk {α : Type} {z : α} {ws : List (Nat × Nat × α)} {K : Nat} (h : ∀ q ∈ ws, q.2.1 < K) (M : Nat → Nat → α) (hM : ∀ a k, K ≤ k → M a k = z) : ∀ a k, K ≤ k → ws.foldl (fun M q => zs M q.1 q.2.1 q.2.2) M a k = z := by
  induction ws generalizing M with
  | nil => exact hM
  | cons q ws ih =>
    refine ih (fun r hr => h r (List.mem_cons_of_mem _ hr)) _ (fun a k hk => ?_)
    show zs M q.1 q.2.1 q.2.2 a k = z
    have := h q List.mem_cons_self
    rw [zs_ne (fun e => by omega)]
    exact hM a k hk
theorem rT_hi {a k : Nat} (hk : 31 ≤ k) : rT 104 a k = 0 := by
  refine wr_foldk (K := 31) (fun q hq => ?_) _ (fun _ _ _ => rfl) a k hk
  exact of_decide_eq_true (List.all_eq_true.mp (by decide +kernel : ((zwR.take 104).all fun q => decide (q.2.1 < 31)) = true) q hq)
theorem zrf_hi {a k : Nat} (hk : 31 ≤ k) : zrf a k = 0 := by
  have h : ∀ l ∈ zrfL, l.length ≤ 31 := fun l hl => of_decide_eq_true (List.all_eq_true.mp (by decide +kernel : (zrfL.all fun l => decide (l.length ≤ 31)) = true) l hl)
  have h2 : (zrfL.getD a []).length ≤ 31 := by
    rw [List.getD_eq_getElem?_getD]
    cases e : zrfL[a]? with
    | none => exact Nat.zero_le _
    | some l => exact h l (List.mem_of_getElem? e)
  unfold zrf
  generalize zrfL.getD a [] = l at h2
  rw [List.getD_eq_getElem?_getD, List.getElem?_eq_none (by omega)]
  rfl
theorem rT_lo : ∀ a, a < 106 → ∀ k, k < 31 → rT 104 a k = zrf a k := by decide +kernel
theorem zwF_end {g : zG} : zwF g 105 (rT 104) (iT 204) = zw g (iT 204) (fun _ _ => 0) := by
  unfold zwF zw
  refine List.map_congr_left (fun j hj => ?_)
  have hj : j < 105 := List.mem_range.mp hj
  have e : rT 104 (j + 1) = zrf (j + 1) := by
    funext k
    by_cases hk : k < 31
    · exact rT_lo (j + 1) (by omega) k hk
    · rw [rT_hi (by omega), zrf_hi (by omega)]
  unfold zcF zcell
  rw [e]
theorem R_init : R (iT 204) (fun _ _ => 0) := by
  refine ⟨0, 0, ⟨by decide, by decide, ⟨by decide +kernel, by decide +kernel⟩, ⟨by decide +kernel, by decide +kernel⟩, ⟨by decide +kernel, by unfold zle; decide +kernel⟩, ⟨by decide +kernel, by unfold zle; decide +kernel⟩, ⟨by decide +kernel, by unfold zle; decide +kernel⟩, ⟨by decide +kernel, by unfold zle; decide +kernel⟩, by decide +kernel, by decide +kernel, fun j hj => absurd hj (Nat.not_lt_zero j), fun i hi => absurd hi (Nat.not_lt_zero i)⟩, ⟨by decide +kernel, Or.inl (by decide +kernel)⟩, fun s hs => Or.inr ?_, ?_, by decide +kernel, ⟨by decide +kernel, by unfold zle; decide +kernel, ?_⟩⟩
  · have h1 : ∀ s, s < 8 → iT 204 (66 + 2 * s) 4 = 0 ∧ iT 204 (66 + 2 * s) 2 = 0 ∧ iT 204 88 s = iT 204 (66 + 2 * s) 3 ∧ iT 204 (66 + 2 * s) 3 = -1 := by decide +kernel
    obtain ⟨a, b, c, d⟩ := h1 s hs
    exact ⟨a, b, c, Or.inl d⟩
  · have h2 : ∀ j, j < 8 → iT 204 86 j = iT 204 98 j := by decide +kernel
    exact h2
  · have h3 : (iT 204 84 1).toNatClampNeg = 0 := by decide +kernel
    intro j hj
    rw [h3] at hj
    exact absurd hj (Nat.not_lt_zero j)
