/-! rows for the printed walks -/
theorem zifp {c : Prop} [Decidable c] {a b : Prop} (hc : c) (h : if c then a else b) : a := by rw [if_pos hc] at h; exact h
theorem zifn {c : Prop} [Decidable c] {a b : Prop} (hc : ¬ c) (h : if c then a else b) : b := by rw [if_neg hc] at h; exact h
theorem ztn {x v : Int32} {n : Int} (hv : v.toInt = n) (h : ¬ x = v) : ¬ x.toInt = n := fun e => h (Int32.toInt_inj.mp (e.trans hv.symm))
theorem zlt {i : Int32} {n : Nat} (h : vp_in i n) : i.toNatClampNeg < n := Nat.not_le.mp fun q => h (Or.inr q)
theorem zne0 {p c n : Nat} (h : zsh p = (10 + c, n)) : ¬ p = 0 := fun e => by
  have := (zok (i := p) (by rw [h]; show 10 + c ≠ 9; omega)).1
  omega
theorem zall {P : Nat → Prop} [DecidablePred P] {sh : Nat × Nat} (hs : sh.1 ≠ 9) (h : ∀ p, p < 87 → zsh p = sh → P p) {p : Nat} (hp : zsh p = sh) : P p := by
  have := zok (i := p) (by rw [hp]; exact hs)
  exact h p (Nat.lt_succ_of_le this.2) hp
theorem zL1 {p : Nat} (h : zsh p = (11, 6)) : zrf p 5 = p + 1 ∧ zsh (p + 1) = (0, 16) := zall (P := fun p => zrf p 5 = p + 1 ∧ zsh (p + 1) = (0, 16)) (by decide) (by decide +kernel) h
theorem zL3 {p : Nat} (h : zsh p = (13, 5)) : zrf p 0 = p + 1 ∧ zsh (p + 1) = (1, 160) := zall (P := fun p => zrf p 0 = p + 1 ∧ zsh (p + 1) = (1, 160)) (by decide) (by decide +kernel) h
theorem zL4 {p : Nat} (h : zsh p = (14, 10)) : (zrf p 0 = p + 1 ∧ zsh (p + 1) = (0, 8)) ∧ (zrf p 1 = p + 2 ∧ zsh (p + 2) = (2, 8)) ∧ ∀ i, i < 8 → zrf (p + 2) i = p + 3 + 2 * i ∧ zsh (p + 3 + 2 * i) = (11, 6) := zall (P := fun p => (zrf p 0 = p + 1 ∧ zsh (p + 1) = (0, 8)) ∧ (zrf p 1 = p + 2 ∧ zsh (p + 2) = (2, 8)) ∧ ∀ i, i < 8 → zrf (p + 2) i = p + 3 + 2 * i ∧ zsh (p + 3 + 2 * i) = (11, 6)) (by decide) (by decide +kernel) h
theorem zL65 : ∀ i, i < 8 → zrf 65 i = 66 + 2 * i ∧ zsh (66 + 2 * i) = (13, 5) := by decide +kernel
section ZP
variable {k : zK} {g : zG} {cc : ByteArray} {own : String} {nL d pc : Nat} {rt : Option FieldType} {I : zI} {L : zL} {ls : List (Nat × zv)} {st : List zv} {a n j : Nat} {i x y : Int32}
theorem aw_if_gen (X : zX k g cc own nL rt d) {off : Int} (tgt : Nat) (dg : decode cc pc = .ok (.ifCond .ge off, 3)) (ht : (pc : Int) + off = (tgt : Int)) (hf : x < 0 → AW k g nL I L (pc + 3) ls st) (h : ¬ x < 0 → AW k g nL I L tgt ls st) : AW k g nL I L pc ls (vI x :: st) := aw_if_ge X tgt dg ht (fun c => h (Int32.not_lt.mpr c)) (fun c => hf (Int32.not_le.mp c))
theorem aw_if_len (X : zX k g cc own nL rt d) {off : Int} (tgt : Nat) (dg : decode cc pc = .ok (.ifCond .le off, 3)) (ht : (pc : Int) + off = (tgt : Int)) (hf : 0 < x → AW k g nL I L (pc + 3) ls st) (h : ¬ 0 < x → AW k g nL I L tgt ls st) : AW k g nL I L pc ls (vI x :: st) := aw_if_le X tgt dg ht (fun c => h (Int32.not_lt.mpr c)) (fun c => hf (Int32.not_le.mp c))
theorem aw_icmp_gen (X : zX k g cc own nL rt d) {off : Int} (tgt : Nat) (dg : decode cc pc = .ok (.if_icmp .ge off, 3)) (ht : (pc : Int) + off = (tgt : Int)) (hf : x < y → AW k g nL I L (pc + 3) ls st) (h : ¬ x < y → AW k g nL I L tgt ls st) : AW k g nL I L pc ls (vI y :: vI x :: st) := aw_icmp_ge X tgt dg ht (fun c => h (Int32.not_lt.mpr c)) (fun c => hf (Int32.not_le.mp c))
theorem aw_icmp_len (X : zX k g cc own nL rt d) {off : Int} (tgt : Nat) (dg : decode cc pc = .ok (.if_icmp .le off, 3)) (ht : (pc : Int) + off = (tgt : Int)) (hf : y < x → AW k g nL I L (pc + 3) ls st) (h : ¬ y < x → AW k g nL I L tgt ls st) : AW k g nL I L pc ls (vI y :: vI x :: st) := aw_icmp_le X tgt dg ht (fun c => h (Int32.not_lt.mpr c)) (fun c => hf (Int32.not_le.mp c))
theorem aw_ialdj (X : zX k g cc own nL rt d) (ha : zsh a = (0, n)) (hi : vp_in i n) (hj : i.toNatClampNeg = j) (dg : decode cc pc = .ok (.iaload, 1)) (h : AW k g nL I L (pc + 1) ls (vI (I a j) :: st)) : AW k g nL I L pc ls (vI i :: vR a :: st) := by
  subst hj; exact aw_iald X ha hi dg h
theorem aw_iastj (X : zX k g cc own nL rt d) (ha : zsh a = (0, n)) (hi : vp_in i n) (hj : i.toNatClampNeg = j) (dg : decode cc pc = .ok (.iastore, 1)) (h : AW k g nL (zs I a j x) L (pc + 1) ls st) : AW k g nL I L pc ls (vI x :: vI i :: vR a :: st) := by
  subst hj; exact aw_iast X ha hi dg h
theorem aw_laldj (X : zX k g cc own nL rt d) (ha : zsh a = (1, n)) (hi : vp_in i n) (hj : i.toNatClampNeg = j) (dg : decode cc pc = .ok (.laload, 1)) (h : AW k g nL I L (pc + 1) ls (vL (L a j) :: st)) : AW k g nL I L pc ls (vI i :: vR a :: st) := by
  subst hj; exact aw_lald X ha hi dg h
theorem aw_lastj (X : zX k g cc own nL rt d) {x : Int64} (ha : zsh a = (1, n)) (hi : vp_in i n) (hj : i.toNatClampNeg = j) (dg : decode cc pc = .ok (.lastore, 1)) (h : AW k g nL I (zs L a j x) (pc + 1) ls st) : AW k g nL I L pc ls (vL x :: vI i :: vR a :: st) := by
  subst hj; exact aw_last X ha hi dg h
theorem aw_perm {ks9 : List (Nat × zv)} (is : List Nat) (hs : is.map (fun i => ls[i]?) = ks9.map some) (h : AW k g nL I L pc ks9 st) : AW k g nL I L pc ls st := aw_sub ks9 (fun q hq => by
  have h1 : some q ∈ is.map (fun i => ls[i]?) := by rw [hs]; exact List.mem_map.mpr ⟨q, hq, rfl⟩
  obtain ⟨j, -, hj⟩ := List.mem_map.mp h1
  exact List.mem_of_getElem? hj) h
theorem aw_swp {dflt : Int} {ps : Array (Int × Int)} {len : Nat} (X : zX k g cc own nL rt d) (tg : Nat) (v o : Int) (dg : decode cc pc = .ok (.lookupswitch dflt ps, len)) (hp : (ps.toList.zip (ps.toList.drop 1)).all (fun (a, next) => a.1 < next.1) = true) (hx : x.toInt = v) (ho : Op.lookupswitch.offset ps.toList dflt v = o) (ht : (pc : Int) + o = (tg : Int)) (h : AW k g nL I L tg ls st) : AW k g nL I L pc ls (vI x :: st) := aw_lookup X dg hp tg (by rw [hx, ho]; exact ht) h
theorem zdfl {d z : Int} : ∀ {ps : List (Int × Int)}, (∀ q ∈ ps, ¬ z = q.1) → Op.lookupswitch.offset ps d z = d
  | [], _ => rfl
  | (a, o) :: r, h => by
    rw [Op.lookupswitch.offset_cons, if_neg (fun e => h (a, o) List.mem_cons_self e.symm)]
    exact zdfl (fun q hq => h q (List.mem_cons_of_mem _ hq))
theorem aw_swd {dflt : Int} {ps : Array (Int × Int)} {len : Nat} (X : zX k g cc own nL rt d) (tg : Nat) (dg : decode cc pc = .ok (.lookupswitch dflt ps, len)) (hp : (ps.toList.zip (ps.toList.drop 1)).all (fun (a, next) => a.1 < next.1) = true) (hx : ∀ q ∈ ps.toList, ¬ x.toInt = q.1) (ht : (pc : Int) + dflt = (tg : Int)) (h : AW k g nL I L tg ls st) : AW k g nL I L pc ls (vI x :: st) := aw_lookup X dg hp tg (by rw [zdfl hx]; exact ht) h
end ZP
theorem zTi (i : Nat) {w : Cond} (h : lw_tbl[i]? = some w) (hg : goodWord w = true) : w ∈ zT := zT_mem (List.mem_of_getElem? h) hg
