/-! THE MEMORY WHILE THE CONSTRUCTORS RUN: n cells stand; t references and u ints are written, in a fixed order -/
def zcF (g : zG) (rf : Nat → Nat → Nat) (I : zI) (i : Nat) : va_E :=
  if (zsh i).1 = 0 then .inl (gac g i, (zsh i).2, .inl (I i))
  else if (zsh i).1 = 1 then .inl (gac g i, (zsh i).2, .inr (.inl (fun _ => 0)))
  else if (zsh i).1 < 10 then .inl (gac g i, (zsh i).2, .inr (.inr (.inr (.inr (fun k => if rf i k = 0 then none else some (gad g (rf i k)))))))
  else .inr ((zsh i).1 - 10, (List.range (zsh i).2).map (fun k => if zfr ((zsh i).1 - 10) k then zr (gad g) (rf i k) else .int (I i k)))
def zwF (g : zG) (n : Nat) (rf : Nat → Nat → Nat) (I : zI) : va_W := (List.range n).map fun j => (gad g (j + 1), zcF g rf I (j + 1))
def zB (g : zG) : Prop := ∀ i, 1 ≤ i → i ≤ zN → gad g i = gz g + (i - 1)
theorem zwF_at {g : zG} {n : Nat} {rf : Nat → Nat → Nat} {I : zI} {i : Nat} (h1 : 1 ≤ i) (h2 : i ≤ n) : (zwF g n rf I)[i - 1]? = some (gad g i, zcF g rf I i) := by
  unfold zwF
  rw [List.getElem?_map, List.getElem?_range (by omega)]
  have e : i - 1 + 1 = i := by omega
  simp only [Option.map_some, e]
theorem zwF_get {g : zG} {n : Nat} {rf : Nat → Nat → Nat} {I : zI} {k : Nat} {q : Nat × va_E} (h : (zwF g n rf I)[k]? = some q) : k < n ∧ q = (gad g (k + 1), zcF g rf I (k + 1)) := by
  have hl : k < (zwF g n rf I).length := (List.getElem?_eq_some_iff.mp h).1
  have e : (zwF g n rf I).length = n := by simp [zwF]
  rw [e] at hl
  have h9 := zwF_at (g := g) (n := n) (rf := rf) (I := I) (i := k + 1) (by omega) (by omega)
  rw [Nat.add_sub_cancel] at h9
  exact ⟨hl, Option.some.inj (h.symm.trans h9)⟩
theorem zwF_set {g : zG} {n : Nat} {rf rf' : Nat → Nat → Nat} {I I' : zI} {i : Nat} (h1 : 1 ≤ i) (h2 : i ≤ n) (h : ∀ j, j ≠ i → zcF g rf' I' j = zcF g rf I j) {c : va_E} (hc : c = zcF g rf' I' i) : (zwF g n rf I).set (i - 1) (gad g i, c) = zwF g n rf' I' := by
  apply List.ext_getElem?
  intro j
  have hlen : (zwF g n rf I).length = n := by simp [zwF]
  rw [List.getElem?_set]
  by_cases e : i - 1 = j
  · rw [if_pos e, if_pos (by omega), hc, ← e, zwF_at h1 h2]
  · rw [if_neg e]
    by_cases hj : j < n
    · have a := zwF_at (g := g) (n := n) (rf := rf) (I := I) (i := j + 1) (by omega) (by omega)
      have b := zwF_at (g := g) (n := n) (rf := rf') (I := I') (i := j + 1) (by omega) (by omega)
      simp only [Nat.add_sub_cancel] at a b
      rw [a, b, h (j + 1) (by omega)]
    · have hlen' : (zwF g n rf' I').length = n := by simp [zwF]
      rw [List.getElem?_eq_none (by omega), List.getElem?_eq_none (by omega)]
theorem zwF_push {g : zG} {n : Nat} {rf : Nat → Nat → Nat} {I : zI} : zwF g (n + 1) rf I = zwF g n rf I ++ [(gad g (n + 1), zcF g rf I (n + 1))] := by
  unfold zwF
  rw [List.range_succ, List.map_append]
  rfl
theorem zwF_D {g : zG} (B : zB g) {n : Nat} (hn : n ≤ zN) {rf : Nat → Nat → Nat} {I : zI} : va_D (gA g) (zwF g n rf I) := by
  refine ⟨fun i j p q hi hj e => ?_, fun k q hk => ?_⟩
  · obtain ⟨a1, rfl⟩ := zwF_get hi
    obtain ⟨a2, rfl⟩ := zwF_get hj
    have e9 : gad g (i + 1) = gad g (j + 1) := e
    rw [B (i + 1) (by omega) (by omega), B (j + 1) (by omega) (by omega)] at e9
    omega
  · obtain ⟨a1, rfl⟩ := zwF_get hk
    show gz g ≤ gad g (k + 1)
    rw [B (k + 1) (by omega) (by omega)]
    omega
theorem zcF_obj {g : zG} {rf : Nat → Nat → Nat} {I : zI} {i ci N : Nat} (h : zsh i = (10 + ci, N)) : zcF g rf I i = .inr (ci, (List.range N).map (fun k => if zfr ci k then zr (gad g) (rf i k) else .int (I i k))) := by
  unfold zcF
  rw [h]
  show (if 10 + ci = 0 then _ else if 10 + ci = 1 then _ else if 10 + ci < 10 then _ else Sum.inr (10 + ci - 10, (List.range N).map (fun k => if zfr (10 + ci - 10) k then zr (gad g) (rf i k) else .int (I i k)))) = _
  rw [if_neg (by omega), if_neg (by omega), if_neg (by omega), Nat.add_sub_cancel_left]
theorem zcF_i {g : zG} {rf : Nat → Nat → Nat} {I : zI} {i n : Nat} (h : zsh i = (0, n)) : zcF g rf I i = .inl (gac g i, n, .inl (I i)) := by
  unfold zcF
  rw [h]
  rfl
theorem zcF_l {g : zG} {rf : Nat → Nat → Nat} {I : zI} {i n : Nat} (h : zsh i = (1, n)) : zcF g rf I i = .inl (gac g i, n, .inr (.inl (fun _ => 0))) := by
  unfold zcF
  rw [h]
  rfl
theorem zcF_r {g : zG} {rf : Nat → Nat → Nat} {I : zI} {i n kd : Nat} (h : zsh i = (kd, n)) (h2 : kd = 2 ∨ kd = 3) : zcF g rf I i = .inl (gac g i, n, .inr (.inr (.inr (.inr (fun k => if rf i k = 0 then none else some (gad g (rf i k))))))) := by
  unfold zcF
  rw [h]
  rcases h2 with rfl | rfl <;> rfl
theorem zcF_neI {g : zG} {rf : Nat → Nat → Nat} {I : zI} {a k : Nat} {x : Int32} {j : Nat} (h : j ≠ a) : zcF g rf (zs I a k x) j = zcF g rf I j := by
  unfold zcF
  simp only [zs_nec h]
theorem zcF_neR {g : zG} {rf : Nat → Nat → Nat} {I : zI} {a k : Nat} {x : Nat} {j : Nat} (h : j ≠ a) : zcF g (zs rf a k x) I j = zcF g rf I j := by
  unfold zcF
  simp only [zs_nec h]
theorem zsetF_I {ci N a kf : Nat} {x : Int32} {ad : Nat → Nat} {rf : Nat → Nat → Nat} {I : zI} (hr : zfr ci kf = false) : ((List.range N).map (fun k => if zfr ci k then zr ad (rf a k) else .int (I a k))).set kf (.int x) = (List.range N).map (fun k => if zfr ci k then zr ad (rf a k) else .int (zs I a kf x a k)) := by
  apply List.ext_getElem?
  intro j
  rw [List.getElem?_set, List.getElem?_map, List.getElem?_map, List.length_map, List.length_range]
  by_cases e : kf = j
  · subst e
    rw [if_pos rfl]
    by_cases hj : kf < N
    · rw [if_pos hj, List.getElem?_range hj, Option.map_some, hr, zs_same]
      rfl
    · rw [if_neg hj, List.getElem?_eq_none (by rw [List.length_range]; omega)]
      rfl
  · rw [if_neg e]
    by_cases hj : j < N
    · rw [List.getElem?_range hj, Option.map_some, Option.map_some, zs_ne (fun h => e h.2.symm)]
    · rw [List.getElem?_eq_none (by rw [List.length_range]; omega)]
      rfl
theorem zsetF_R {ci N a kf r : Nat} {ad : Nat → Nat} {rf : Nat → Nat → Nat} {I : zI} (hr : zfr ci kf = true) : ((List.range N).map (fun k => if zfr ci k then zr ad (rf a k) else .int (I a k))).set kf (zr ad r) = (List.range N).map (fun k => if zfr ci k then zr ad (zs rf a kf r a k) else .int (I a k)) := by
  apply List.ext_getElem?
  intro j
  rw [List.getElem?_set, List.getElem?_map, List.getElem?_map, List.length_map, List.length_range]
  by_cases e : kf = j
  · subst e
    rw [if_pos rfl]
    by_cases hj : kf < N
    · rw [if_pos hj, List.getElem?_range hj, Option.map_some, hr, zs_same]
      rfl
    · rw [if_neg hj, List.getElem?_eq_none (by rw [List.length_range]; omega)]
      rfl
  · rw [if_neg e]
    by_cases hj : j < N
    · rw [List.getElem?_range hj, Option.map_some, Option.map_some, zs_ne (fun h => e h.2.symm)]
    · rw [List.getElem?_eq_none (by rw [List.length_range]; omega)]
      rfl
/-- the world of n cells -/
def WC (g : zG) (n : Nat) (rf : Nat → Nat → Nat) (I : zI) (H : Heap) : Prop := va_P (gD g) vwCl (zwF g n rf I) H ∧ H.size = gz g + n
def zAO (U : State) : Prop := va_AO RX1 U ∧ va_AO RX3 U
theorem zAO.moved {u U : State} (h : u.vm.Alike U.vm) (H : zAO u) : zAO U := ⟨H.1.moved h, H.2.moved h⟩
def WdC (g : zG) (n : Nat) (rf : Nat → Nat → Nat) (I : zI) (U : State) (H : Heap) : Prop := WC g n rf I H ∧ zB g ∧ n ≤ zN ∧ va_K (gD g) vwCl (zt g) U ∧ zSt g U H ∧ zAO U
def zQc (g : zG) (n : Nat) (rf : Nat → Nat → Nat) (I : zI) : Array Value → State → Outcome → State → Prop := fun _ st oc t => (oc = .returned none ∧ WdC g n rf I t t.heap) ∧ va_F (gA g) st t
def zRc (d mc ms : Nat) : Room := { frames := d, cells := mc, slots := ms, locals := 36 * d }
/-- a call of a constructor, with room for mc cells and ms slots -/
def CallC (l : Launch) (g : zG) (d mc ms : Nat) (M : zM) (as : List zv) (n : Nat) (rf : Nat → Nat → Nat) (I : zI) (n' : Nat) (rf' : Nat → Nat → Nat) (I' : zI) : Prop :=
  Met l M.1 (Cond.code M.1 M.2.1 M.2.2.1 M.2.2.2 :: zT) (zRc d mc ms) (va_Pc (as.map (zc (gad g))) (fun U => WdC g n rf I U U.heap)) (zQc g n' rf' I') mc ms (gA g)
def zXc (k : zK) (g : zG) (cc : ByteArray) (own : String) (nL : Nat) (rt : Option FieldType) (d mc ms : Nat) : Prop :=
  zX k g cc own nL rt d ∧ mc ≤ k.2.2.2.1.cells ∧ ms ≤ k.2.2.2.1.slots ∧ (rt = none → k.2.2.2.2.2.2.2.2.1.name = "<init>") ∧ zB g ∧ True ∧ zAO (ks k)
def zEc (k : zK) (g : zG) (mc ms n : Nat) (rf : Nat → Nat → Nat) (I : zI) : Prop := k.2.2.2.2.2.2.2.2.2.2.1 = MQ k.2.2.2.2.2.2.2.1 (zQc g n rf I) k.2.2.2.2.2.2.1 (ks k) mc ms (gA g)

section ZCO
variable {k : zK} {g : zG} {cc : ByteArray} {own : String} {nL d mc ms pc n cs sl : Nat} {rt : Option FieldType} {rf : Nat → Nat → Nat} {I : zI} {ls : List (Nat × zv)} {st : List zv} {idx ci kf N a : Nat} {C : String} {T : u_T} {t0 : Nat → FieldType}
theorem gad_n (B : zB g) {i : Nat} (h1 : 1 ≤ i) (h2 : i ≤ zN) {H : Heap} (hz : H.size = gz g + (i - 1)) : gad g i = H.size := by rw [B i h1 h2, hz]
/-- behind an allocation -/
theorem WC_push (B : zB g) (hn : n + 1 ≤ zN) {H H1 : Heap} (hP : WC g n rf I H) (z1 : H1.size = H.size + 1) (o1 : ∀ q : Nat, q < H.size → H1[q]? = H[q]?) (hc : va_at (gD g) vwCl (H.size, zcF g rf I (n + 1)) H1) : WC g (n + 1) rf I H1 := by
  obtain ⟨hP, hz⟩ := hP
  refine ⟨?_, by omega⟩
  rw [zwF_push]
  have hk : ∀ (k : Nat) (x : Nat × va_E), (zwF g n rf I)[k]? = some x → H1[x.1]? = H[x.1]? := fun k x hx => o1 x.1 ((hP k x hx).lt)
  refine (hP.kept hk).app (fun k x hx => ?_)
  have hz9 : k < 1 := (List.getElem?_eq_some_iff.mp hx).1
  rw [show k = 0 by omega] at hx
  cases hx
  rw [gad_n B (by omega) hn (H := H) (by rw [hz]; omega)]
  exact hc
theorem vS_push {A : Nat → Prop} {H0 H H1 : Heap} {locs : List Loc} (hS : va_S A H0 H locs) (z1 : H1.size = H.size + 1) (o1 : ∀ q : Nat, q < H.size → H1[q]? = H[q]?) : va_S A H0 H1 locs :=
  ⟨Nat.le_trans hS.1 (by omega), fun x h1 h2 => (o1 x (Nat.lt_of_lt_of_le h1 hS.1)).trans (hS.2.1 x h1 h2), hS.2.2⟩
theorem ac_new (X : zXc k g cc own nL rt d mc ms) (hcl : zCl ci N C T t0) (hw1 : Cond.classLink own idx C ∈ zT) (hw2 : Cond.instantiable C N ∈ zT) (hw3 : Cond.initialized C ∈ zT) (hsh : zsh (n + 1) = (10 + ci, N)) (hn : n + 1 ≤ zN) (hdf : ∀ j, j < N → defaultValue (t0 j) = (if zfr ci j then Value.null else .int 0)) (hr : ∀ k, rf (n + 1) k = 0) (hi : ∀ k, I (n + 1) k = 0) (hcs : cs + 1 ≤ mc) (hsl : sl + N ≤ ms) (dg : decode cc pc = .ok (.new idx, 3)) {n1 cs1 sl1 : Nat} (en : n + 1 = n1) (ec : cs + 1 = cs1) (es : sl + N = sl1) (h : AG k g (WC g n1 rf I) cs1 sl1 nL (pc + 3) ls (vR n1 :: st)) : AG k g (WC g n rf I) cs sl nL pc ls st := by
  subst en
  subst ec
  subst es
  intro H locs la hP hS hl
  obtain ⟨X, x1, x2, x3, B, x4⟩ := X
  obtain ⟨hc, hw, hty, hnm⟩ := hcl
  have hKn := X.2.2.2.2.2.1.1 ci _ hc
  have he : gad g (n + 1) = H.size := gad_n B (by omega) hn (by rw [hP.2]; omega)
  refine W.newcK X.1 X.2.1 X.2.2.2.1 (X.2.2.2.2.1 _ hw1) (X.2.2.2.2.1 _ hw2) (X.2.2.2.2.1 _ hw3) rfl dg (Nat.le_trans hcs x1) (Nat.le_trans hsl x2) hKn.2.1 rfl fun H1 kC hkC e1 z1 o1 => ?_
  have h9 := h H1 locs la (WC_push B hn hP z1 o1 (by
    rw [zcF_obj hsh]
    refine ⟨_, hc, (u_born t0 X.2.2.2.2.1 hw hKn hkC e1 hty).to (fun j hj => ?_)⟩
    rw [hdf j hj]
    simp only [vp_V, List.getD_eq_getElem?_getD, List.getElem?_map, List.getElem?_range hj, Option.map_some, hr, hi]
    rfl)) (vS_push hS z1 o1) hl
  rw [List.map_cons, show zc (gad g) (vR (n + 1)) = .ref (gad g (n + 1)) from zr_n _ (by omega), he] at h9
  exact h9
theorem ac_newi (X : zXc k g cc own nL rt d mc ms) (hw1 : Cond.arrayClass .int ∈ zT) (hsh : zsh (n + 1) = (0, N)) (hn : n + 1 ≤ zN) (hi : ∀ k, I (n + 1) k = 0) {x : Int32} (hx : ¬ x < 0) (hN : x.toNatClampNeg = N) (hb : N * 4 ≤ 536870912) (hcs : cs + 1 ≤ mc) (hsl : sl + N ≤ ms) (dg : decode cc pc = .ok (.newarray .int, 2)) {n1 cs1 sl1 : Nat} (en : n + 1 = n1) (ec : cs + 1 = cs1) (es : sl + N = sl1) (h : AG k g (WC g n1 rf I) cs1 sl1 nL (pc + 2) ls (vR n1 :: st)) : AG k g (WC g n rf I) cs sl nL pc ls (vI x :: st) := by
  subst en
  subst ec
  subst es
  intro H locs la hP hS hl
  obtain ⟨X, x1, x2, x3, B, x4⟩ := X
  have he : gad g (n + 1) = H.size := gad_n B (by omega) hn (by rw [hP.2]; omega)
  obtain ⟨t1, ht⟩ := zt_at (g := g) (i := n + 1) (by omega) hn (ty := .int) (by rw [hsh]; rfl)
  have hRA : (ks k).vm.findClass ("[" ++ (FieldType.int).toString) = some (gac g (n + 1)) := (X.2.2.2.2.2.1.2 t1 _ ht).2
  refine va_newaK (atype := .int) X.1 X.2.1 (X.2.2.2.2.1 _ hw1) rfl dg rfl hx hN hb (Nat.le_trans hcs x1) (Nat.le_trans hsl x2) rfl fun H1 cA e1 z1 o1 hAr hNm => ?_
  have hcA : cA = gac g (n + 1) := Option.some.inj (hNm.symm.trans hRA)
  subst hcA
  have h9 := h H1 locs la (WC_push B hn hP z1 o1 (by
    rw [zcF_i hsh, show I (n + 1) = fun _ => 0 from funext hi]
    exact e1)) (vS_push hS z1 o1) hl
  rw [List.map_cons, show zc (gad g) (vR (n + 1)) = .ref (gad g (n + 1)) from zr_n _ (by omega), he] at h9
  exact h9
theorem ac_newl (X : zXc k g cc own nL rt d mc ms) (hw1 : Cond.arrayClass .long ∈ zT) (hsh : zsh (n + 1) = (1, N)) (hn : n + 1 ≤ zN) {x : Int32} (hx : ¬ x < 0) (hN : x.toNatClampNeg = N) (hb : N * 8 ≤ 536870912) (hcs : cs + 1 ≤ mc) (hsl : sl + N ≤ ms) (dg : decode cc pc = .ok (.newarray .long, 2)) {n1 cs1 sl1 : Nat} (en : n + 1 = n1) (ec : cs + 1 = cs1) (es : sl + N = sl1) (h : AG k g (WC g n1 rf I) cs1 sl1 nL (pc + 2) ls (vR n1 :: st)) : AG k g (WC g n rf I) cs sl nL pc ls (vI x :: st) := by
  subst en
  subst ec
  subst es
  intro H locs la hP hS hl
  obtain ⟨X, x1, x2, x3, B, x4⟩ := X
  have he : gad g (n + 1) = H.size := gad_n B (by omega) hn (by rw [hP.2]; omega)
  obtain ⟨t1, ht⟩ := zt_at (g := g) (i := n + 1) (by omega) hn (ty := .long) (by rw [hsh]; rfl)
  have hRA : (ks k).vm.findClass ("[" ++ (FieldType.long).toString) = some (gac g (n + 1)) := (X.2.2.2.2.2.1.2 t1 _ ht).2
  refine va_newaK (atype := .long) X.1 X.2.1 (X.2.2.2.2.1 _ hw1) rfl dg rfl hx hN hb (Nat.le_trans hcs x1) (Nat.le_trans hsl x2) rfl fun H1 cA e1 z1 o1 hAr hNm => ?_
  have hcA : cA = gac g (n + 1) := Option.some.inj (hNm.symm.trans hRA)
  subst hcA
  have h9 := h H1 locs la (WC_push B hn hP z1 o1 (by
    rw [zcF_l hsh]
    exact e1)) (vS_push hS z1 o1) hl
  rw [List.map_cons, show zc (gad g) (vR (n + 1)) = .ref (gad g (n + 1)) from zr_n _ (by omega), he] at h9
  exact h9
theorem ac_newq (X : zXc k g cc own nL rt d mc ms) {kd : Nat} (hkd : kd = 2 ∨ kd = 3) (hty : zty kd = some (.object C)) (hw1 : Cond.classLink own idx C ∈ zT) (hw2 : zAO (ks k) → va_AO C (ks k)) (hsh : zsh (n + 1) = (kd, N)) (hn : n + 1 ≤ zN) (hr : ∀ k, rf (n + 1) k = 0) {x : Int32} (hx : ¬ x < 0) (hN : x.toNatClampNeg = N) (hb : N * 4 ≤ 536870912) (hcs : cs + 1 ≤ mc) (hsl : sl + N ≤ ms) (dg : decode cc pc = .ok (.anewarray idx, 3)) {n1 cs1 sl1 : Nat} (en : n + 1 = n1) (ec : cs + 1 = cs1) (es : sl + N = sl1) (h : AG k g (WC g n1 rf I) cs1 sl1 nL (pc + 3) ls (vR n1 :: st)) : AG k g (WC g n rf I) cs sl nL pc ls (vI x :: st) := by
  subst en
  subst ec
  subst es
  intro H locs la hP hS hl
  subst hN
  obtain ⟨X, x1, x2, x3, B, x4⟩ := X
  have he : gad g (n + 1) = H.size := gad_n B (by omega) hn (by rw [hP.2]; omega)
  obtain ⟨t1, ht⟩ := zt_at (g := g) (i := n + 1) (by omega) hn (ty := .object C) (by rw [hsh]; exact hty)
  obtain ⟨kA9, comp9, -, -, -, hRA⟩ := (X.2.2.2.2.2.1.2 t1 _ ht).2
  refine W.anew X.1 X.2.1 X.2.2.2.1 (X.2.2.2.2.1 _ hw1) (va_AO.use (hw2 x4.2)) rfl dg rfl hx hb (Nat.le_trans hcs x1) (Nat.le_trans hsl x2) fun cA kA comp f1 f2 f3 f4 => ?_
  have hcA : cA = gac g (n + 1) := Option.some.inj (f1.symm.trans hRA)
  subst hcA
  generalize hH1 : H.push ({ cls := gac g (n + 1), slots := Array.replicate x.toNatClampNeg .null, vm := .none } : Cell) = H1
  have z1 : H1.size = H.size + 1 := by rw [← hH1, Array.size_push]
  have e1 : H1[H.size]? = some (arrV (gac g (n + 1)) x.toNatClampNeg (fun _ => .null)) := by rw [← hH1, Array.getElem?_push_size, ← arrV_new]
  have o1 : ∀ q : Nat, q < H.size → H1[q]? = H[q]? := fun q hq => by rw [← hH1, Array.getElem?_push, if_neg (Nat.ne_of_lt hq)]
  have h9 := h H1 locs la (WC_push B hn hP z1 o1 (by
    rw [zcF_r hsh hkd, show (fun k => if rf (n + 1) k = 0 then none else some (gad g (rf (n + 1) k))) = fun _ => (none : Option Nat) from funext fun k => by rw [if_pos (hr k)]]
    show H1[H.size]? = some (vp_cell _ _)
    rw [vp_cell_q]
    exact e1)) (vS_push hS z1 o1) hl
  rw [List.map_cons, show zc (gad g) (vR (n + 1)) = .ref (gad g (n + 1)) from zr_n _ (by omega), he] at h9
  exact h9
/-- behind a store into cell a -/
theorem WC_set (B : zB g) (hn : n ≤ zN) {rf' : Nat → Nat → Nat} {I' : zI} {c : va_E} {H H1 : Heap} (hP : WC g n rf I H) (h1 : 1 ≤ a) (han : a ≤ n) (hj : ∀ j, j ≠ a → zcF g rf' I' j = zcF g rf I j) (hc : c = zcF g rf' I' a) (hat : va_at (gD g) vwCl (gad g a, c) H1) (z : H1.size = H.size) (oq : ∀ q : Nat, q ≠ gad g a → H1[q]? = H[q]?) : WC g n rf' I' H1 := by
  refine ⟨?_, by rw [z]; exact hP.2⟩
  rw [← zwF_set (g := g) (n := n) (rf := rf) (I := I) h1 han hj hc]
  exact hP.1.set (zwF_D B hn) (zwF_at h1 han) hat oq
theorem ac_put0 (X : zXc k g cc own nL rt d mc ms) (F : zF own idx ci kf N C T t0) {v : Value} (hf : (T kf).2.2.2 = false ∨ ((T kf).2.2.2 = true ∧ rt = none ∧ (T kf).1 = own)) (hnar : narrow (t0 kf) v = v) (hfit : fits (t0 kf) v = true) (ha : zsh a = (10 + ci, N)) (hn : n ≤ zN) (han : a ≤ n) (dg : decode cc pc = .ok (.putfield idx, 3)) {rf' : Nat → Nat → Nat} {I' : zI} (hj : ∀ j, j ≠ a → zcF g rf' I' j = zcF g rf I j)
    (hset : ((List.range N).map (fun k => if zfr ci k then zr (gad g) (rf a k) else .int (I a k))).set kf v = (List.range N).map (fun k => if zfr ci k then zr (gad g) (rf' a k) else .int (I' a k))) {H : Heap} {locs : List Loc} {la : Array Slot} {rest : List Value} (hP : WC g n rf I H) (hS : va_S (gA g) (ks k).heap H locs)
    (h : ∀ (H1 : Heap) (locs1 : List Loc), WC g n rf' I' H1 → va_S (gA g) (ks k).heap H1 locs1 → zWc k cs sl H1 locs1 (F0 (km k) (pc + 3) la rest)) : zWc k cs sl H locs (F0 (km k) pc la (v :: .ref (gad g a) :: rest)) := by
  obtain ⟨X, x1, x2, x3, B, x4⟩ := X
  obtain ⟨⟨hc, hw, ht, hnm⟩, hC, hlk, hk⟩ := F
  have ho := zok (i := a) (by rw [ha]; show 10 + ci ≠ 9; omega)
  have he := zwF_at (g := g) (rf := rf) (I := I) ho.1 han
  rw [zcF_obj ha] at he
  have hA : gA g (gad g a) := (zwF_D (rf := rf) (I := I) B hn).2 (a - 1) _ he
  have hap := va_apart (own := own) X.2.2.2.2.1 hw t0 ht hnm X.2.2.2.2.2.1 hc
  obtain ⟨r, g1, cell, q1, q2, q3, q4⟩ := hP.1 (a - 1) _ he
  have hr : r = (C, T, N) := Option.some.inj (g1.symm.trans hc)
  subst hr
  obtain ⟨hK, hfc, kC, hkC, hkind⟩ := X.2.2.2.2.2.1.1 ci _ hc
  obtain ⟨cf, kf9, fi, f, hi, hsl⟩ := hK kf hk
  have hlay := X.2.2.2.2.1 _ (hw _ (u_in_lay hk))
  have hst := (u_facts hfc hkC (u_lays X.2.2.2.2.1 hw hk) hi).1
  have hend : ∀ H' : Heap, H'[gad g a]? = some (cell.setSlot ((gD g).2 ci kf) v) → H'.size = H.size → (∀ q : Nat, q ≠ gad g a → H'[q]? = H[q]?) → zWc k cs sl H' (locs ++ [⟨gad g a, (gD g).2 ci kf⟩]) (F0 (km k) (pc + 3) la rest) := fun H' e1 e2 e3 =>
    h H' _ (WC_set B hn hP ho.1 han hj (c := .inr (ci, ((List.range N).map (fun k => if zfr ci k then zr (gad g) (rf a k) else .int (I a k))).set kf v)) (by rw [zcF_obj ha, hset]) ⟨_, hc, t_OB.to (V := updV (vp_V ((List.range N).map (fun k => if zfr ci k then zr (gad g) (rf a k) else .int (I a k)))) kf v) ⟨_, e1, q2, q3, t_set q4 hap hk v⟩ (fun j _ => vp_updV_set (by rw [List.length_map, List.length_range]; exact hk) v j)⟩ e2 e3) (hS.put e2 e3 hA)
  have hlk9 : (Cond.fieldLink own idx C (T kf).2.1 (T kf).2.2.1).before k.2.2.2.2.2.2.1 (ks k) = true := X.2.2.2.2.1 _ hlk
  have hi9 := hi
  rw [hC] at hi9
  rcases hf with hfin | ⟨hfin, hrt, hdecl⟩
  · unfold u_lay at hlay
    rw [if_neg (by rw [hfin]; decide)] at hlay
    have h6 := u_store hfc hkC hkind hlay hi (ht kf hk) hnar hfit
    refine W.putK X.1 X.2.1 (f := f) ⟨X.2.2.2.1, hlk9, ⟨_, _, _, hi9⟩, hst⟩ (by rw [q2]; exact h6) q1 q3 (by rw [hsl]; exact k2_hasslot (q4 kf hk)) rfl rfl dg fun H' e1 e2 e3 => ?_
    rw [hsl] at e1 ⊢
    exact hend H' e1 e2 e3
  · unfold u_lay at hlay
    rw [if_pos hfin] at hlay
    have hcf : (km k).cls = cf := by
      obtain ⟨_, _, c', _, _, _, -, -, hf', -, -, -, hown2, -⟩ := Cond.laysFinal_spec hlay
      have e1 : c' = cf := by have := hi.symm.trans hf'; simp at this; exact this.1.symm
      rw [hdecl] at hown2
      rw [← e1]; exact Option.some.inj (X.2.2.2.1.symm.trans hown2)
    have h6 := u_fits hfc hkC hkind (Or.inr hlay) hi (ht kf hk) hnar hfit
    refine W.putFinK X.1 X.2.1 X.2.2.2.1 hlk9 hi9 hst hcf (x3 hrt) (by rw [q2]; exact h6) q1 q3 (by rw [hsl]; exact k2_hasslot (q4 kf hk)) rfl rfl dg fun H' e1 e2 e3 => ?_
    rw [hsl] at e1 ⊢
    exact hend H' e1 e2 e3
theorem ac_putF (X : zXc k g cc own nL none d mc ms) (F : zF own idx ci kf N C T t0) (hr : zfr ci kf = true) (hfin : (T kf).2.2.2 = true) (hdecl : (T kf).1 = own) {r : Nat} (hr0 : r ≠ 0) (hnar : ∀ q : Nat, narrow (t0 kf) (.ref q) = .ref q) (hfit : ∀ q : Nat, fits (t0 kf) (.ref q) = true) (ha : zsh a = (10 + ci, N)) (hn : n ≤ zN) (han : a ≤ n) (dg : decode cc pc = .ok (.putfield idx, 3)) {rf' : Nat → Nat → Nat} (hrf : rf' = zs rf a kf r) (h : AG k g (WC g n rf' I) cs sl nL (pc + 3) ls st) : AG k g (WC g n rf I) cs sl nL pc ls (vR r :: vR a :: st) := by
  subst hrf
  intro H locs la hP hS hl
  have ho := zok (i := a) (by rw [ha]; show 10 + ci ≠ 9; omega)
  have hz : zc (gad g) (vR a) = .ref (gad g a) := zr_n _ (by omega)
  have hz2 : zc (gad g) (vR r) = .ref (gad g r) := zr_n _ hr0
  have hz3 : zr (gad g) r = .ref (gad g r) := zr_n _ hr0
  rw [List.map_cons, List.map_cons, hz, hz2]
  exact ac_put0 X F (Or.inr ⟨hfin, rfl, hdecl⟩) (hnar _) (hfit _) ha hn han dg (fun j hj => zcF_neR hj) (by rw [← hz3]; exact zsetF_R hr) hP hS (fun H1 locs1 h1 h2 => h H1 locs1 la h1 h2 hl)
theorem ac_putI (X : zXc k g cc own nL rt d mc ms) (F : zF own idx ci kf N C T t0) (hr : zfr ci kf = false) (hfin : (T kf).2.2.2 = false) {x : Int32} (hnar : narrow (t0 kf) (.int x) = .int x) (hfit : fits (t0 kf) (.int x) = true) (ha : zsh a = (10 + ci, N)) (hn : n ≤ zN) (han : a ≤ n) (dg : decode cc pc = .ok (.putfield idx, 3)) {I' : zI} (hI : I' = zs I a kf x) (h : AG k g (WC g n rf I') cs sl nL (pc + 3) ls st) : AG k g (WC g n rf I) cs sl nL pc ls (vI x :: vR a :: st) := by
  subst hI
  intro H locs la hP hS hl
  have ho := zok (i := a) (by rw [ha]; show 10 + ci ≠ 9; omega)
  have hz : zc (gad g) (vR a) = .ref (gad g a) := zr_n _ (by omega)
  rw [List.map_cons, List.map_cons, hz]
  exact ac_put0 X F (Or.inl hfin) hnar hfit ha hn han dg (fun j hj => zcF_neI hj) (zsetF_I hr) hP hS (fun H1 locs1 h1 h2 => h H1 locs1 la h1 h2 hl)
theorem ac_getR (X : zXc k g cc own nL rt d mc ms) (F : zF own idx ci kf N C T t0) (hr : zfr ci kf = true) {r : Nat} (ha : zsh a = (10 + ci, N)) (han : a ≤ n) (hv : rf a kf = r) (dg : decode cc pc = .ok (.getfield idx, 3)) (h : AG k g (WC g n rf I) cs sl nL (pc + 3) ls (vR r :: st)) : AG k g (WC g n rf I) cs sl nL pc ls (vR a :: st) := by
  intro H locs la hP hS hl
  have h9 := h H locs la hP hS hl
  obtain ⟨X, x1, x2, x3, B, x4⟩ := X
  obtain ⟨⟨hc, hw, -, -⟩, hC, hlk, hk⟩ := F
  have ho := zok (i := a) (by rw [ha]; show 10 + ci ≠ 9; omega)
  have he := zwF_at (g := g) (rf := rf) (I := I) ho.1 han
  rw [zcF_obj ha] at he
  have hz : zc (gad g) (vR a) = .ref (gad g a) := zr_n _ (by omega)
  rw [List.map_cons, hz]
  exact va_get X.1 X.2.1 X.2.2.2.2.1 hw X.2.2.2.1 X.2.2.2.2.2.1 hP.1 (a - 1) he hc kf hk (X.2.2.2.2.1 _ hlk) (fun _ h => by rw [hC] at h; exact h) (by rw [List.getElem?_map, List.getElem?_range hk, Option.map_some, hr, hv]; rfl) dg h9
theorem ac_alenq (X : zXc k g cc own nL rt d mc ms) {kd : Nat} {v : Int32} (hk : kd = 2 ∨ kd = 3) (ha : zsh a = (kd, N)) (hn : n ≤ zN) (han : a ≤ n) (hv : Int32.ofNat N = v) (dg : decode cc pc = .ok (.arraylength, 1)) (h : AG k g (WC g n rf I) cs sl nL (pc + 1) ls (vI v :: st)) : AG k g (WC g n rf I) cs sl nL pc ls (vR a :: st) := by
  intro H locs la hP hS hl
  have h9 := h H locs la hP hS hl
  obtain ⟨X, x1, x2, x3, B, x4⟩ := X
  have ho := zok (i := a) (by rw [ha]; show kd ≠ 9; omega)
  have he := zwF_at (g := g) (rf := rf) (I := I) ho.1 han
  rw [zcF_r ha hk] at he
  have hz : zc (gad g) (vR a) = .ref (gad g a) := zr_n _ (by omega)
  rw [List.map_cons, hz]
  obtain ⟨ty, hty⟩ : ∃ ty, zty kd = some ty := by rcases hk with rfl | rfl <;> exact ⟨_, rfl⟩
  obtain ⟨t1, ht⟩ := zt_at (g := g) ho.1 ho.2 (ty := ty) (by rw [ha]; exact hty)
  exact va_alen X.1 X.2.1 X.2.2.2.2.2.1 hP.1 (a - 1) t1 he ht hv dg h9
theorem ac_iast (X : zXc k g cc own nL rt d mc ms) {i x : Int32} {j : Nat} (ha : zsh a = (0, N)) (hn : n ≤ zN) (han : a ≤ n) (hi : vp_in i N) (hj : i.toNatClampNeg = j) (dg : decode cc pc = .ok (.iastore, 1)) {I' : zI} (hI : I' = zs I a j x) (h : AG k g (WC g n rf I') cs sl nL (pc + 1) ls st) : AG k g (WC g n rf I) cs sl nL pc ls (vI x :: vI i :: vR a :: st) := by
  subst hI
  subst hj
  intro H locs la hP hS hl
  obtain ⟨X, x1, x2, x3, B, x4⟩ := X
  have ho := zok (i := a) (by rw [ha]; exact fun h => nomatch h)
  have he := zwF_at (g := g) (rf := rf) (I := I) ho.1 han
  rw [zcF_i ha] at he
  have hA : gA g (gad g a) := (zwF_D (rf := rf) (I := I) B hn).2 (a - 1) _ he
  have hz : zc (gad g) (vR a) = .ref (gad g a) := zr_n _ (by omega)
  rw [List.map_cons, List.map_cons, List.map_cons, hz]
  obtain ⟨t1, ht⟩ := zt_at (g := g) ho.1 ho.2 (ty := .int) (by rw [ha]; rfl)
  refine W.iast X.1 X.2.1 (hP.1 (a - 1) _ he) ((X.2.2.2.2.2.1.2 t1 _ ht).1 N (fun j => .int (I a j))) (fun q => by cases q) (by show ¬ (i < 0 ∨ (arrV _ _ _).slots.size ≤ _); rw [arrV_size]; exact hi) rfl rfl dg fun H1 e z oq => ?_
  refine h H1 _ la (WC_set B hn hP ho.1 han (fun j hj => zcF_neI hj) (c := .inl (gac g a, N, .inl (upd (I a) i.toNatClampNeg x))) (by rw [zcF_i ha, zs_upd]) ?_ z oq) (hS.put z oq hA) hl
  show H1[gad g a]? = some (vp_cell _ _)
  rw [e]
  rw [vp_cell_i, vp_cell_i, arrV_store]
  congr 2
  funext q
  by_cases hq : q = i.toNatClampNeg
  · subst hq
    simp [updV, upd]
  · simp [updV, upd, hq]
theorem ac_aast (X : zXc k g cc own nL rt d mc ms) {kd r N2 : Nat} {i : Int32} {j : Nat} (hkd : kd = 2 ∨ kd = 3) (hty : zty kd = some (.object C)) (hcl : zCl ci N2 C T t0) (ha : zsh a = (kd, N)) (hn : n ≤ zN) (han : a ≤ n) (hrr : zsh r = (10 + ci, N2)) (hrn : r ≤ n) (hi : vp_in i N) (hj : i.toNatClampNeg = j) (dg : decode cc pc = .ok (.aastore, 1)) {rf' : Nat → Nat → Nat} (hrf : rf' = zs rf a j r) (h : AG k g (WC g n rf' I) cs sl nL (pc + 1) ls st) : AG k g (WC g n rf I) cs sl nL pc ls (vR r :: vI i :: vR a :: st) := by
  subst hrf
  subst hj
  intro H locs la hP hS hl
  obtain ⟨X, x1, x2, x3, B, x4⟩ := X
  have ho := zok (i := a) (by rw [ha]; show kd ≠ 9; omega)
  have hor := zok (i := r) (by rw [hrr]; show 10 + ci ≠ 9; omega)
  have he := zwF_at (g := g) (rf := rf) (I := I) ho.1 han
  rw [zcF_r ha hkd] at he
  have her := zwF_at (g := g) (rf := rf) (I := I) hor.1 hrn
  rw [zcF_obj hrr] at her
  have hA : gA g (gad g a) := (zwF_D (rf := rf) (I := I) B hn).2 (a - 1) _ he
  have hz : zc (gad g) (vR a) = .ref (gad g a) := zr_n _ (by omega)
  have hzr : zc (gad g) (vR r) = .ref (gad g r) := zr_n _ (by omega)
  rw [List.map_cons, List.map_cons, List.map_cons, hz, hzr]
  obtain ⟨t1, ht⟩ := zt_at (g := g) ho.1 ho.2 (ty := .object C) (by rw [ha]; exact hty)
  have hlt : i.toNatClampNeg < N := Nat.not_le.mp fun q => hi (Or.inr q)
  have h0 : ¬ i < 0 := fun q => hi (Or.inl q)
  obtain ⟨r', hr', cellV, g1, g2, g3, -⟩ := hP.1 (r - 1) _ her
  have hcls := (X.2.2.2.2.2.1.1 ci _ hcl.1).2
  obtain ⟨kA, comp, k1, k2, k3, -⟩ := (X.2.2.2.2.2.1.2 t1 _ ht).2
  have hcomp : comp = (gD g).1 ci := Option.some.inj (k3.symm.trans hcls.1)
  subst hcomp
  obtain ⟨kC, hkC, -⟩ := hcls.2
  refine W.aast X.1 X.2.1 (hP.1 (a - 1) _ he) (fun q h => by cases h) (fun h => by cases h) k1 k2 rfl hkC ⟨h0, by show _ < (arrV _ _ _).slots.size; rw [arrV_size]; exact hlt⟩ g1 (fun q h => by rw [g3] at h; cases h) (by rw [g2]; exact hkC) (by rw [g2]; exact va_assign hcls) rfl rfl dg fun H1 e z oq => ?_
  refine h H1 _ la (WC_set B hn hP ho.1 han (fun j hj => zcF_neR hj) rfl ?_ z oq) (hS.put z oq hA) hl
  rw [zcF_r ha hkd]
  show H1[gad g a]? = some (vp_cell _ _)
  rw [e]
  rw [vp_cell_q, vp_cell_q, arrV_store]
  congr 2
  funext q
  by_cases hq : q = i.toNatClampNeg
  · subst hq
    simp only [updV, if_pos, zs_same]
    rw [if_neg (show ¬ r = 0 by omega)]
    rfl
  · simp only [updV, if_neg hq, zs_ne (show ¬ (a = a ∧ q = i.toNatClampNeg) from fun h => hq h.2)]
theorem ac_objinit (X : zXc k g cc own nL rt d mc ms) {r : Nat} (hd : 1 ≤ d) (hw1 : Cond.methodLink own idx Lib.objectInit ∈ zT) (hw2 : Cond.instanceMethod Lib.objectInit ∈ zT) (hw3 : Cond.code Lib.objectInit ⟨#[0xb1]⟩ 1 none ∈ zT) (hr : r ≠ 0) (hs : st.length ≤ 4) (dg : decode cc pc = .ok (.invokespecial idx, 3)) (h : AG k g (WC g n rf I) cs sl nL (pc + 3) ls st) : AG k g (WC g n rf I) cs sl nL pc ls (vR r :: st) := by
  intro H locs la hP hS hl
  have h9 := h H locs la hP hS hl
  obtain ⟨X, x1, x2, x3, B, x4⟩ := X
  have hz : zc (gad g) (vR r) = .ref (gad g r) := zr_n _ hr
  rw [List.map_cons, hz]
  refine W.objInit X.1 X.2.1 X.2.2.2.1 (X.2.2.2.2.1 _ hw1) (X.2.2.2.2.1 _ hw2) (X.2.2.2.2.1 _ hw3) rfl (hl.1.trans X.2.2.1.symm) rfl dg (Nat.le_trans hd X.2.2.2.2.2.2.2.2.2.1) ?_ h9
  have h1 := zrest (gad g) hs
  have h2 := X.2.2.2.2.2.2.2.2.2.2.1
  show 2 * 0 + _ + 12 ≤ _
  omega
theorem zcblind {as : List zv} : FrameBlind (va_Pc (as.map (zc (gad g))) (fun U => WdC g n rf I U U.heap)) := fun a U gf mk q => by
  obtain ⟨q0, qP, qB, qn, qK, qS, qA⟩ := q
  exact ⟨q0, qP, qB, qn, va_K.moved (u := U) (U := U.calling gf mk a) (Vm.Alike.refl U.vm) qK, zSt.blind rfl qS, qA.moved (Vm.Alike.refl U.vm)⟩
theorem zWdC (X : zXc k g cc own nL rt d mc ms) (hn : n ≤ zN) {H : Heap} {locs : List Loc} (hP : WC g n rf I H) (hS : va_S (gA g) (ks k).heap H locs) {U : State} (ht : U.heap = H) (hW : (ks k).WarmedH U.vm) : WdC g n rf I U U.heap := by
  rw [ht]
  exact ⟨hP, X.2.2.2.2.1, hn, va_K.moved hW.alike X.1.2.2.2.2.2.1, zSt.go hW hS.2.1 X.1.2.2.2.2.2.2.1, X.2.2.2.2.2.2.moved hW.alike⟩
theorem ac_ret (X : zXc k g cc own nL none d mc ms) (E : zEc k g mc ms n rf I) (hn : n ≤ zN) (dg : decode cc pc = .ok (.return_, 1)) : AG k g (WC g n rf I) mc ms nL pc ls [] := by
  intro H locs la hP hS hl
  have X9 := X
  obtain ⟨X, x1, x2, x3, B, x4⟩ := X
  unfold zWc
  rw [show k.2.2.2.2.2.2.2.2.2.2.1 = _ from E]
  exact W.vret X.1 X.2.1 (by rw [X.2.2.2.2.2.2.2.2.1]) (fun t ht hW => ⟨⟨rfl, zWdC X9 hn hP hS ht hW⟩, hS.F ht⟩) hS.2.2 dg X.2.2.2.2.2.2.2.1
theorem ac_entry {l : Launch} {M : zM} {as : List zv} {n' : Nat} {rf' : Nat → Nat → Nat} {I' : zI} (hy : plainName M.1.cls = true) (hlen : zlen as ≤ M.2.2.1) (hnm : M.1.name = "<init>") (hrt : M.2.2.2 = none) (h : ∀ k : zK, kl k = l → n ≤ zN → zXc k g M.2.1 M.1.cls M.2.2.1 none d mc ms → zEc k g mc ms n' rf' I' → AG k g (WC g n rf I) 0 0 M.2.2.1 0 (zargs 0 as) []) : CallC l g d mc ms M as n rf I n' rf' I' := by
  unfold CallC
  rw [hrt]
  refine Met.ofW (cc := M.2.1) (maxL := M.2.2.1) (ret := none) hy rfl ?_
  intro p e s m args below meth c s₁ B hml hv
  obtain ⟨rfl, hP, hB, hn, hK, hSt, hAO⟩ := hv
  have hts := atoms_spec (ws := Cond.code M.1 M.2.1 M.2.2.1 none :: zT) B.pre
  have X : zX (p, l, e, (headSpec (Cond.code M.1 M.2.1 M.2.2.1 none :: zT) (zRc d mc ms)).room, s, m, (as.map (zc (gad g))).toArray, below, meth, c, MQ below (zQc g n' rf' I') (as.map (zc (gad g))).toArray s mc ms (gA g), 0, 0) g M.2.1 M.1.cls M.2.2.1 none d :=
    ⟨B.exec, B.bytes, hml, findClass_of_methodNamed B.named, fun w hw => hts w (List.mem_cons_of_mem _ hw), hK, hSt, B.notSynchronized, B.returns, Nat.le_refl _, Nat.le_refl _, Nat.zero_le _, Nat.zero_le _⟩
  have hl := lv_entry (as.map (zc (gad g))) (n := M.2.2.1) (by rw [zlen_eq]; exact hlen)
  rw [zargs_eq] at hl
  rw [lg_entry_eq]
  have hin : meth.name = "<init>" := by rw [(name_of_methodNamed B.named B.method).1]; exact hnm
  exact h _ rfl hn ⟨X, Nat.le_refl _, Nat.le_refl _, fun _ => hin, hB, trivial, hAO⟩ rfl s.heap [] _ hP va_S.rf hl
def zMI (M : zM) (np : Nat) : Prop := zMd M np ∧ Cond.instanceMethod M.1 ∈ zT ∧ M.1.name = "<init>" ∧ M.2.2.2 = none
theorem ac_call (X : zXc k g cc own nL rt d mc ms) {d' mc' ms' np recv n' : Nat} {rf' : Nat → Nat → Nat} {I' : zI} {M : zM} {as st0 : List zv} (hM : zMI M np) (hw : Cond.methodLink own idx M.1 ∈ zT) (hC : CallC (kl k) g d' mc' ms' M (vR recv :: as) n rf I n' rf' I') (hr0 : recv ≠ 0) (hn : n ≤ zN) (hst : st0 = as.reverse ++ vR recv :: st) (hnp : as.length = np) (hd : d' + 1 ≤ d) (hs : st.length ≤ 4) (hcs : cs + mc' ≤ mc) (hsl : sl + ms' ≤ ms) {cs1 sl1 : Nat} (ec : cs + mc' = cs1) (es : sl + ms' = sl1) (dg : decode cc pc = .ok (.invokespecial idx, 3))
    (kk : AG k g (WC g n' rf' I') cs1 sl1 nL (pc + 3) ls st) : AG k g (WC g n rf I) cs sl nL pc ls st0 := by
  subst ec
  subst es
  intro H locs la hP hS hl
  have X9 := X
  obtain ⟨X, x1, x2, x3, B, x4⟩ := X
  obtain ⟨⟨hini, hcode, hdesc, hmx⟩, hin, hnm, hrt⟩ := hM
  have hz : zc (gad g) (vR recv) = .ref (gad g recv) := zr_n _ hr0
  have hG : GoodIn zT (Cond.code M.1 M.2.1 M.2.2.1 M.2.2.2 :: zT) := by
    intro w hw9
    rcases List.mem_cons.mp hw9 with rfl | h
    · exact zgood hcode
    · exact zgood h
  have hr : va_Run k.1 (kl k) k.2.2.1 k.2.2.2.1 (ks k) (km k) k.2.2.2.2.2.2.1 k.2.2.2.2.2.2.2.1 k.2.2.2.2.2.2.2.2.1 k.2.2.2.2.2.2.2.2.2.1 H locs cs sl mc' ms' (F0 (km k) pc la (st0.map (zc (gad g)))) (st.map (zc (gad g))) (zQc g n' rf' I' (Value.ref (gad g recv) :: as.map (zc (gad g))).toArray) (gA g) := by
    refine va_runI (b := gad g recv) (As := as.map (zc (gad g))) (rest := st.map (zc (gad g))) (n := np) ⟨X.1, X.2.1, X.2.2.1, X.2.2.2.1, X.2.2.2.2.1⟩ hC (cwI np X.2.2.2.2.1 hG (by rw [hrt]) rfl rfl (X.2.2.2.2.1 _ hini) (X.2.2.2.2.1 _ hw) (X.2.2.2.2.1 _ hin) hnm hdesc ⟨?_, ?_⟩) ⟨zcblind, fun U hU hW => ⟨?_, zWdC X9 hn hP hS hU hW⟩⟩ rfl (by rw [List.length_map]; exact hnp) hl.1 ?_ (lv_room (zrest (gad g) hs)) dg ⟨Nat.le_trans hcs x1, Nat.le_trans hsl x2⟩
    · exact Nat.le_trans hd X.2.2.2.2.2.2.2.2.2.1
    · have := X.2.2.2.2.2.2.2.2.2.2.1
      show 8 + (M.2.2.1 + 11) + 36 * d' ≤ _
      omega
    · rw [List.map_cons, hz]
    · show st0.map (zc (gad g)) = _
      rw [hst, List.map_append, List.map_reverse, List.map_cons, hz]
  intro T hT X1
  obtain ⟨v, st₀, t, T', Lc, h0, X', hL, e1, e2, ⟨⟨hv, hWd⟩, hz9, hk⟩, hgo⟩ := hr T hT X1
  have hv' : v = none := by injection hv
  subst hv'
  rw [h0] at hz9 hk
  have hS' : va_S (gA g) (ks k).heap T'.heap (locs ++ Lc) := ⟨Nat.le_trans hS.1 (by rw [e1]; exact hz9), fun q h1 h2 => by rw [e1, hk q (Nat.lt_of_lt_of_le h1 hS.1) h2]; exact hS.2.1 q h1 h2, fun q hq => by
      rcases List.mem_append.mp hq with h | h
      · exact hS.2.2 q h
      · exact hL q h⟩
  obtain ⟨t2, a1, b1⟩ := kk T'.heap (locs ++ Lc) la (by rw [e1]; exact hWd.1) hS' hl T' rfl X'
  exact ⟨t2, hgo t2 a1, b1⟩
end ZCO
theorem vin_c {i : Int32} {n : Nat} (h : decide (¬ (i < 0 ∨ n ≤ i.toNatClampNeg)) = true) : vp_in i n := fun c => of_decide_eq_true h c
def wrF {α : Type} (z : α) (ws : List (Nat × Nat × α)) (t : Nat) : Nat → Nat → α := (ws.take t).foldl (fun M q => zs M q.1 q.2.1 q.2.2) (fun _ _ => z)
theorem wrF_succ {α : Type} {z : α} {ws : List (Nat × Nat × α)} {t a k : Nat} {v : α} (h : ws[t]? = some (a, k, v)) : wrF z ws (t + 1) = zs (wrF z ws t) a k v := by
  unfold wrF
  rw [List.take_add_one, h, List.foldl_append]
  rfl
theorem wr_fold {α : Type} {z : α} {ws : List (Nat × Nat × α)} {n : Nat} (h : ∀ q ∈ ws, q.1 ≠ n) (M : Nat → Nat → α) (hM : ∀ k, M n k = z) : ∀ k, ws.foldl (fun M q => zs M q.1 q.2.1 q.2.2) M n k = z := by
  induction ws generalizing M with
  | nil => exact hM
  | cons q ws ih =>
    refine ih (fun r hr => h r (List.mem_cons_of_mem _ hr)) _ (fun k => ?_)
    show zs M q.1 q.2.1 q.2.2 n k = z
    rw [zs_ne (fun e => h q List.mem_cons_self e.1.symm)]
    exact hM k
theorem wrF_fresh {α : Type} {z : α} {ws : List (Nat × Nat × α)} {t n : Nat} (h : ((ws.take t).all fun q => !(q.1 == n)) = true) : ∀ k, wrF z ws t n k = z := by
  refine wr_fold (fun q hq e => ?_) _ (fun _ => rfl)
  have := List.all_eq_true.mp h q hq
  rw [e] at this
  simp at this
