/-! THE ABSTRACT MEMORY. A cell is a number; ints and longs lie in functions of (cell, place); the shape and the references are fixed (zG). -/
abbrev zv : Type := Int32 ⊕ Int64 ⊕ Nat
abbrev vI (x : Int32) : zv := .inl x
abbrev vL (x : Int64) : zv := .inr (.inl x)
abbrev vR (r : Nat) : zv := .inr (.inr r)
abbrev zI : Type := Nat → Nat → Int32
abbrev zL : Type := Nat → Nat → Int64
def zs {α : Type} (M : Nat → Nat → α) (c k : Nat) (v : α) : Nat → Nat → α := fun a j => if a = c ∧ j = k then v else M a j
def zr (ad : Nat → Nat) (r : Nat) : Value := if r = 0 then .null else .ref (ad r)
def zc (ad : Nat → Nat) : zv → Value
  | .inl x => .int x
  | .inr (.inl x) => .long x
  | .inr (.inr r) => zr ad r
def z2 : zv → Bool
  | .inr (.inl _) => true
  | _ => false
/-- classes and slots, the size of the heap where the object's cells begin, addresses, classes of arrays; the script: its length, its ints; is the law's own row there? -/
abbrev zG : Type := va_G × Nat × (Nat → Nat) × (Nat → ClassId) × Nat × (Nat → Int32) × Bool
def gD (g : zG) : va_G := g.1
def gz (g : zG) : Nat := g.2.1
def gad (g : zG) : Nat → Nat := g.2.2.1
def gac (g : zG) : Nat → ClassId := g.2.2.2.1
def gn (g : zG) : Nat := g.2.2.2.2.1
def gxs (g : zG) : Nat → Int32 := g.2.2.2.2.2.1
def gb (g : zG) : Bool := g.2.2.2.2.2.2
def gA (g : zG) : Nat → Prop := fun q => gz g ≤ q
/-- the layout: how many cells, their shapes (kind, length), the references in them -/
def zshL : List (Nat × Nat) := [(9, 0), (16, 9), (14, 10), (0, 8), (2, 8), (11, 6), (0, 16), (11, 6), (0, 16), (11, 6), (0, 16), (11, 6), (0, 16), (11, 6), (0, 16), (11, 6), (0, 16), (11, 6), (0, 16), (11, 6), (0, 16), (14, 10), (0, 8), (2, 8), (11, 6), (0, 16), (11, 6), (0, 16), (11, 6), (0, 16), (11, 6), (0, 16), (11, 6), (0, 16), (11, 6), (0, 16), (11, 6), (0, 16), (11, 6), (0, 16), (14, 10), (0, 8), (2, 8), (11, 6), (0, 16), (11, 6), (0, 16), (11, 6), (0, 16), (11, 6), (0, 16), (11, 6), (0, 16), (11, 6), (0, 16), (11, 6), (0, 16), (11, 6), (0, 16), (15, 7), (11, 6), (0, 16), (0, 25), (0, 8), (0, 8), (3, 8), (13, 5), (1, 160), (13, 5), (1, 160), (13, 5), (1, 160), (13, 5), (1, 160), (13, 5), (1, 160), (13, 5), (1, 160), (13, 5), (1, 160), (13, 5), (1, 160), (12, 3), (0, 3), (10, 5), (0, 20), (0, 8)]
def zrfL : List (List Nat) := [[], [2, 21, 40, 59, 65, 82, 84, 86, 0], [3, 4, 0, 0, 0, 0, 0, 0, 0, 0], [], [5, 7, 9, 11, 13, 15, 17, 19], [0, 0, 0, 0, 0, 6], [], [0, 0, 0, 0, 0, 8], [], [0, 0, 0, 0, 0, 10], [], [0, 0, 0, 0, 0, 12], [], [0, 0, 0, 0, 0, 14], [], [0, 0, 0, 0, 0, 16], [], [0, 0, 0, 0, 0, 18], [], [0, 0, 0, 0, 0, 20], [], [22, 23, 0, 0, 0, 0, 0, 0, 0, 0], [], [24, 26, 28, 30, 32, 34, 36, 38], [0, 0, 0, 0, 0, 25], [], [0, 0, 0, 0, 0, 27], [], [0, 0, 0, 0, 0, 29], [], [0, 0, 0, 0, 0, 31], [], [0, 0, 0, 0, 0, 33], [], [0, 0, 0, 0, 0, 35], [], [0, 0, 0, 0, 0, 37], [], [0, 0, 0, 0, 0, 39], [], [41, 42, 0, 0, 0, 0, 0, 0, 0, 0], [], [43, 45, 47, 49, 51, 53, 55, 57], [0, 0, 0, 0, 0, 44], [], [0, 0, 0, 0, 0, 46], [], [0, 0, 0, 0, 0, 48], [], [0, 0, 0, 0, 0, 50], [], [0, 0, 0, 0, 0, 52], [], [0, 0, 0, 0, 0, 54], [], [0, 0, 0, 0, 0, 56], [], [0, 0, 0, 0, 0, 58], [], [2, 60, 62, 63, 64, 0, 0], [0, 0, 0, 0, 0, 61], [], [], [], [], [66, 68, 70, 72, 74, 76, 78, 80], [67, 0, 0, 0, 0], [], [69, 0, 0, 0, 0], [], [71, 0, 0, 0, 0], [], [73, 0, 0, 0, 0], [], [75, 0, 0, 0, 0], [], [77, 0, 0, 0, 0], [], [79, 0, 0, 0, 0], [], [81, 0, 0, 0, 0], [], [83, 0, 0], [], [85, 0, 0, 0, 0], [], []]
def zN : Nat := 86
def zsh (i : Nat) : Nat × Nat := zshL.getD i (9, 0)
def zrf (i k : Nat) : Nat := (zrfL.getD i []).getD k 0
theorem zok {i : Nat} (h : (zsh i).1 ≠ 9) : 1 ≤ i ∧ i ≤ zN := by
  by_cases h0 : i = 0
  · subst h0; exact absurd rfl h
  · by_cases h1 : i ≤ zN
    · exact ⟨by omega, h1⟩
    · exfalso
      apply h
      have e : zsh i = (9, 0) := by
        unfold zsh
        rw [List.getD_eq_getElem?_getD, List.getElem?_eq_none (show zshL.length ≤ i from Nat.lt_of_not_le h1)]
        rfl
      rw [e]
def zfr (ci k : Nat) : Bool := (([[true, false, false, false, false], [false, false, false, false, false, true], [true, false, false], [true, false, false, false, false], [true, true, false, false, false, false, false, false, false, false], [true, true, true, true, true, false, false], [true, true, true, true, true, true, true, true, false]] : List (List Bool)).getD ci []).getD k false
/-- kinds: 0 int[], 1 long[], 2 Pane[], 3 Shelf[]; 5 a static int[], 6 a String, 7 its bytes, 8 the script, 9 nothing; 10 and more: an object -/
def zcell (g : zG) (I : zI) (L : zL) (i : Nat) : va_E :=
  if i = 87 then .inl (gac g 3, 37, .inl (I i))
  else if (zsh i).1 = 0 then .inl (gac g i, (zsh i).2, .inl (I i))
  else if (zsh i).1 = 1 then .inl (gac g i, (zsh i).2, .inr (.inl (L i)))
  else if (zsh i).1 < 10 then .inl (gac g i, (zsh i).2, .inr (.inr (.inr (.inr (fun k => if zrf i k = 0 then none else some (gad g (zrf i k)))))))
  else .inr ((zsh i).1 - 10, (List.range (zsh i).2).map (fun k => if zfr ((zsh i).1 - 10) k then zr (gad g) (zrf i k) else .int (I i k)))
def zwA (g : zG) (I : zI) (L : zL) : va_W := (List.range (zN)).map fun j => (gad g (j + 1), zcell g I L (j + 1))
def zwB (g : zG) (I : zI) (L : zL) : va_W := if gb g then [(gad g 87, zcell g I L 87)] else []
def zw (g : zG) (I : zI) (L : zL) : va_W := zwA g I L ++ zwB g I L
def zty (k : Nat) : Option FieldType := if k = 0 then some .int else if k = 1 then some .long else if k = 2 then some (.object RX1) else if k = 3 then some (.object RX3) else none
def zt (g : zG) : List (ClassId × FieldType) := (List.range (zN)).filterMap fun j => (zty (zsh (j + 1)).1).map fun ty => (gac g (j + 1), ty)
theorem zwA_len {g : zG} {I : zI} {L : zL} : (zwA g I L).length = zN := by simp [zwA]
theorem zwA_at {g : zG} {I : zI} {L : zL} {i : Nat} (h1 : 1 ≤ i) (h2 : i ≤ zN) : (zwA g I L)[i - 1]? = some (gad g i, zcell g I L i) := by
  unfold zwA
  rw [List.getElem?_map, List.getElem?_range (by omega)]
  have e : i - 1 + 1 = i := by omega
  simp only [Option.map_some, e]
theorem zw_at {g : zG} {I : zI} {L : zL} {i : Nat} (h1 : 1 ≤ i) (h2 : i ≤ zN) : (zw g I L)[i - 1]? = some (gad g i, zcell g I L i) := by
  unfold zw
  rw [List.getElem?_append_left (by rw [zwA_len]; omega)]
  exact zwA_at h1 h2
theorem zw_atB {g : zG} {I : zI} {L : zL} (hb : gb g = true) : (zw g I L)[zN]? = some (gad g 87, zcell g I L 87) := by
  unfold zw zwB
  rw [List.getElem?_append_right (by rw [zwA_len]; omega), zwA_len, hb, Nat.sub_self]
  rfl
theorem zwA_set {g : zG} {I I' : zI} {L L' : zL} {i : Nat} (h1 : 1 ≤ i) (h2 : i ≤ zN) (h : ∀ j, j ≠ i → zcell g I' L' j = zcell g I L j) {c : va_E} (hc : c = zcell g I' L' i) : (zwA g I L).set (i - 1) (gad g i, c) = zwA g I' L' := by
  apply List.ext_getElem?
  intro j
  rw [List.getElem?_set, zwA_len]
  by_cases e : i - 1 = j
  · rw [if_pos e, if_pos (by omega), hc, ← e, zwA_at h1 h2]
  · rw [if_neg e]
    by_cases hj : j < zN
    · have a := zwA_at (g := g) (I := I) (L := L) (i := j + 1) (by omega) (by omega)
      have b := zwA_at (g := g) (I := I') (L := L') (i := j + 1) (by omega) (by omega)
      simp only [Nat.add_sub_cancel] at a b
      rw [a, b, h (j + 1) (by omega)]
    · rw [List.getElem?_eq_none (by rw [zwA_len]; omega), List.getElem?_eq_none (by rw [zwA_len]; omega)]
theorem zw_set {g : zG} {I I' : zI} {L L' : zL} {i : Nat} (h1 : 1 ≤ i) (h2 : i ≤ zN) (h : ∀ j, j ≠ i → zcell g I' L' j = zcell g I L j) {c : va_E} (hc : c = zcell g I' L' i) : (zw g I L).set (i - 1) (gad g i, c) = zw g I' L' := by
  unfold zw
  rw [List.set_append_left _ _ (by rw [zwA_len]; omega), zwA_set h1 h2 h hc]
  congr 1
  unfold zwB
  rw [h 87 (by have : zN = 86 := rfl; omega)]
theorem zw_setB {g : zG} {I I' : zI} {L L' : zL} (hb : gb g = true) (h : ∀ j, j ≠ 87 → zcell g I' L' j = zcell g I L j) {c : va_E} (hc : c = zcell g I' L' 87) : (zw g I L).set zN (gad g 87, c) = zw g I' L' := by
  unfold zw
  rw [List.set_append_right _ _ (by rw [zwA_len]; exact Nat.le_refl _), zwA_len, Nat.sub_self]
  have e : zwA g I L = zwA g I' L' := by
    unfold zwA
    refine List.map_congr_left (fun j hj => ?_)
    have hj : j < zN := List.mem_range.mp hj
    have h86 : zN = 86 := rfl
    rw [h (j + 1) (by omega)]
  rw [e]
  congr 1
  unfold zwB
  rw [hb, hc]
  rfl
theorem zne87 {i : Nat} (h : (zsh i).1 ≠ 9) : i ≠ 87 := fun e => h (by rw [e]; rfl)
theorem zt_at {g : zG} {i : Nat} {ty : FieldType} (h1 : 1 ≤ i) (h2 : i ≤ zN) (hk : zty (zsh i).1 = some ty) : ∃ t0 : Nat, (zt g)[t0]? = some (gac g i, ty) := by
  have hm : (gac g i, ty) ∈ zt g := by
    unfold zt
    refine List.mem_filterMap.mpr ⟨i - 1, List.mem_range.mpr (by omega), ?_⟩
    have e : i - 1 + 1 = i := by omega
    rw [e, hk]
    rfl
  exact List.getElem?_of_mem hm
theorem zs_same {α : Type} {M : Nat → Nat → α} {c k : Nat} {v : α} : zs M c k v c k = v := by simp [zs]
theorem zs_ne {α : Type} {M : Nat → Nat → α} {c k : Nat} {v : α} {a j : Nat} (h : ¬ (a = c ∧ j = k)) : zs M c k v a j = M a j := by simp only [zs, if_neg h]
theorem zs_nec {α : Type} {M : Nat → Nat → α} {c k : Nat} {v : α} {a : Nat} (h : a ≠ c) : zs M c k v a = M a := by funext j; simp only [zs, h, false_and, if_false]
theorem zs_upd {M : zI} {c k : Nat} {v : Int32} : zs M c k v c = upd (M c) k v := by funext j; simp [zs, upd]
theorem zs_updL {M : zL} {c k : Nat} {v : Int64} : zs M c k v c = vp_updL (M c) k v := by funext j; simp [zs, vp_updL]
theorem zr_cat (ad : Nat → Nat) (r : Nat) : (zr ad r).category = 1 := by unfold zr; split <;> rfl
theorem zc_cat (ad : Nat → Nat) {v : zv} (h : z2 v = false) : (zc ad v).category = 1 := by
  rcases v with x | x | r
  · rfl
  · exact absurd h (by simp [z2])
  · exact zr_cat ad r
theorem zc_cat2 (ad : Nat → Nat) (v : zv) : ((zc ad v).category == 2) = z2 v := by
  rcases v with x | x | r
  · rfl
  · rfl
  · show ((zr ad r).category == 2) = false
    rw [zr_cat]
    rfl
theorem zr_0 (ad : Nat → Nat) : zr ad 0 = .null := rfl
theorem zr_n (ad : Nat → Nat) {r : Nat} (h : r ≠ 0) : zr ad r = .ref (ad r) := by simp [zr, h]
/-- the words that every method may use -/
def zT : List Cond := lw_tbl.filter goodWord
theorem zT_mem {w : Cond} (h : w ∈ lw_tbl) (hg : goodWord w = true) : w ∈ zT := List.mem_filter.mpr ⟨h, hg⟩
theorem zT_good {y : MethodName} {bytes : ByteArray} {maxL : Nat} {rt : Option FieldType} (h : Cond.code y bytes maxL rt ∈ zT) : GoodIn zT (Cond.code y bytes maxL rt :: zT) := by
  intro w hw
  have hm : w ∈ zT := by
    rcases List.mem_cons.mp hw with e | e
    · rw [e]; exact h
    · exact e
  exact ⟨hm, good_of_word (List.mem_filter.mp hm).2⟩
/-- static arrays: number, class, field, contents -/
def zsta : List (Nat × String × String × List Int32) := [(1001, RX1, "KIND_ABOVE", [-1, 0, 0, 2, 0, 1, 3])]
/-- what never changes: static arrays, the script -/
def zSt (g : zG) (U : State) (H : Heap) : Prop :=
  (∀ q ∈ zsta, va_Z q.2.1 q.2.2.1 "[I" (.ref (gad g q.1)) (gA g) U H ∧ va_T .int (gad g q.1) 7 (fun j => .int (q.2.2.2.getD j 0)) (gA g) U H) ∧
  va_T .int (gad g 3000) (gn g) (fun j => .int (gxs g j)) (gA g) U H ∧ gn g ≤ 260
theorem zSt.go {g : zG} {s U : State} {H H1 : Heap} (hW : s.WarmedH U.vm) (hq : ∀ a : Nat, a < H.size → ¬ gA g a → H1[a]? = H[a]?) (h : zSt g s H) : zSt g U H1 := by
  obtain ⟨h1, h2, h3⟩ := h
  have al := hW.alike
  exact ⟨fun q hm => ⟨((h1 q hm).1.moved al).kept hq, ((h1 q hm).2.moved al).kept hq⟩, (h2.moved al).kept hq, h3⟩
theorem zSt.blind {g : zG} {U V : State} {H : Heap} (hv : V.vm = U.vm) (h : zSt g U H) : zSt g V H := by
  obtain ⟨h1, h2, h3⟩ := h
  have al : U.vm.Alike V.vm := by rw [hv]; exact Vm.Alike.refl U.vm
  exact ⟨fun q hm => ⟨(h1 q hm).1.moved al, (h1 q hm).2.moved al⟩, h2.moved al, h3⟩
/-- the world -/
def Wd (g : zG) (I : zI) (L : zL) (U : State) (H : Heap) : Prop := va_P (gD g) vwCl (zw g I L) H ∧ va_D (gA g) (zw g I L) ∧ va_K (gD g) vwCl (zt g) U ∧ zSt g U H
/-- what a method's end is -/
def zQ (g : zG) (Q : Option zv → zI → zL → Prop) : Array Value → State → Outcome → State → Prop := fun _ st oc t =>
  (∃ (v : Option zv) (I : zI) (L : zL), oc = .returned (v.map (zc (gad g))) ∧ Q v I L ∧ Wd g I L t t.heap) ∧ va_F (gA g) st t
def zRm (d : Nat) : Room := { frames := d, cells := 0, slots := 0, locals := 36 * d }
/-- a method: its name, bytes, locals, what it returns -/
abbrev zM : Type := MethodName × ByteArray × Nat × Option FieldType
def zPc (g : zG) (as : List zv) (I : zI) (L : zL) : Array Value → State → Prop := va_Pc (as.map (zc (gad g))) (fun U => Wd g I L U U.heap)
/-- a call of M with these arguments, over this memory, at d levels of room, ends so that Q -/
def Call (l : Launch) (g : zG) (d : Nat) (M : zM) (as : List zv) (I : zI) (L : zL) (Q : Option zv → zI → zL → Prop) : Prop :=
  Met l M.1 (Cond.code M.1 M.2.1 M.2.2.1 M.2.2.2 :: zT) (zRm d) (zPc g as I L) (zQ g Q) 0 0 (gA g)
abbrev zi (Q : Int32 → zI → zL → Prop) : Option zv → zI → zL → Prop := fun v I L => ∃ r, v = some (vI r) ∧ Q r I L
abbrev zl (Q : Int64 → zI → zL → Prop) : Option zv → zI → zL → Prop := fun v I L => ∃ r, v = some (vL r) ∧ Q r I L
abbrev za (Q : Nat → zI → zL → Prop) : Option zv → zI → zL → Prop := fun v I L => ∃ r, v = some (vR r) ∧ Q r I L
abbrev zn (Q : zI → zL → Prop) : Option zv → zI → zL → Prop := fun v I L => v = none ∧ Q I L
/-- where a walk stands -/
abbrev zK : Type := Program × Launch × Env × Room × State × MethodId × Array Value × List Frame × Method × Code × (State → Prop) × Nat × Nat
abbrev zW (k : zK) (H : Heap) (locs : List Loc) (f : JFrame) : Prop := W k.1 k.2.1 k.2.2.1 k.2.2.2.1 k.2.2.2.2.1 k.2.2.2.2.2.1 k.2.2.2.2.2.2.1 k.2.2.2.2.2.2.2.1 k.2.2.2.2.2.2.2.2.1 k.2.2.2.2.2.2.2.2.2.1 H locs k.2.2.2.2.2.2.2.2.2.2.2.1 k.2.2.2.2.2.2.2.2.2.2.2.2 k.2.2.2.2.2.2.2.2.2.2.1 f
abbrev ks (k : zK) : State := k.2.2.2.2.1
abbrev km (k : zK) : MethodId := k.2.2.2.2.2.1
abbrev kl (k : zK) : Launch := k.2.1
def zX (k : zK) (g : zG) (cc : ByteArray) (own : String) (nL : Nat) (rt : Option FieldType) (d : Nat) : Prop :=
  k.1.tables.exec = Jvm.exec ∧ k.2.2.2.2.2.2.2.2.2.1.code = cc ∧ k.2.2.2.2.2.2.2.2.2.1.maxLocals = nL ∧ (ks k).vm.findClass own = some (km k).cls ∧ (∀ w ∈ zT, w.before k.2.2.2.2.2.2.1 (ks k) = true) ∧
  va_K (gD g) vwCl (zt g) (ks k) ∧ zSt g (ks k) (ks k).heap ∧ k.2.2.2.2.2.2.2.2.1.locks = false ∧ k.2.2.2.2.2.2.2.2.1.sig.returnType = rt ∧ d ≤ k.2.2.2.1.frames ∧ 36 * d ≤ k.2.2.2.1.locals ∧ k.2.2.2.2.2.2.2.2.2.2.2.1 ≤ k.2.2.2.1.cells ∧ k.2.2.2.2.2.2.2.2.2.2.2.2 ≤ k.2.2.2.1.slots
/-- the walk from here comes to its end -/
def AW (k : zK) (g : zG) (nL : Nat) (I : zI) (L : zL) (pc : Nat) (ls : List (Nat × zv)) (st : List zv) : Prop :=
  ∀ (H : Heap) (locs : List Loc) (la : Array Slot), va_P (gD g) vwCl (zw g I L) H → va_D (gA g) (zw g I L) → va_S (gA g) (ks k).heap H locs → lv_has la nL (ls.map fun q => (q.1, zc (gad g) q.2)) →
    zW k H locs (F0 (km k) pc la (st.map (zc (gad g))))
theorem zl_at {ad : Nat → Nat} {la : Array Slot} {nL : Nat} {ls : List (Nat × zv)} (h : lv_has la nL (ls.map fun q => (q.1, zc ad q.2))) (j : Nat) {i : Nat} {v : zv} (hj : ls[j]? = some (i, v)) : la[i]? = some (.val (zc ad v)) := by
  refine lv_at h j ?_
  rw [List.getElem?_map, hj]
  rfl
theorem zl_put (ad : Nat → Nat) (i : Nat) (v : zv) (ls : List (Nat × zv)) : (i, zc ad v) :: (ls.map fun q => (q.1, zc ad q.2)).filter (fun q => !(q.1 == i) && !(q.1 + 1 == i && q.2.category == 2)) = ((i, v) :: ls.filter (fun q => !(q.1 == i) && !(q.1 + 1 == i && z2 q.2))).map fun q => (q.1, zc ad q.2) := by
  rw [List.map_cons, List.filter_map]
  congr 3
  funext q
  simp only [Function.comp, zc_cat2]
theorem zl_putL (ad : Nat → Nat) (i : Nat) (x : Int64) (ls : List (Nat × zv)) : (i, Value.long x) :: (ls.map fun q => (q.1, zc ad q.2)).filter (fun q => !(q.1 == i) && (!(q.1 == i + 1) && !(q.1 + 1 == i && q.2.category == 2))) = ((i, vL x) :: ls.filter (fun q => !(q.1 == i) && (!(q.1 == i + 1) && !(q.1 + 1 == i && z2 q.2)))).map fun q => (q.1, zc ad q.2) := by
  rw [List.map_cons, List.filter_map]
  congr 3
  funext q
  simp only [Function.comp, zc_cat2]
