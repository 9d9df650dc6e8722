/-! INSTRUCTIONS over any world PP of the heap, at any count of cells and slots: for constructors and the law -/
abbrev zWc (k : zK) (cs sl : Nat) (H : Heap) (locs : List Loc) (f : JFrame) : Prop := W k.1 k.2.1 k.2.2.1 k.2.2.2.1 k.2.2.2.2.1 k.2.2.2.2.2.1 k.2.2.2.2.2.2.1 k.2.2.2.2.2.2.2.1 k.2.2.2.2.2.2.2.2.1 k.2.2.2.2.2.2.2.2.2.1 H locs cs sl k.2.2.2.2.2.2.2.2.2.2.1 f
/-- the walk from here comes to its end -/
def AG (k : zK) (g : zG) (PP : Heap → Prop) (cs sl nL : Nat) (pc : Nat) (ls : List (Nat × zv)) (st : List zv) : Prop :=
  ∀ (H : Heap) (locs : List Loc) (la : Array Slot), PP H → va_S (gA g) (ks k).heap H locs → lv_has la nL (ls.map fun q => (q.1, zc (gad g) q.2)) →
    zWc k cs sl H locs (F0 (km k) pc la (st.map (zc (gad g))))
section ZI
variable {k : zK} {g : zG} {cc : ByteArray} {own : String} {nL d pc : Nat} {rt : Option FieldType} {PP : Heap → Prop} {cs sl : Nat} {ls : List (Nat × zv)} {st : List zv}
theorem ag_iconst (X : zX k g cc own nL rt d) {n : Int} {v : Int32} (dg : decode cc pc = .ok (.iconst n, 1)) (hv : Int32.ofInt n = v) (h : AG k g PP cs sl nL (pc + 1) ls (vI v :: st)) : AG k g PP cs sl nL pc ls (st) := fun H locs la hP hS hl => lv_iconst X.1 X.2.1 dg hv (h H locs la hP hS hl)
theorem ag_bipush (X : zX k g cc own nL rt d) {n : Int} {v : Int32} (dg : decode cc pc = .ok (.bipush n, 2)) (hv : (Int8.ofInt n).toInt32 = v) (h : AG k g PP cs sl nL (pc + 2) ls (vI v :: st)) : AG k g PP cs sl nL pc ls (st) := fun H locs la hP hS hl => lv_bipush X.1 X.2.1 dg hv (h H locs la hP hS hl)
theorem ag_sipush (X : zX k g cc own nL rt d) {n : Int} {v : Int32} (dg : decode cc pc = .ok (.sipush n, 3)) (hv : (Int16.ofInt n).toInt32 = v) (h : AG k g PP cs sl nL (pc + 3) ls (vI v :: st)) : AG k g PP cs sl nL pc ls (st) := fun H locs la hP hS hl => lv_sipush X.1 X.2.1 dg hv (h H locs la hP hS hl)
theorem ag_lconst (X : zX k g cc own nL rt d) {n : Fin 2} {v : Int64} (dg : decode cc pc = .ok (.lconst n, 1)) (hv : Int64.ofNat (n : Nat) = v) (h : AG k g PP cs sl nL (pc + 1) ls (vL v :: st)) : AG k g PP cs sl nL pc ls (st) := fun H locs la hP hS hl => lv_lconst X.1 X.2.1 dg hv (h H locs la hP hS hl)
theorem ag_null (X : zX k g cc own nL rt d) (dg : decode cc pc = .ok (.aconst_null, 1)) (h : AG k g PP cs sl nL (pc + 1) ls (vR 0 :: st)) : AG k g PP cs sl nL pc ls st := fun H locs la hP hS hl => lv_null X.1 X.2.1 dg (h H locs la hP hS hl)
theorem ag_ldc (X : zX k g cc own nL rt d) {index : Nat} {v : Int32} (hw : Cond.constant own index v ∈ zT) (dg : decode cc pc = .ok (.ldc index, 2)) (h : AG k g PP cs sl nL (pc + 2) ls (vI v :: st)) : AG k g PP cs sl nL pc ls st := fun H locs la hP hS hl => lv_ldc X.1 X.2.1 X.2.2.2.1 (X.2.2.2.2.1 _ hw) dg (h H locs la hP hS hl)
theorem ag_ldcw (X : zX k g cc own nL rt d) {index : Nat} {v : Int32} (hw : Cond.constant own index v ∈ zT) (dg : decode cc pc = .ok (.ldc_w index, 3)) (h : AG k g PP cs sl nL (pc + 3) ls (vI v :: st)) : AG k g PP cs sl nL pc ls st := fun H locs la hP hS hl => lv_ldcw X.1 X.2.1 X.2.2.2.1 (X.2.2.2.2.1 _ hw) dg (h H locs la hP hS hl)
theorem ag_ldc2 (X : zX k g cc own nL rt d) {index : Nat} {v : Int64} (hw : Cond.constantLong own index v ∈ zT) (dg : decode cc pc = .ok (.ldc2_w index, 3)) (h : AG k g PP cs sl nL (pc + 3) ls (vL v :: st)) : AG k g PP cs sl nL pc ls st := fun H locs la hP hS hl => lv_ldc2 X.1 X.2.1 X.2.2.2.1 (X.2.2.2.2.1 _ hw) dg (h H locs la hP hS hl)
theorem ag_iload_n (X : zX k g cc own nL rt d) {n : Fin 4} {x : Int32} (j : Nat) (dg : decode cc pc = .ok (.iload_n n, 1)) (hj : ls[j]? = some ((n : Nat), vI x)) (h : AG k g PP cs sl nL (pc + 1) ls (vI x :: st)) : AG k g PP cs sl nL pc ls st := fun H locs la hP hS hl => lv_iload_n X.1 X.2.1 dg rfl (zl_at hl j hj) (h H locs la hP hS hl)
theorem ag_iload (X : zX k g cc own nL rt d) {n : Nat} {x : Int32} (j : Nat) (dg : decode cc pc = .ok (.iload n, 2)) (hj : ls[j]? = some (n, vI x)) (h : AG k g PP cs sl nL (pc + 2) ls (vI x :: st)) : AG k g PP cs sl nL pc ls st := fun H locs la hP hS hl => lv_iload X.1 X.2.1 dg (zl_at hl j hj) (h H locs la hP hS hl)
theorem ag_lload_n (X : zX k g cc own nL rt d) {n : Fin 4} {x : Int64} (j : Nat) (dg : decode cc pc = .ok (.lload_n n, 1)) (hj : ls[j]? = some ((n : Nat), vL x)) (h : AG k g PP cs sl nL (pc + 1) ls (vL x :: st)) : AG k g PP cs sl nL pc ls st := fun H locs la hP hS hl => lv_lload_n X.1 X.2.1 dg rfl (zl_at hl j hj) (h H locs la hP hS hl)
theorem ag_lload (X : zX k g cc own nL rt d) {n : Nat} {x : Int64} (j : Nat) (dg : decode cc pc = .ok (.lload n, 2)) (hj : ls[j]? = some (n, vL x)) (h : AG k g PP cs sl nL (pc + 2) ls (vL x :: st)) : AG k g PP cs sl nL pc ls st := fun H locs la hP hS hl => lv_lload X.1 X.2.1 dg (zl_at hl j hj) (h H locs la hP hS hl)
theorem ag_aload_n (X : zX k g cc own nL rt d) {n : Fin 4} {x : Nat} (j : Nat) (dg : decode cc pc = .ok (.aload_n n, 1)) (hj : ls[j]? = some ((n : Nat), vR x)) (h : AG k g PP cs sl nL (pc + 1) ls (vR x :: st)) : AG k g PP cs sl nL pc ls st := by
  intro H locs la hP hS hl
  have h9 := h H locs la hP hS hl
  have e := zl_at hl j hj
  by_cases hx : x = 0
  · subst hx
    exact lv_aload_nN X.1 X.2.1 dg rfl e h9
  · have hz : zc (gad g) (vR x) = .ref (gad g x) := zr_n _ hx
    rw [hz] at e
    rw [List.map_cons, hz] at h9
    exact lv_aload_n X.1 X.2.1 dg rfl e h9
theorem ag_aload (X : zX k g cc own nL rt d) {n : Nat} {x : Nat} (j : Nat) (dg : decode cc pc = .ok (.aload n, 2)) (hj : ls[j]? = some ((n : Nat), vR x)) (h : AG k g PP cs sl nL (pc + 2) ls (vR x :: st)) : AG k g PP cs sl nL pc ls st := by
  intro H locs la hP hS hl
  have h9 := h H locs la hP hS hl
  have e := zl_at hl j hj
  by_cases hx : x = 0
  · subst hx
    exact lv_aloadN X.1 X.2.1 dg  e h9
  · have hz : zc (gad g) (vR x) = .ref (gad g x) := zr_n _ hx
    rw [hz] at e
    rw [List.map_cons, hz] at h9
    exact lv_aload X.1 X.2.1 dg  e h9
theorem ag_istore_n (X : zX k g cc own nL rt d) {n : Fin 4} {x : Int32} {ls' : List (Nat × zv)} (dg : decode cc pc = .ok (.istore_n n, 1)) (hn : (n : Nat) < nL) (hl' : ((n : Nat), vI x) :: ls.filter (fun q => !(q.1 == (n : Nat)) && !(q.1 + 1 == (n : Nat) && z2 q.2)) = ls') (h : AG k g PP cs sl nL (pc + 1) ls' st) : AG k g PP cs sl nL pc ls (vI x :: st) := by
  intro H locs la hP hS hl
  subst hl'
  exact lv_istore_n X.1 X.2.1 dg rfl hl hn (zl_put (gad g) n (vI x) ls) (fun la' hl2 => h H locs la' hP hS hl2)
theorem ag_istore (X : zX k g cc own nL rt d) {n : Nat} {x : Int32} {ls' : List (Nat × zv)} (dg : decode cc pc = .ok (.istore n, 2)) (hn : (n : Nat) < nL) (hl' : ((n : Nat), vI x) :: ls.filter (fun q => !(q.1 == (n : Nat)) && !(q.1 + 1 == (n : Nat) && z2 q.2)) = ls') (h : AG k g PP cs sl nL (pc + 2) ls' st) : AG k g PP cs sl nL pc ls (vI x :: st) := by
  intro H locs la hP hS hl
  subst hl'
  exact lv_istore X.1 X.2.1 dg  hl hn (zl_put (gad g) n (vI x) ls) (fun la' hl2 => h H locs la' hP hS hl2)
theorem ag_astore_n (X : zX k g cc own nL rt d) {n : Fin 4} {x : Nat} {ls' : List (Nat × zv)} (dg : decode cc pc = .ok (.astore_n n, 1)) (hn : (n : Nat) < nL) (hl' : ((n : Nat), vR x) :: ls.filter (fun q => !(q.1 == (n : Nat)) && !(q.1 + 1 == (n : Nat) && z2 q.2)) = ls') (h : AG k g PP cs sl nL (pc + 1) ls' st) : AG k g PP cs sl nL pc ls (vR x :: st) := by
  intro H locs la hP hS hl
  subst hl'
  have e := zl_put (gad g) n (vR x) ls
  by_cases hx : x = 0
  · subst hx
    exact lv_astore_nN X.1 X.2.1 dg rfl hl hn e (fun la' hl2 => h H locs la' hP hS hl2)
  · have hz : zc (gad g) (vR x) = .ref (gad g x) := zr_n _ hx
    rw [hz] at e
    rw [List.map_cons, hz]
    exact lv_astore_n X.1 X.2.1 dg rfl hl hn e (fun la' hl2 => h H locs la' hP hS hl2)
theorem ag_astore (X : zX k g cc own nL rt d) {n : Nat} {x : Nat} {ls' : List (Nat × zv)} (dg : decode cc pc = .ok (.astore n, 2)) (hn : (n : Nat) < nL) (hl' : ((n : Nat), vR x) :: ls.filter (fun q => !(q.1 == (n : Nat)) && !(q.1 + 1 == (n : Nat) && z2 q.2)) = ls') (h : AG k g PP cs sl nL (pc + 2) ls' st) : AG k g PP cs sl nL pc ls (vR x :: st) := by
  intro H locs la hP hS hl
  subst hl'
  have e := zl_put (gad g) n (vR x) ls
  by_cases hx : x = 0
  · subst hx
    exact lv_astoreN X.1 X.2.1 dg  hl hn e (fun la' hl2 => h H locs la' hP hS hl2)
  · have hz : zc (gad g) (vR x) = .ref (gad g x) := zr_n _ hx
    rw [hz] at e
    rw [List.map_cons, hz]
    exact lv_astore X.1 X.2.1 dg  hl hn e (fun la' hl2 => h H locs la' hP hS hl2)
theorem ag_iinc (X : zX k g cc own nL rt d) {i : Nat} {n : Int} {x v : Int32} {ls' : List (Nat × zv)} (j : Nat) (dg : decode cc pc = .ok (.iinc i n, 3)) (hj : ls[j]? = some (i, vI x)) (hv : x + Int32.ofInt n = v) (hn : i < nL) (hl' : (i, vI v) :: ls.filter (fun q => !(q.1 == i) && !(q.1 + 1 == i && z2 q.2)) = ls') (h : AG k g PP cs sl nL (pc + 3) ls' st) : AG k g PP cs sl nL pc ls st := by
  intro H locs la hP hS hl
  subst hl'
  exact lv_iinc (k := j) X.1 X.2.1 dg hl (by rw [List.getElem?_map, hj]; rfl) hv hn (zl_put (gad g) i (vI v) ls) (fun la' hl2 => h H locs la' hP hS hl2)
theorem ag_lstore_n (X : zX k g cc own nL rt d) {n : Fin 4} {x : Int64} {ls' : List (Nat × zv)} (dg : decode cc pc = .ok (.lstore_n n, 1)) (hn : (n : Nat) + 1 < nL) (hl' : ((n : Nat), vL x) :: ls.filter (fun q => !(q.1 == (n : Nat)) && (!(q.1 == (n : Nat) + 1) && !(q.1 + 1 == (n : Nat) && z2 q.2))) = ls') (h : AG k g PP cs sl nL (pc + 1) ls' st) : AG k g PP cs sl nL pc ls (vL x :: st) := by
  intro H locs la hP hS hl
  subst hl'
  exact lv_lstore_n X.1 X.2.1 dg rfl hl hn (zl_putL (gad g) n x ls) (fun la' hl2 => h H locs la' hP hS hl2)
theorem ag_lstore (X : zX k g cc own nL rt d) {n : Nat} {x : Int64} {ls' : List (Nat × zv)} (dg : decode cc pc = .ok (.lstore n, 2)) (hn : (n : Nat) + 1 < nL) (hl' : ((n : Nat), vL x) :: ls.filter (fun q => !(q.1 == (n : Nat)) && (!(q.1 == (n : Nat) + 1) && !(q.1 + 1 == (n : Nat) && z2 q.2))) = ls') (h : AG k g PP cs sl nL (pc + 2) ls' st) : AG k g PP cs sl nL pc ls (vL x :: st) := by
  intro H locs la hP hS hl
  subst hl'
  exact lv_lstore X.1 X.2.1 dg  hl hn (zl_putL (gad g) n x ls) (fun la' hl2 => h H locs la' hP hS hl2)
theorem ag_sub (ks9 : List (Nat × zv)) (hs : ∀ q ∈ ks9, q ∈ ls) (h : AG k g PP cs sl nL pc ks9 st) : AG k g PP cs sl nL pc ls st := fun H locs la hP hS hl => h H locs la hP hS ⟨hl.1, hl.2.1, fun q hq => hl.2.2 q (by obtain ⟨a, ha, rfl⟩ := List.mem_map.mp hq; exact List.mem_map.mpr ⟨a, hs a ha, rfl⟩)⟩
theorem ag_iadd (X : zX k g cc own nL rt d) {x y : Int32} (dg : decode cc pc = .ok (.iadd, 1))  (h : AG k g PP cs sl nL (pc + 1) ls (vI (x + y) :: st)) : AG k g PP cs sl nL pc ls (vI y :: vI x :: st) := fun H locs la hP hS hl => lv_iadd X.1 X.2.1 dg  (h H locs la hP hS hl)
theorem ag_isub (X : zX k g cc own nL rt d) {x y : Int32} (dg : decode cc pc = .ok (.isub, 1))  (h : AG k g PP cs sl nL (pc + 1) ls (vI (x - y) :: st)) : AG k g PP cs sl nL pc ls (vI y :: vI x :: st) := fun H locs la hP hS hl => lv_isub X.1 X.2.1 dg  (h H locs la hP hS hl)
theorem ag_imul (X : zX k g cc own nL rt d) {x y : Int32} (dg : decode cc pc = .ok (.imul, 1))  (h : AG k g PP cs sl nL (pc + 1) ls (vI (x * y) :: st)) : AG k g PP cs sl nL pc ls (vI y :: vI x :: st) := fun H locs la hP hS hl => lv_imul X.1 X.2.1 dg  (h H locs la hP hS hl)
theorem ag_iand (X : zX k g cc own nL rt d) {x y : Int32} (dg : decode cc pc = .ok (.iand, 1))  (h : AG k g PP cs sl nL (pc + 1) ls (vI (x &&& y) :: st)) : AG k g PP cs sl nL pc ls (vI y :: vI x :: st) := fun H locs la hP hS hl => lv_iand X.1 X.2.1 dg  (h H locs la hP hS hl)
theorem ag_ior (X : zX k g cc own nL rt d) {x y : Int32} (dg : decode cc pc = .ok (.ior, 1))  (h : AG k g PP cs sl nL (pc + 1) ls (vI (x ||| y) :: st)) : AG k g PP cs sl nL pc ls (vI y :: vI x :: st) := fun H locs la hP hS hl => lv_ior X.1 X.2.1 dg  (h H locs la hP hS hl)
theorem ag_ixor (X : zX k g cc own nL rt d) {x y : Int32} (dg : decode cc pc = .ok (.ixor, 1))  (h : AG k g PP cs sl nL (pc + 1) ls (vI (x ^^^ y) :: st)) : AG k g PP cs sl nL pc ls (vI y :: vI x :: st) := fun H locs la hP hS hl => lv_ixor X.1 X.2.1 dg  (h H locs la hP hS hl)
theorem ag_ishl (X : zX k g cc own nL rt d) {x y : Int32} (dg : decode cc pc = .ok (.ishl, 1))  (h : AG k g PP cs sl nL (pc + 1) ls (vI (x <<< (y &&& 31)) :: st)) : AG k g PP cs sl nL pc ls (vI y :: vI x :: st) := fun H locs la hP hS hl => lv_ishl X.1 X.2.1 dg  (h H locs la hP hS hl)
theorem ag_ishr (X : zX k g cc own nL rt d) {x y : Int32} (dg : decode cc pc = .ok (.ishr, 1))  (h : AG k g PP cs sl nL (pc + 1) ls (vI (x >>> (y &&& 31)) :: st)) : AG k g PP cs sl nL pc ls (vI y :: vI x :: st) := fun H locs la hP hS hl => lv_ishr X.1 X.2.1 dg  (h H locs la hP hS hl)
theorem ag_idiv (X : zX k g cc own nL rt d) {x y : Int32} (dg : decode cc pc = .ok (.idiv, 1)) (hne : ¬ y = 0) (h : AG k g PP cs sl nL (pc + 1) ls (vI (x / y) :: st)) : AG k g PP cs sl nL pc ls (vI y :: vI x :: st) := fun H locs la hP hS hl => lv_idiv X.1 X.2.1 dg hne (h H locs la hP hS hl)
theorem ag_irem (X : zX k g cc own nL rt d) {x y : Int32} (dg : decode cc pc = .ok (.irem, 1)) (hne : ¬ y = 0) (h : AG k g PP cs sl nL (pc + 1) ls (vI (x - x / y * y) :: st)) : AG k g PP cs sl nL pc ls (vI y :: vI x :: st) := fun H locs la hP hS hl => lv_irem X.1 X.2.1 dg hne (h H locs la hP hS hl)
theorem ag_ineg (X : zX k g cc own nL rt d) {x : Int32} (dg : decode cc pc = .ok (.ineg, 1))  (h : AG k g PP cs sl nL (pc + 1) ls (vI (-x) :: st)) : AG k g PP cs sl nL pc ls (vI x :: st) := fun H locs la hP hS hl => lv_ineg X.1 X.2.1 dg  (h H locs la hP hS hl)
theorem ag_iushr (X : zX k g cc own nL rt d) {x y : Int32} (dg : decode cc pc = .ok (.iushr, 1))  (h : AG k g PP cs sl nL (pc + 1) ls (vI ((x.toUInt32 >>> (y.toUInt32 &&& Int32.toUInt32 31)).toInt32) :: st)) : AG k g PP cs sl nL pc ls (vI y :: vI x :: st) := fun H locs la hP hS hl => lv_iushr X.1 X.2.1 dg rfl (h H locs la hP hS hl)
theorem ag_i2l (X : zX k g cc own nL rt d) {x : Int32} (dg : decode cc pc = .ok (.i2l, 1))  (h : AG k g PP cs sl nL (pc + 1) ls (vL x.toInt64 :: st)) : AG k g PP cs sl nL pc ls (vI x :: st) := fun H locs la hP hS hl => lv_i2l X.1 X.2.1 dg rfl (h H locs la hP hS hl)
theorem ag_l2i (X : zX k g cc own nL rt d) {x : Int64} (dg : decode cc pc = .ok (.l2i, 1))  (h : AG k g PP cs sl nL (pc + 1) ls (vI x.toInt32 :: st)) : AG k g PP cs sl nL pc ls (vL x :: st) := fun H locs la hP hS hl => lv_l2i X.1 X.2.1 dg rfl (h H locs la hP hS hl)
theorem ag_i2b (X : zX k g cc own nL rt d) {x : Int32} (dg : decode cc pc = .ok (.i2b, 1))  (h : AG k g PP cs sl nL (pc + 1) ls (vI x.toInt8.toInt32 :: st)) : AG k g PP cs sl nL pc ls (vI x :: st) := fun H locs la hP hS hl => lv_i2b X.1 X.2.1 dg rfl (h H locs la hP hS hl)
theorem ag_i2s (X : zX k g cc own nL rt d) {x : Int32} (dg : decode cc pc = .ok (.i2s, 1))  (h : AG k g PP cs sl nL (pc + 1) ls (vI x.toInt16.toInt32 :: st)) : AG k g PP cs sl nL pc ls (vI x :: st) := fun H locs la hP hS hl => lv_i2s X.1 X.2.1 dg rfl (h H locs la hP hS hl)
theorem ag_i2c (X : zX k g cc own nL rt d) {x : Int32} (dg : decode cc pc = .ok (.i2c, 1))  (h : AG k g PP cs sl nL (pc + 1) ls (vI (x.toUInt32 % 65536).toInt32 :: st)) : AG k g PP cs sl nL pc ls (vI x :: st) := fun H locs la hP hS hl => lv_i2c X.1 X.2.1 dg rfl (h H locs la hP hS hl)
theorem ag_ladd (X : zX k g cc own nL rt d) {x y : Int64} (dg : decode cc pc = .ok (.ladd, 1))  (h : AG k g PP cs sl nL (pc + 1) ls (vL (x + y) :: st)) : AG k g PP cs sl nL pc ls (vL y :: vL x :: st) := fun H locs la hP hS hl => lv_ladd X.1 X.2.1 dg  (h H locs la hP hS hl)
theorem ag_lmul (X : zX k g cc own nL rt d) {x y : Int64} (dg : decode cc pc = .ok (.lmul, 1))  (h : AG k g PP cs sl nL (pc + 1) ls (vL (x * y) :: st)) : AG k g PP cs sl nL pc ls (vL y :: vL x :: st) := fun H locs la hP hS hl => lv_lmul X.1 X.2.1 dg  (h H locs la hP hS hl)
theorem ag_land (X : zX k g cc own nL rt d) {x y : Int64} (dg : decode cc pc = .ok (.land, 1))  (h : AG k g PP cs sl nL (pc + 1) ls (vL (x &&& y) :: st)) : AG k g PP cs sl nL pc ls (vL y :: vL x :: st) := fun H locs la hP hS hl => lv_land X.1 X.2.1 dg  (h H locs la hP hS hl)
theorem ag_lor (X : zX k g cc own nL rt d) {x y : Int64} (dg : decode cc pc = .ok (.lor, 1))  (h : AG k g PP cs sl nL (pc + 1) ls (vL (x ||| y) :: st)) : AG k g PP cs sl nL pc ls (vL y :: vL x :: st) := fun H locs la hP hS hl => lv_lor X.1 X.2.1 dg  (h H locs la hP hS hl)
theorem ag_lshl (X : zX k g cc own nL rt d) {x : Int64} {y : Int32} (dg : decode cc pc = .ok (.lshl, 1))  (h : AG k g PP cs sl nL (pc + 1) ls (vL (x <<< (y.toInt64 &&& 63)) :: st)) : AG k g PP cs sl nL pc ls (vI y :: vL x :: st) := fun H locs la hP hS hl => lv_lshl X.1 X.2.1 dg rfl (h H locs la hP hS hl)
theorem ag_lcmp (X : zX k g cc own nL rt d) {x y : Int64} (dg : decode cc pc = .ok (.lcmp, 1))  (h : AG k g PP cs sl nL (pc + 1) ls (vI (lg_cmp x y) :: st)) : AG k g PP cs sl nL pc ls (vL y :: vL x :: st) := fun H locs la hP hS hl => W.lcmp X.1 X.2.1 dg  (h H locs la hP hS hl)
theorem ag_dup (X : zX k g cc own nL rt d) {a : zv} (dg : decode cc pc = .ok (.dup, 1)) (ha : z2 a = false) (h : AG k g PP cs sl nL (pc + 1) ls (a :: a :: st)) : AG k g PP cs sl nL pc ls (a :: st) := fun H locs la hP hS hl => lv_dup X.1 X.2.1 dg (zc_cat _ ha) (h H locs la hP hS hl)
theorem ag_pop (X : zX k g cc own nL rt d) {a : zv} (dg : decode cc pc = .ok (.pop, 1)) (ha : z2 a = false) (h : AG k g PP cs sl nL (pc + 1) ls (st)) : AG k g PP cs sl nL pc ls (a :: st) := fun H locs la hP hS hl => lv_pop X.1 X.2.1 dg (zc_cat _ ha) (h H locs la hP hS hl)
theorem ag_dup_x1 (X : zX k g cc own nL rt d) {a b : zv} (dg : decode cc pc = .ok (.dup_x1, 1)) (ha : z2 a = false) (hb : z2 b = false) (h : AG k g PP cs sl nL (pc + 1) ls (a :: b :: a :: st)) : AG k g PP cs sl nL pc ls (a :: b :: st) := fun H locs la hP hS hl => lv_dup_x1 X.1 X.2.1 dg (zc_cat _ ha) (zc_cat _ hb) (h H locs la hP hS hl)
theorem ag_dup2 (X : zX k g cc own nL rt d) {a b : zv} (dg : decode cc pc = .ok (.dup2, 1)) (ha : z2 a = false) (hb : z2 b = false) (h : AG k g PP cs sl nL (pc + 1) ls (a :: b :: a :: b :: st)) : AG k g PP cs sl nL pc ls (a :: b :: st) := fun H locs la hP hS hl => lv_dup2_11 X.1 X.2.1 dg (zc_cat _ ha) (zc_cat _ hb) (h H locs la hP hS hl)
theorem ag_if_eq (X : zX k g cc own nL rt d) {x : Int32} {off : Int} (tgt : Nat) (dg : decode cc pc = .ok (.ifCond .eq off, 3)) (ht : (pc : Int) + off = (tgt : Int)) (ht2 : x = 0 → AG k g PP cs sl nL tgt ls st) (hf : ¬ (x = 0) → AG k g PP cs sl nL (pc + 3) ls st) : AG k g PP cs sl nL pc ls (vI x :: st) := fun H locs la hP hS hl => lv_if_eq X.1 X.2.1 dg ht (fun c => ht2 c H locs la hP hS hl) (fun c => hf c H locs la hP hS hl)
theorem ag_if_lt (X : zX k g cc own nL rt d) {x : Int32} {off : Int} (tgt : Nat) (dg : decode cc pc = .ok (.ifCond .lt off, 3)) (ht : (pc : Int) + off = (tgt : Int)) (ht2 : x < 0 → AG k g PP cs sl nL tgt ls st) (hf : ¬ (x < 0) → AG k g PP cs sl nL (pc + 3) ls st) : AG k g PP cs sl nL pc ls (vI x :: st) := fun H locs la hP hS hl => lv_if_lt X.1 X.2.1 dg ht (fun c => ht2 c H locs la hP hS hl) (fun c => hf c H locs la hP hS hl)
theorem ag_if_ge (X : zX k g cc own nL rt d) {x : Int32} {off : Int} (tgt : Nat) (dg : decode cc pc = .ok (.ifCond .ge off, 3)) (ht : (pc : Int) + off = (tgt : Int)) (ht2 : 0 ≤ x → AG k g PP cs sl nL tgt ls st) (hf : ¬ (0 ≤ x) → AG k g PP cs sl nL (pc + 3) ls st) : AG k g PP cs sl nL pc ls (vI x :: st) := fun H locs la hP hS hl => lv_if_ge X.1 X.2.1 dg ht (fun c => ht2 c H locs la hP hS hl) (fun c => hf c H locs la hP hS hl)
theorem ag_if_gt (X : zX k g cc own nL rt d) {x : Int32} {off : Int} (tgt : Nat) (dg : decode cc pc = .ok (.ifCond .gt off, 3)) (ht : (pc : Int) + off = (tgt : Int)) (ht2 : 0 < x → AG k g PP cs sl nL tgt ls st) (hf : ¬ (0 < x) → AG k g PP cs sl nL (pc + 3) ls st) : AG k g PP cs sl nL pc ls (vI x :: st) := fun H locs la hP hS hl => lv_if_gt X.1 X.2.1 dg ht (fun c => ht2 c H locs la hP hS hl) (fun c => hf c H locs la hP hS hl)
theorem ag_if_le (X : zX k g cc own nL rt d) {x : Int32} {off : Int} (tgt : Nat) (dg : decode cc pc = .ok (.ifCond .le off, 3)) (ht : (pc : Int) + off = (tgt : Int)) (ht2 : x ≤ 0 → AG k g PP cs sl nL tgt ls st) (hf : ¬ (x ≤ 0) → AG k g PP cs sl nL (pc + 3) ls st) : AG k g PP cs sl nL pc ls (vI x :: st) := fun H locs la hP hS hl => lv_if_le X.1 X.2.1 dg ht (fun c => ht2 c H locs la hP hS hl) (fun c => hf c H locs la hP hS hl)
theorem ag_icmp_eq (X : zX k g cc own nL rt d) {x y : Int32} {off : Int} (tgt : Nat) (dg : decode cc pc = .ok (.if_icmp .eq off, 3)) (ht : (pc : Int) + off = (tgt : Int)) (ht2 : x = y → AG k g PP cs sl nL tgt ls st) (hf : ¬ (x = y) → AG k g PP cs sl nL (pc + 3) ls st) : AG k g PP cs sl nL pc ls (vI y :: vI x :: st) := fun H locs la hP hS hl => lv_icmp_eq X.1 X.2.1 dg ht (fun c => ht2 c H locs la hP hS hl) (fun c => hf c H locs la hP hS hl)
theorem ag_icmp_lt (X : zX k g cc own nL rt d) {x y : Int32} {off : Int} (tgt : Nat) (dg : decode cc pc = .ok (.if_icmp .lt off, 3)) (ht : (pc : Int) + off = (tgt : Int)) (ht2 : x < y → AG k g PP cs sl nL tgt ls st) (hf : ¬ (x < y) → AG k g PP cs sl nL (pc + 3) ls st) : AG k g PP cs sl nL pc ls (vI y :: vI x :: st) := fun H locs la hP hS hl => lv_icmp_lt X.1 X.2.1 dg ht (fun c => ht2 c H locs la hP hS hl) (fun c => hf c H locs la hP hS hl)
theorem ag_icmp_ge (X : zX k g cc own nL rt d) {x y : Int32} {off : Int} (tgt : Nat) (dg : decode cc pc = .ok (.if_icmp .ge off, 3)) (ht : (pc : Int) + off = (tgt : Int)) (ht2 : y ≤ x → AG k g PP cs sl nL tgt ls st) (hf : ¬ (y ≤ x) → AG k g PP cs sl nL (pc + 3) ls st) : AG k g PP cs sl nL pc ls (vI y :: vI x :: st) := fun H locs la hP hS hl => lv_icmp_ge X.1 X.2.1 dg ht (fun c => ht2 c H locs la hP hS hl) (fun c => hf c H locs la hP hS hl)
theorem ag_icmp_gt (X : zX k g cc own nL rt d) {x y : Int32} {off : Int} (tgt : Nat) (dg : decode cc pc = .ok (.if_icmp .gt off, 3)) (ht : (pc : Int) + off = (tgt : Int)) (ht2 : y < x → AG k g PP cs sl nL tgt ls st) (hf : ¬ (y < x) → AG k g PP cs sl nL (pc + 3) ls st) : AG k g PP cs sl nL pc ls (vI y :: vI x :: st) := fun H locs la hP hS hl => lv_icmp_gt X.1 X.2.1 dg ht (fun c => ht2 c H locs la hP hS hl) (fun c => hf c H locs la hP hS hl)
theorem ag_icmp_le (X : zX k g cc own nL rt d) {x y : Int32} {off : Int} (tgt : Nat) (dg : decode cc pc = .ok (.if_icmp .le off, 3)) (ht : (pc : Int) + off = (tgt : Int)) (ht2 : x ≤ y → AG k g PP cs sl nL tgt ls st) (hf : ¬ (x ≤ y) → AG k g PP cs sl nL (pc + 3) ls st) : AG k g PP cs sl nL pc ls (vI y :: vI x :: st) := fun H locs la hP hS hl => lv_icmp_le X.1 X.2.1 dg ht (fun c => ht2 c H locs la hP hS hl) (fun c => hf c H locs la hP hS hl)
theorem ag_if_ne (X : zX k g cc own nL rt d) {x : Int32} {off : Int} (tgt : Nat) (dg : decode cc pc = .ok (.ifCond .ne off, 3)) (ht : (pc : Int) + off = (tgt : Int)) (ht2 : ¬ x = 0 → AG k g PP cs sl nL tgt ls st) (hf : x = 0 → AG k g PP cs sl nL (pc + 3) ls st) : AG k g PP cs sl nL pc ls (vI x :: st) := fun H locs la hP hS hl => lv_if_ne X.1 X.2.1 dg ht (fun c => ht2 c H locs la hP hS hl) (fun c => hf c H locs la hP hS hl)
theorem ag_icmp_ne (X : zX k g cc own nL rt d) {x y : Int32} {off : Int} (tgt : Nat) (dg : decode cc pc = .ok (.if_icmp .ne off, 3)) (ht : (pc : Int) + off = (tgt : Int)) (ht2 : ¬ x = y → AG k g PP cs sl nL tgt ls st) (hf : x = y → AG k g PP cs sl nL (pc + 3) ls st) : AG k g PP cs sl nL pc ls (vI y :: vI x :: st) := fun H locs la hP hS hl => lv_icmp_ne X.1 X.2.1 dg ht (fun c => ht2 c H locs la hP hS hl) (fun c => hf c H locs la hP hS hl)
theorem ag_goto (X : zX k g cc own nL rt d) {off : Int} (tgt : Nat) (dg : decode cc pc = .ok (.goto off, 3)) (ht : (pc : Int) + off = (tgt : Int)) (h : AG k g PP cs sl nL tgt ls st) : AG k g PP cs sl nL pc ls st := fun H locs la hP hS hl => lv_goto X.1 X.2.1 dg ht (h H locs la hP hS hl)
theorem ag_ifnull (X : zX k g cc own nL rt d) {x : Nat} {off : Int} (tgt : Nat) (dg : decode cc pc = .ok (.ifnull off, 3)) (ht : (pc : Int) + off = (tgt : Int)) (ht2 : x = 0 → AG k g PP cs sl nL tgt ls st) (hf : ¬ x = 0 → AG k g PP cs sl nL (pc + 3) ls st) : AG k g PP cs sl nL pc ls (vR x :: st) := by
  intro H locs la hP hS hl
  by_cases hx : x = 0
  · have h9 := ht2 hx H locs la hP hS hl
    subst hx
    exact lv_ifnullN X.1 X.2.1 dg ht h9
  · have h9 := hf hx H locs la hP hS hl
    have hz : zc (gad g) (vR x) = .ref (gad g x) := zr_n _ hx
    rw [List.map_cons, hz]
    exact lv_ifnull X.1 X.2.1 dg h9
theorem ag_ifnonnull (X : zX k g cc own nL rt d) {x : Nat} {off : Int} (tgt : Nat) (dg : decode cc pc = .ok (.ifnonnull off, 3)) (ht : (pc : Int) + off = (tgt : Int)) (ht2 : x = 0 → AG k g PP cs sl nL (pc + 3) ls st) (hf : ¬ x = 0 → AG k g PP cs sl nL tgt ls st) : AG k g PP cs sl nL pc ls (vR x :: st) := by
  intro H locs la hP hS hl
  by_cases hx : x = 0
  · have h9 := ht2 hx H locs la hP hS hl
    subst hx
    exact lv_ifnonnullN X.1 X.2.1 dg h9
  · have h9 := hf hx H locs la hP hS hl
    have hz : zc (gad g) (vR x) = .ref (gad g x) := zr_n _ hx
    rw [List.map_cons, hz]
    exact lv_ifnonnull X.1 X.2.1 dg ht h9
theorem ag_tableIn (X : zX k g cc own nL rt d) {x : Int32} {dflt lo hi off : Int} {offs : Array Int} {len : Nat} (i tgt : Nat) (dg : decode cc pc = .ok (.tableswitch dflt lo hi offs, len)) (hx : x.toInt = lo + i) (hh : lo + i ≤ hi) (ho : offs[i]? = some off) (ht : (pc : Int) + off = (tgt : Int)) (h : AG k g PP cs sl nL tgt ls st) : AG k g PP cs sl nL pc ls (vI x :: st) := fun H locs la hP hS hl => lv_tableIn X.1 X.2.1 dg (by omega) (by omega) (by rw [show (x.toInt - lo).toNat = i by omega]; exact ho) ht (h H locs la hP hS hl)
theorem ag_tableOut (X : zX k g cc own nL rt d) {x : Int32} {dflt lo hi : Int} {offs : Array Int} {len : Nat} (tgt : Nat) (dg : decode cc pc = .ok (.tableswitch dflt lo hi offs, len)) (hx : x.toInt < lo ∨ hi < x.toInt) (ht : (pc : Int) + dflt = (tgt : Int)) (h : AG k g PP cs sl nL tgt ls st) : AG k g PP cs sl nL pc ls (vI x :: st) := fun H locs la hP hS hl => lv_tableOut X.1 X.2.1 dg hx ht (h H locs la hP hS hl)
theorem ag_lookup (X : zX k g cc own nL rt d) {x : Int32} {dflt : Int} {ps : Array (Int × Int)} {len : Nat} (dg : decode cc pc = .ok (.lookupswitch dflt ps, len)) (hp : (ps.toList.zip (ps.toList.drop 1)).all (fun (a, next) => a.1 < next.1) = true) (tg : Nat) (ht : (pc : Int) + Op.lookupswitch.offset ps.toList dflt x.toInt = (tg : Int)) (h : AG k g PP cs sl nL tg ls st) : AG k g PP cs sl nL pc ls (vI x :: st) := fun H locs la hP hS hl => lv_lookup X.1 X.2.1 dg hp rfl ht (h H locs la hP hS hl)
end ZI
