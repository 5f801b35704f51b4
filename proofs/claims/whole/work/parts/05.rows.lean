/-! one row an instruction -/
/-- at pc stands this instruction, n bytes long; pc' is behind it -/
abbrev mDc (M : mMs) (pc : Nat) (ins : Instr) (n pc' : Nat) : Prop := decode M.2.1 pc = .ok (ins, n) ∧ pc + n = pc'
abbrev mDq (M : mMs) (q : Nat × Instr × Nat × Nat) : Prop := mDc M q.1 q.2.1 q.2.2.1 q.2.2.2
theorem dT {M : mMs} {tab : List (Nat × Instr × Nat × Nat)} (h : ∀ q ∈ tab, mDq M q) (i : Nat) {pc n pc' : Nat} {ins : Instr} (hq : tab[i]? = some (pc, ins, n, pc')) : mDc M pc ins n pc' := h (pc, ins, n, pc') (List.mem_of_getElem? hq)
section MMR
variable {F : mG → Prop} {M : mMs} {pc : Nat} {L st : List mV} {h : mH}
theorem mw_iconst {n : Int} {pc' : Nat} (hd : mDc M pc (.iconst n) 1 pc') (k : At F M pc' L (mI n :: st) h) : At F M pc L st h := by
  obtain ⟨hd, rfl⟩ := hd
  intro G hF V H locs ls hP hS hL v1 v2
  exact lv_iconst V.1.1 V.1.2.1 hd rfl (k G hF V H locs ls hP hS hL v1 (mVs.cons trivial v2))
theorem mw_bipush {n : Int} (hn : -128 ≤ n ∧ n ≤ 127) {pc' : Nat} (hd : mDc M pc (.bipush n) 2 pc') (k : At F M pc' L (mI n :: st) h) : At F M pc L st h := by
  obtain ⟨hd, rfl⟩ := hd
  intro G hF V H locs ls hP hS hL v1 v2
  exact lv_bipush V.1.1 V.1.2.1 hd (Int8.toInt32_ofInt hn.1 hn.2) (k G hF V H locs ls hP hS hL v1 (mVs.cons trivial v2))
theorem mw_sipush {n : Int} (hn : -32768 ≤ n ∧ n ≤ 32767) {pc' : Nat} (hd : mDc M pc (.sipush n) 3 pc') (k : At F M pc' L (mI n :: st) h) : At F M pc L st h := by
  obtain ⟨hd, rfl⟩ := hd
  intro G hF V H locs ls hP hS hL v1 v2
  exact lv_sipush V.1.1 V.1.2.1 hd (Int16.toInt32_ofInt hn.1 hn.2) (k G hF V H locs ls hP hS hL v1 (mVs.cons trivial v2))
theorem mw_lconst {n : Fin 2} {pc' : Nat} (hd : mDc M pc (.lconst n) 1 pc') (k : At F M pc' L (mJ (n.val : Int) :: st) h) : At F M pc L st h := by
  obtain ⟨hd, rfl⟩ := hd
  intro G hF V H locs ls hP hS hL v1 v2
  exact lv_lconst V.1.1 V.1.2.1 hd (Int64.ofInt_eq_ofNat (n := n.val)).symm (k G hF V H locs ls hP hS hL v1 (mVs.cons trivial v2))
theorem mw_ldc {i : Nat} {x : Int} (hw : Cond.constant M.1.cls i (Int32.ofInt x) ∈ mTbl) {pc' : Nat} (hd : mDc M pc (.ldc i) 2 pc') (k : At F M pc' L (mI x :: st) h) : At F M pc L st h := by
  obtain ⟨hd, rfl⟩ := hd
  intro G hF V H locs ls hP hS hL v1 v2
  exact lv_ldc V.1.1 V.1.2.1 V.1.2.2.2.1 (V.1.2.2.2.2 _ hw) hd (k G hF V H locs ls hP hS hL v1 (mVs.cons trivial v2))
theorem mw_ldcw {i : Nat} {x : Int} (hw : Cond.constant M.1.cls i (Int32.ofInt x) ∈ mTbl) {pc' : Nat} (hd : mDc M pc (.ldc_w i) 3 pc') (k : At F M pc' L (mI x :: st) h) : At F M pc L st h := by
  obtain ⟨hd, rfl⟩ := hd
  intro G hF V H locs ls hP hS hL v1 v2
  exact lv_ldcw V.1.1 V.1.2.1 V.1.2.2.2.1 (V.1.2.2.2.2 _ hw) hd (k G hF V H locs ls hP hS hL v1 (mVs.cons trivial v2))
theorem mw_ldc2 {i : Nat} {x : Int} (hw : Cond.constantLong M.1.cls i (Int64.ofInt x) ∈ mTbl) {pc' : Nat} (hd : mDc M pc (.ldc2_w i) 3 pc') (k : At F M pc' L (mJ x :: st) h) : At F M pc L st h := by
  obtain ⟨hd, rfl⟩ := hd
  intro G hF V H locs ls hP hS hL v1 v2
  exact lv_ldc2 V.1.1 V.1.2.1 V.1.2.2.2.1 (V.1.2.2.2.2 _ hw) hd (k G hF V H locs ls hP hS hL v1 (mVs.cons trivial v2))
theorem mw_iload_n {n : Fin 4} {x : Int} {pc' : Nat} (hd : mDc M pc (.iload_n n) 1 pc') (hv : L[n.val]? = some (mI x)) (k : At F M pc' L (mI x :: st) h) : At F M pc L st h := by
  obtain ⟨hd, rfl⟩ := hd
  intro G hF V H locs ls hP hS hL v1 v2
  exact lv_iload_n V.1.1 V.1.2.1 hd rfl (hL.get hv (by intro z; cases z)) (k G hF V H locs ls hP hS hL v1 (mVs.cons trivial v2))
theorem mw_iload {i : Nat} {x : Int} {pc' : Nat} (hd : mDc M pc (.iload i) 2 pc') (hv : L[i]? = some (mI x)) (k : At F M pc' L (mI x :: st) h) : At F M pc L st h := by
  obtain ⟨hd, rfl⟩ := hd
  intro G hF V H locs ls hP hS hL v1 v2
  exact lv_iload V.1.1 V.1.2.1 hd (hL.get hv (by intro z; cases z)) (k G hF V H locs ls hP hS hL v1 (mVs.cons trivial v2))
theorem mw_lload_n {n : Fin 4} {x : Int} {pc' : Nat} (hd : mDc M pc (.lload_n n) 1 pc') (hv : L[n.val]? = some (mJ x)) (k : At F M pc' L (mJ x :: st) h) : At F M pc L st h := by
  obtain ⟨hd, rfl⟩ := hd
  intro G hF V H locs ls hP hS hL v1 v2
  exact lv_lload_n V.1.1 V.1.2.1 hd rfl (hL.get hv (by intro z; cases z)) (k G hF V H locs ls hP hS hL v1 (mVs.cons trivial v2))
theorem mw_lload {i : Nat} {x : Int} {pc' : Nat} (hd : mDc M pc (.lload i) 2 pc') (hv : L[i]? = some (mJ x)) (k : At F M pc' L (mJ x :: st) h) : At F M pc L st h := by
  obtain ⟨hd, rfl⟩ := hd
  intro G hF V H locs ls hP hS hL v1 v2
  exact lv_lload V.1.1 V.1.2.1 hd (hL.get hv (by intro z; cases z)) (k G hF V H locs ls hP hS hL v1 (mVs.cons trivial v2))
theorem mw_aload_n {n : Fin 4} {r : Nat} {i : Int} {pc' : Nat} (hd : mDc M pc (.aload_n n) 1 pc') (hv : L[n.val]? = some (mR r i)) (hr : r ≠ 0) (k : At F M pc' L (mR r i :: st) h) : At F M pc L st h := by
  obtain ⟨hd, rfl⟩ := hd
  intro G hF V H locs ls hP hS hL v1 v2
  exact lv_aload_n V.1.1 V.1.2.1 hd rfl (hL.get hv (by intro z; cases z; exact hr rfl)) (k G hF V H locs ls hP hS hL v1 (mVs.cons (v1 _ (List.mem_of_getElem? hv)) v2))
theorem mw_aload {j r : Nat} {i : Int} {pc' : Nat} (hd : mDc M pc (.aload j) 2 pc') (hv : L[j]? = some (mR r i)) (hr : r ≠ 0) (k : At F M pc' L (mR r i :: st) h) : At F M pc L st h := by
  obtain ⟨hd, rfl⟩ := hd
  intro G hF V H locs ls hP hS hL v1 v2
  exact lv_aload V.1.1 V.1.2.1 hd (hL.get hv (by intro z; cases z; exact hr rfl)) (k G hF V H locs ls hP hS hL v1 (mVs.cons (v1 _ (List.mem_of_getElem? hv)) v2))
theorem mw_istore_n {n : Fin 4} {x : Int} {pc' : Nat} (hd : mDc M pc (.istore_n n) 1 pc') (hn : n.val < M.2.2.1) (k : At F M pc' (mSt1 L n.val (mI x)) st h) : At F M pc L (mI x :: st) h := by
  obtain ⟨hd, rfl⟩ := hd
  intro G hF V H locs ls hP hS hL v1 v2
  exact lv_istore_n V.1.1 V.1.2.1 hd rfl hL.has hn rfl (fun ls hl => k G hF V H locs ls hP hS (mLs.st1 rfl hl) (mVs.st1 (v := mI x) v1 trivial _) v2.tl)
theorem mw_istore {i : Nat} {x : Int} {pc' : Nat} (hd : mDc M pc (.istore i) 2 pc') (hn : i < M.2.2.1) (k : At F M pc' (mSt1 L i (mI x)) st h) : At F M pc L (mI x :: st) h := by
  obtain ⟨hd, rfl⟩ := hd
  intro G hF V H locs ls hP hS hL v1 v2
  exact lv_istore V.1.1 V.1.2.1 hd hL.has hn rfl (fun ls hl => k G hF V H locs ls hP hS (mLs.st1 rfl hl) (mVs.st1 (v := mI x) v1 trivial _) v2.tl)
theorem mw_lstore_n {n : Fin 4} {x : Int} {pc' : Nat} (hd : mDc M pc (.lstore_n n) 1 pc') (hn : n.val + 1 < M.2.2.1) (k : At F M pc' (mSt2 L n.val (mJ x)) st h) : At F M pc L (mJ x :: st) h := by
  obtain ⟨hd, rfl⟩ := hd
  intro G hF V H locs ls hP hS hL v1 v2
  exact lv_lstore_n V.1.1 V.1.2.1 hd rfl hL.has hn rfl (fun ls hl => k G hF V H locs ls hP hS (mLs.st2 rfl hl) (mVs.st2 (v := mJ x) v1 trivial _) v2.tl)
theorem mw_lstore {i : Nat} {x : Int} {pc' : Nat} (hd : mDc M pc (.lstore i) 2 pc') (hn : i + 1 < M.2.2.1) (k : At F M pc' (mSt2 L i (mJ x)) st h) : At F M pc L (mJ x :: st) h := by
  obtain ⟨hd, rfl⟩ := hd
  intro G hF V H locs ls hP hS hL v1 v2
  exact lv_lstore V.1.1 V.1.2.1 hd hL.has hn rfl (fun ls hl => k G hF V H locs ls hP hS (mLs.st2 rfl hl) (mVs.st2 (v := mJ x) v1 trivial _) v2.tl)
theorem mw_iinc {i : Nat} {n x : Int} {pc' : Nat} (hd : mDc M pc (.iinc i n) 3 pc') (hv : L[i]? = some (mI x)) (hn : i < M.2.2.1) (k : At F M pc' (mSt1 L i (mI (x + n))) st h) : At F M pc L st h := by
  obtain ⟨hd, rfl⟩ := hd
  intro G hF V H locs ls hP hS hL v1 v2
  obtain ⟨j, hj⟩ := List.getElem?_of_mem ((mLof_mem (ad := mGad G) (q := (i, .int (Int32.ofInt x)))).mpr ⟨mI x, hv, (by intro z; cases z), rfl⟩)
  exact lv_iinc V.1.1 V.1.2.1 hd hL.has hj (o32_add x n) hn rfl (fun ls hl => k G hF V H locs ls hP hS (mLs.st1 rfl hl) (mVs.st1 (v := mI (x + n)) v1 trivial _) v2)
theorem mw_iadd {x y : Int} {pc' : Nat} (hd : mDc M pc (.iadd) 1 pc') (k : At F M pc' L (mI (x + y) :: st) h) : At F M pc L (mI y :: mI x :: st) h := by
  obtain ⟨hd, rfl⟩ := hd
  intro G hF V H locs ls hP hS hL v1 v2
  have k := k G hF V H locs ls hP hS hL v1 (mVs.cons trivial v2.tl.tl)
  refine lv_iadd V.1.1 V.1.2.1 hd ?_
  rw [o32_add]
  exact k
theorem mw_isub {x y : Int} {pc' : Nat} (hd : mDc M pc (.isub) 1 pc') (k : At F M pc' L (mI (x - y) :: st) h) : At F M pc L (mI y :: mI x :: st) h := by
  obtain ⟨hd, rfl⟩ := hd
  intro G hF V H locs ls hP hS hL v1 v2
  have k := k G hF V H locs ls hP hS hL v1 (mVs.cons trivial v2.tl.tl)
  refine lv_isub V.1.1 V.1.2.1 hd ?_
  rw [o32_sub]
  exact k
theorem mw_imul {x y : Int} {pc' : Nat} (hd : mDc M pc (.imul) 1 pc') (k : At F M pc' L (mI (x * y) :: st) h) : At F M pc L (mI y :: mI x :: st) h := by
  obtain ⟨hd, rfl⟩ := hd
  intro G hF V H locs ls hP hS hL v1 v2
  have k := k G hF V H locs ls hP hS hL v1 (mVs.cons trivial v2.tl.tl)
  refine lv_imul V.1.1 V.1.2.1 hd ?_
  rw [o32_mul]
  exact k
theorem mw_ladd {x y : Int} {pc' : Nat} (hd : mDc M pc (.ladd) 1 pc') (k : At F M pc' L (mJ (x + y) :: st) h) : At F M pc L (mJ y :: mJ x :: st) h := by
  obtain ⟨hd, rfl⟩ := hd
  intro G hF V H locs ls hP hS hL v1 v2
  have k := k G hF V H locs ls hP hS hL v1 (mVs.cons trivial v2.tl.tl)
  refine lv_ladd V.1.1 V.1.2.1 hd ?_
  rw [o64_add]
  exact k
theorem mw_lsub {x y : Int} {pc' : Nat} (hd : mDc M pc (.lsub) 1 pc') (k : At F M pc' L (mJ (x - y) :: st) h) : At F M pc L (mJ y :: mJ x :: st) h := by
  obtain ⟨hd, rfl⟩ := hd
  intro G hF V H locs ls hP hS hL v1 v2
  have k := k G hF V H locs ls hP hS hL v1 (mVs.cons trivial v2.tl.tl)
  refine lv_lsub V.1.1 V.1.2.1 hd ?_
  rw [o64_sub]
  exact k
theorem mw_lmul {x y : Int} {pc' : Nat} (hd : mDc M pc (.lmul) 1 pc') (k : At F M pc' L (mJ (x * y) :: st) h) : At F M pc L (mJ y :: mJ x :: st) h := by
  obtain ⟨hd, rfl⟩ := hd
  intro G hF V H locs ls hP hS hL v1 v2
  have k := k G hF V H locs ls hP hS hL v1 (mVs.cons trivial v2.tl.tl)
  refine lv_lmul V.1.1 V.1.2.1 hd ?_
  rw [o64_mul]
  exact k
theorem mw_iand {x y : Int} {pc' : Nat} (hd : mDc M pc (.iand) 1 pc') (k : At F M pc' L (mI (mAnd x y) :: st) h) : At F M pc L (mI y :: mI x :: st) h := by
  obtain ⟨hd, rfl⟩ := hd
  intro G hF V H locs ls hP hS hL v1 v2
  have k := k G hF V H locs ls hP hS hL v1 (mVs.cons trivial v2.tl.tl)
  refine lv_iand V.1.1 V.1.2.1 hd ?_
  rw [← Int32.ofInt_toInt (Int32.ofInt x &&& Int32.ofInt y)]
  exact k
theorem mw_ior {x y : Int} {pc' : Nat} (hd : mDc M pc (.ior) 1 pc') (k : At F M pc' L (mI (mOr x y) :: st) h) : At F M pc L (mI y :: mI x :: st) h := by
  obtain ⟨hd, rfl⟩ := hd
  intro G hF V H locs ls hP hS hL v1 v2
  have k := k G hF V H locs ls hP hS hL v1 (mVs.cons trivial v2.tl.tl)
  refine lv_ior V.1.1 V.1.2.1 hd ?_
  rw [← Int32.ofInt_toInt (Int32.ofInt x ||| Int32.ofInt y)]
  exact k
theorem mw_ixor {x y : Int} {pc' : Nat} (hd : mDc M pc (.ixor) 1 pc') (k : At F M pc' L (mI (mXor x y) :: st) h) : At F M pc L (mI y :: mI x :: st) h := by
  obtain ⟨hd, rfl⟩ := hd
  intro G hF V H locs ls hP hS hL v1 v2
  have k := k G hF V H locs ls hP hS hL v1 (mVs.cons trivial v2.tl.tl)
  refine lv_ixor V.1.1 V.1.2.1 hd ?_
  rw [← Int32.ofInt_toInt (Int32.ofInt x ^^^ Int32.ofInt y)]
  exact k
theorem mw_ishl {x y : Int} {pc' : Nat} (hd : mDc M pc (.ishl) 1 pc') (k : At F M pc' L (mI (mShl x y) :: st) h) : At F M pc L (mI y :: mI x :: st) h := by
  obtain ⟨hd, rfl⟩ := hd
  intro G hF V H locs ls hP hS hL v1 v2
  have k := k G hF V H locs ls hP hS hL v1 (mVs.cons trivial v2.tl.tl)
  refine lv_ishl V.1.1 V.1.2.1 hd ?_
  rw [← Int32.ofInt_toInt (Int32.ofInt x <<< (Int32.ofInt y &&& 31))]
  exact k
theorem mw_ishr {x y : Int} {pc' : Nat} (hd : mDc M pc (.ishr) 1 pc') (k : At F M pc' L (mI (mShr x y) :: st) h) : At F M pc L (mI y :: mI x :: st) h := by
  obtain ⟨hd, rfl⟩ := hd
  intro G hF V H locs ls hP hS hL v1 v2
  have k := k G hF V H locs ls hP hS hL v1 (mVs.cons trivial v2.tl.tl)
  refine lv_ishr V.1.1 V.1.2.1 hd ?_
  rw [← Int32.ofInt_toInt (Int32.ofInt x >>> (Int32.ofInt y &&& 31))]
  exact k
theorem mw_land {x y : Int} {pc' : Nat} (hd : mDc M pc (.land) 1 pc') (k : At F M pc' L (mJ (mAndL x y) :: st) h) : At F M pc L (mJ y :: mJ x :: st) h := by
  obtain ⟨hd, rfl⟩ := hd
  intro G hF V H locs ls hP hS hL v1 v2
  have k := k G hF V H locs ls hP hS hL v1 (mVs.cons trivial v2.tl.tl)
  refine lv_land V.1.1 V.1.2.1 hd ?_
  rw [← Int64.ofInt_toInt (Int64.ofInt x &&& Int64.ofInt y)]
  exact k
theorem mw_lshr {x y : Int} {pc' : Nat} (hd : mDc M pc (.lshr) 1 pc') (k : At F M pc' L (mJ (mShrL x y) :: st) h) : At F M pc L (mI y :: mJ x :: st) h := by
  obtain ⟨hd, rfl⟩ := hd
  intro G hF V H locs ls hP hS hL v1 v2
  exact lv_lshr V.1.1 V.1.2.1 hd (Int64.ofInt_toInt _).symm (k G hF V H locs ls hP hS hL v1 (mVs.cons trivial v2.tl.tl))
theorem mw_lneg {x : Int} {pc' : Nat} (hd : mDc M pc (.lneg) 1 pc') (k : At F M pc' L (mJ (-x) :: st) h) : At F M pc L (mJ x :: st) h := by
  obtain ⟨hd, rfl⟩ := hd
  intro G hF V H locs ls hP hS hL v1 v2
  have k := k G hF V H locs ls hP hS hL v1 (mVs.cons trivial v2.tl)
  refine lv_lneg V.1.1 V.1.2.1 hd ?_
  rw [o64_neg]
  exact k
theorem mw_idiv {x y : Int} {pc' : Nat} (hd : mDc M pc (.idiv) 1 pc') (hc : mInR x ∧ mInR y ∧ y ≠ 0) (k : At F M pc' L (mI (x.tdiv y) :: st) h) : At F M pc L (mI y :: mI x :: st) h := by
  obtain ⟨hd, rfl⟩ := hd
  intro G hF V H locs ls hP hS hL v1 v2
  have k := k G hF V H locs ls hP hS hL v1 (mVs.cons trivial v2.tl.tl)
  refine lv_idiv V.1.1 V.1.2.1 hd (fun z => hc.2.2 ((o32_eq hc.2.1 (y := 0) (by decide)).mp z)) ?_
  rw [o32_div hc.1 hc.2.1]
  exact k
theorem mw_ldiv {x y : Int} {pc' : Nat} (hd : mDc M pc (.ldiv) 1 pc') (hc : mInL x ∧ mInL y ∧ y ≠ 0) (k : At F M pc' L (mJ (x.tdiv y) :: st) h) : At F M pc L (mJ y :: mJ x :: st) h := by
  obtain ⟨hd, rfl⟩ := hd
  intro G hF V H locs ls hP hS hL v1 v2
  have k := k G hF V H locs ls hP hS hL v1 (mVs.cons trivial v2.tl.tl)
  refine lv_ldiv V.1.1 V.1.2.1 hd (fun z => hc.2.2 ((o64_eq hc.2.1 (y := 0) (by decide)).mp z)) ?_
  rw [o64_div hc.1 hc.2.1]
  exact k
theorem mw_irem {x y : Int} {pc' : Nat} (hd : mDc M pc (.irem) 1 pc') (hc : mInR x ∧ mInR y ∧ y ≠ 0) (k : At F M pc' L (mI (x.tmod y) :: st) h) : At F M pc L (mI y :: mI x :: st) h := by
  obtain ⟨hd, rfl⟩ := hd
  intro G hF V H locs ls hP hS hL v1 v2
  have k := k G hF V H locs ls hP hS hL v1 (mVs.cons trivial v2.tl.tl)
  refine lv_irem V.1.1 V.1.2.1 hd (fun z => hc.2.2 ((o32_eq hc.2.1 (y := 0) (by decide)).mp z)) ?_
  rw [o32_div hc.1 hc.2.1, o32_mul, o32_sub, show x - x.tdiv y * y = x.tmod y from by rw [Int.tmod_def, Int.mul_comm]]
  exact k
theorem mw_lrem {x y : Int} {pc' : Nat} (hd : mDc M pc (.lrem) 1 pc') (hc : mInL x ∧ mInL y ∧ y ≠ 0) (k : At F M pc' L (mJ (x.tmod y) :: st) h) : At F M pc L (mJ y :: mJ x :: st) h := by
  obtain ⟨hd, rfl⟩ := hd
  intro G hF V H locs ls hP hS hL v1 v2
  have k := k G hF V H locs ls hP hS hL v1 (mVs.cons trivial v2.tl.tl)
  refine lv_lrem V.1.1 V.1.2.1 hd (fun z => hc.2.2 ((o64_eq hc.2.1 (y := 0) (by decide)).mp z)) ?_
  rw [o64_div hc.1 hc.2.1, o64_mul, o64_sub, show x - x.tdiv y * y = x.tmod y from by rw [Int.tmod_def, Int.mul_comm]]
  exact k
theorem mw_i2l {x : Int} {pc' : Nat} (hd : mDc M pc (.i2l) 1 pc') (hc : mInR x) (k : At F M pc' L (mJ x :: st) h) : At F M pc L (mI x :: st) h := by
  obtain ⟨hd, rfl⟩ := hd
  intro G hF V H locs ls hP hS hL v1 v2
  exact lv_i2l V.1.1 V.1.2.1 hd (o32_l hc) (k G hF V H locs ls hP hS hL v1 (mVs.cons trivial v2.tl))
theorem mw_l2i {x : Int} {pc' : Nat} (hd : mDc M pc (.l2i) 1 pc') (k : At F M pc' L (mI x :: st) h) : At F M pc L (mJ x :: st) h := by
  obtain ⟨hd, rfl⟩ := hd
  intro G hF V H locs ls hP hS hL v1 v2
  exact lv_l2i V.1.1 V.1.2.1 hd (o64_i x) (k G hF V H locs ls hP hS hL v1 (mVs.cons trivial v2.tl))
theorem mw_i2b {x : Int} {pc' : Nat} (hd : mDc M pc (.i2b) 1 pc') (k : At F M pc' L (mI (mI2b x) :: st) h) : At F M pc L (mI x :: st) h := by
  obtain ⟨hd, rfl⟩ := hd
  intro G hF V H locs ls hP hS hL v1 v2
  exact lv_i2b V.1.1 V.1.2.1 hd (Int32.ofInt_toInt _).symm (k G hF V H locs ls hP hS hL v1 (mVs.cons trivial v2.tl))
theorem mIv_c1 {ad : Nat → Int → Nat} {v : mV} (hc : ∀ x, v ≠ mJ x) : (mIv ad v).category = 1 := by
  rcases v with x | x | q
  · rfl
  · exact absurd rfl (hc x)
  · rfl
theorem mw_dup {v : mV} {pc' : Nat} (hd : mDc M pc (.dup) 1 pc') (hc : ∀ x, v ≠ mJ x) (k : At F M pc' L (v :: v :: st) h) : At F M pc L (v :: st) h := by
  obtain ⟨hd, rfl⟩ := hd
  intro G hF V H locs ls hP hS hL v1 v2
  exact lv_dup V.1.1 V.1.2.1 hd (mIv_c1 hc) (k G hF V H locs ls hP hS hL v1 (mVs.cons v2.hd v2))
theorem mw_pop {v : mV} {pc' : Nat} (hd : mDc M pc (.pop) 1 pc') (hc : ∀ x, v ≠ mJ x) (k : At F M pc' L st h) : At F M pc L (v :: st) h := by
  obtain ⟨hd, rfl⟩ := hd
  intro G hF V H locs ls hP hS hL v1 v2
  exact lv_pop V.1.1 V.1.2.1 hd (mIv_c1 hc) (k G hF V H locs ls hP hS hL v1 v2.tl)
theorem mw_dup2 {v u : mV} {pc' : Nat} (hd : mDc M pc (.dup2) 1 pc') (hc : ∀ x, v ≠ mJ x) (hc2 : ∀ x, u ≠ mJ x) (k : At F M pc' L (v :: u :: v :: u :: st) h) : At F M pc L (v :: u :: st) h := by
  obtain ⟨hd, rfl⟩ := hd
  intro G hF V H locs ls hP hS hL v1 v2
  exact lv_dup2_11 V.1.1 V.1.2.1 hd (mIv_c1 hc) (mIv_c1 hc2) (k G hF V H locs ls hP hS hL v1 (mVs.cons v2.hd (mVs.cons v2.tl.hd v2)))
theorem mw_dup_x1 {v u : mV} {pc' : Nat} (hd : mDc M pc (.dup_x1) 1 pc') (hc : ∀ x, v ≠ mJ x) (hc2 : ∀ x, u ≠ mJ x) (k : At F M pc' L (v :: u :: v :: st) h) : At F M pc L (v :: u :: st) h := by
  obtain ⟨hd, rfl⟩ := hd
  intro G hF V H locs ls hP hS hL v1 v2
  exact lv_dup_x1 V.1.1 V.1.2.1 hd (mIv_c1 hc) (mIv_c1 hc2) (k G hF V H locs ls hP hS hL v1 (mVs.cons v2.hd (mVs.cons v2.tl.hd (mVs.cons v2.hd v2.tl.tl))))
theorem mw_goto {off : Int} (tgt : Nat) {pc' : Nat} (hd : mDc M pc (.goto off) 3 pc') (ht : (pc : Int) + off = (tgt : Int)) (k : At F M tgt L st h) : At F M pc L st h := by
  obtain ⟨hd, rfl⟩ := hd
  intro G hF V H locs ls hP hS hL v1 v2
  exact lv_goto V.1.1 V.1.2.1 hd ht (k G hF V H locs ls hP hS hL v1 v2)
theorem mw_if_eq {x off : Int} (tgt : Nat) {pc' : Nat} (hd : mDc M pc (.ifCond .eq off) 3 pc') (ht : (pc : Int) + off = (tgt : Int)) (hc : mInR x) (kt : x = 0 → At F M tgt L st h) (kf : ¬ x = 0 → At F M pc' L st h) : At F M pc L (mI x :: st) h := by
  obtain ⟨hd, rfl⟩ := hd
  intro G hF V H locs ls hP hS hL v1 v2
  exact lv_if_eq V.1.1 V.1.2.1 hd ht (fun z => kt ((o32_eq hc (y := 0) (by decide)).mp z) G hF V H locs ls hP hS hL v1 v2.tl) (fun z => kf ((fun y9 => z ((o32_eq hc (y := 0) (by decide)).mpr y9))) G hF V H locs ls hP hS hL v1 v2.tl)
theorem mw_icmp_eq {x y off : Int} (tgt : Nat) {pc' : Nat} (hd : mDc M pc (.if_icmp .eq off) 3 pc') (ht : (pc : Int) + off = (tgt : Int)) (hc : mInR x ∧ mInR y) (kt : x = y → At F M tgt L st h) (kf : ¬ x = y → At F M pc' L st h) : At F M pc L (mI y :: mI x :: st) h := by
  obtain ⟨hd, rfl⟩ := hd
  intro G hF V H locs ls hP hS hL v1 v2
  exact lv_icmp_eq V.1.1 V.1.2.1 hd ht (fun z => kt ((o32_eq hc.1 hc.2).mp z) G hF V H locs ls hP hS hL v1 v2.tl.tl) (fun z => kf ((fun y9 => z ((o32_eq hc.1 hc.2).mpr y9))) G hF V H locs ls hP hS hL v1 v2.tl.tl)
theorem mw_if_ne {x off : Int} (tgt : Nat) {pc' : Nat} (hd : mDc M pc (.ifCond .ne off) 3 pc') (ht : (pc : Int) + off = (tgt : Int)) (hc : mInR x) (kt : ¬ x = 0 → At F M tgt L st h) (kf : x = 0 → At F M pc' L st h) : At F M pc L (mI x :: st) h := by
  obtain ⟨hd, rfl⟩ := hd
  intro G hF V H locs ls hP hS hL v1 v2
  exact lv_if_ne V.1.1 V.1.2.1 hd ht (fun z => kt ((fun y9 => z ((o32_eq hc (y := 0) (by decide)).mpr y9))) G hF V H locs ls hP hS hL v1 v2.tl) (fun z => kf ((o32_eq hc (y := 0) (by decide)).mp z) G hF V H locs ls hP hS hL v1 v2.tl)
theorem mw_icmp_ne {x y off : Int} (tgt : Nat) {pc' : Nat} (hd : mDc M pc (.if_icmp .ne off) 3 pc') (ht : (pc : Int) + off = (tgt : Int)) (hc : mInR x ∧ mInR y) (kt : ¬ x = y → At F M tgt L st h) (kf : x = y → At F M pc' L st h) : At F M pc L (mI y :: mI x :: st) h := by
  obtain ⟨hd, rfl⟩ := hd
  intro G hF V H locs ls hP hS hL v1 v2
  exact lv_icmp_ne V.1.1 V.1.2.1 hd ht (fun z => kt ((fun y9 => z ((o32_eq hc.1 hc.2).mpr y9))) G hF V H locs ls hP hS hL v1 v2.tl.tl) (fun z => kf ((o32_eq hc.1 hc.2).mp z) G hF V H locs ls hP hS hL v1 v2.tl.tl)
theorem mw_if_lt {x off : Int} (tgt : Nat) {pc' : Nat} (hd : mDc M pc (.ifCond .lt off) 3 pc') (ht : (pc : Int) + off = (tgt : Int)) (hc : mInR x) (kt : x < 0 → At F M tgt L st h) (kf : ¬ x < 0 → At F M pc' L st h) : At F M pc L (mI x :: st) h := by
  obtain ⟨hd, rfl⟩ := hd
  intro G hF V H locs ls hP hS hL v1 v2
  exact lv_if_lt V.1.1 V.1.2.1 hd ht (fun z => kt ((o32_lt hc (y := 0) (by decide)).mp z) G hF V H locs ls hP hS hL v1 v2.tl) (fun z => kf ((fun y9 => z ((o32_lt hc (y := 0) (by decide)).mpr y9))) G hF V H locs ls hP hS hL v1 v2.tl)
theorem mw_icmp_lt {x y off : Int} (tgt : Nat) {pc' : Nat} (hd : mDc M pc (.if_icmp .lt off) 3 pc') (ht : (pc : Int) + off = (tgt : Int)) (hc : mInR x ∧ mInR y) (kt : x < y → At F M tgt L st h) (kf : ¬ x < y → At F M pc' L st h) : At F M pc L (mI y :: mI x :: st) h := by
  obtain ⟨hd, rfl⟩ := hd
  intro G hF V H locs ls hP hS hL v1 v2
  exact lv_icmp_lt V.1.1 V.1.2.1 hd ht (fun z => kt ((o32_lt hc.1 hc.2).mp z) G hF V H locs ls hP hS hL v1 v2.tl.tl) (fun z => kf ((fun y9 => z ((o32_lt hc.1 hc.2).mpr y9))) G hF V H locs ls hP hS hL v1 v2.tl.tl)
theorem mw_if_ge {x off : Int} (tgt : Nat) {pc' : Nat} (hd : mDc M pc (.ifCond .ge off) 3 pc') (ht : (pc : Int) + off = (tgt : Int)) (hc : mInR x) (kt : 0 ≤ x → At F M tgt L st h) (kf : ¬ 0 ≤ x → At F M pc' L st h) : At F M pc L (mI x :: st) h := by
  obtain ⟨hd, rfl⟩ := hd
  intro G hF V H locs ls hP hS hL v1 v2
  exact lv_if_ge V.1.1 V.1.2.1 hd ht (fun z => kt ((o32_le (x := 0) (by decide) hc).mp z) G hF V H locs ls hP hS hL v1 v2.tl) (fun z => kf ((fun y9 => z ((o32_le (x := 0) (by decide) hc).mpr y9))) G hF V H locs ls hP hS hL v1 v2.tl)
theorem mw_icmp_ge {x y off : Int} (tgt : Nat) {pc' : Nat} (hd : mDc M pc (.if_icmp .ge off) 3 pc') (ht : (pc : Int) + off = (tgt : Int)) (hc : mInR x ∧ mInR y) (kt : y ≤ x → At F M tgt L st h) (kf : ¬ y ≤ x → At F M pc' L st h) : At F M pc L (mI y :: mI x :: st) h := by
  obtain ⟨hd, rfl⟩ := hd
  intro G hF V H locs ls hP hS hL v1 v2
  exact lv_icmp_ge V.1.1 V.1.2.1 hd ht (fun z => kt ((o32_le hc.2 hc.1).mp z) G hF V H locs ls hP hS hL v1 v2.tl.tl) (fun z => kf ((fun y9 => z ((o32_le hc.2 hc.1).mpr y9))) G hF V H locs ls hP hS hL v1 v2.tl.tl)
theorem mw_if_gt {x off : Int} (tgt : Nat) {pc' : Nat} (hd : mDc M pc (.ifCond .gt off) 3 pc') (ht : (pc : Int) + off = (tgt : Int)) (hc : mInR x) (kt : 0 < x → At F M tgt L st h) (kf : ¬ 0 < x → At F M pc' L st h) : At F M pc L (mI x :: st) h := by
  obtain ⟨hd, rfl⟩ := hd
  intro G hF V H locs ls hP hS hL v1 v2
  exact lv_if_gt V.1.1 V.1.2.1 hd ht (fun z => kt ((o32_lt (x := 0) (by decide) hc).mp z) G hF V H locs ls hP hS hL v1 v2.tl) (fun z => kf ((fun y9 => z ((o32_lt (x := 0) (by decide) hc).mpr y9))) G hF V H locs ls hP hS hL v1 v2.tl)
theorem mw_icmp_gt {x y off : Int} (tgt : Nat) {pc' : Nat} (hd : mDc M pc (.if_icmp .gt off) 3 pc') (ht : (pc : Int) + off = (tgt : Int)) (hc : mInR x ∧ mInR y) (kt : y < x → At F M tgt L st h) (kf : ¬ y < x → At F M pc' L st h) : At F M pc L (mI y :: mI x :: st) h := by
  obtain ⟨hd, rfl⟩ := hd
  intro G hF V H locs ls hP hS hL v1 v2
  exact lv_icmp_gt V.1.1 V.1.2.1 hd ht (fun z => kt ((o32_lt hc.2 hc.1).mp z) G hF V H locs ls hP hS hL v1 v2.tl.tl) (fun z => kf ((fun y9 => z ((o32_lt hc.2 hc.1).mpr y9))) G hF V H locs ls hP hS hL v1 v2.tl.tl)
theorem mw_if_le {x off : Int} (tgt : Nat) {pc' : Nat} (hd : mDc M pc (.ifCond .le off) 3 pc') (ht : (pc : Int) + off = (tgt : Int)) (hc : mInR x) (kt : x ≤ 0 → At F M tgt L st h) (kf : ¬ x ≤ 0 → At F M pc' L st h) : At F M pc L (mI x :: st) h := by
  obtain ⟨hd, rfl⟩ := hd
  intro G hF V H locs ls hP hS hL v1 v2
  exact lv_if_le V.1.1 V.1.2.1 hd ht (fun z => kt ((o32_le hc (y := 0) (by decide)).mp z) G hF V H locs ls hP hS hL v1 v2.tl) (fun z => kf ((fun y9 => z ((o32_le hc (y := 0) (by decide)).mpr y9))) G hF V H locs ls hP hS hL v1 v2.tl)
theorem mw_icmp_le {x y off : Int} (tgt : Nat) {pc' : Nat} (hd : mDc M pc (.if_icmp .le off) 3 pc') (ht : (pc : Int) + off = (tgt : Int)) (hc : mInR x ∧ mInR y) (kt : x ≤ y → At F M tgt L st h) (kf : ¬ x ≤ y → At F M pc' L st h) : At F M pc L (mI y :: mI x :: st) h := by
  obtain ⟨hd, rfl⟩ := hd
  intro G hF V H locs ls hP hS hL v1 v2
  exact lv_icmp_le V.1.1 V.1.2.1 hd ht (fun z => kt ((o32_le hc.1 hc.2).mp z) G hF V H locs ls hP hS hL v1 v2.tl.tl) (fun z => kf ((fun y9 => z ((o32_le hc.1 hc.2).mpr y9))) G hF V H locs ls hP hS hL v1 v2.tl.tl)
end MMR
