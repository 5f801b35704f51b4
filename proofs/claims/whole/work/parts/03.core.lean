/-! THE SMALL MACHINE: values are whole numbers (Int), a cell is named by a role and a number; the heap is what the cells hold. -/
abbrev mV : Type := Int ⊕ Int ⊕ (Nat × Int)
abbrev mH : Type := Nat → Int → Int → Int
abbrev mI (x : Int) : mV := Sum.inl x
abbrev mJ (x : Int) : mV := Sum.inr (Sum.inl x)
abbrev mR (r : Nat) (i : Int) : mV := Sum.inr (Sum.inr (r, i))
/-- a place of the locals of which nothing is known -/
abbrev mU : mV := Sum.inr (Sum.inr (0, 0))
abbrev mInR (x : Int) : Prop := -2147483648 ≤ x ∧ x < 2147483648
abbrev mInL (x : Int) : Prop := -9223372036854775808 ≤ x ∧ x < 9223372036854775808
def mIv (ad : Nat → Int → Nat) : mV → Value
  | .inl x => .int (Int32.ofInt x)
  | .inr (.inl x) => .long (Int64.ofInt x)
  | .inr (.inr q) => .ref (ad q.1 q.2)
def mSet (h : mH) (r : Nat) (i k v : Int) : mH := fun r' i' k' => if r' = r ∧ i' = i ∧ k' = k then v else h r' i' k'
/-- fields of an object: none: a number; some: where it points -/
abbrev mFd : Type := Option (Nat × (Int → Int))
/-- what a role is: a row (kind 0 byte, 1 int, 2 long, 3 boolean, 4 of Books; its length), or an object (its number in vwCl, its fields) -/
def mT (r : Nat) : (Nat × Nat) ⊕ (Nat × List mFd) := match r with
  | 1 => .inr (0, [none, none, none, none, none, none, none, some (2, fun i => i), some (3, fun i => i), some (4, fun i => i), some (5, fun i => i), some (6, fun i => i)])
  | 2 => .inl (1, 40)
  | 3 => .inl (1, 40)
  | 4 => .inl (1, 40)
  | 5 => .inl (1, 40)
  | 6 => .inl (1, 32)
  | 7 => .inr (3, [none, none, none, some (8, fun i => i), some (9, fun i => i), some (10, fun i => i), some (11, fun i => i)])
  | 8 => .inl (1, 4)
  | 9 => .inl (1, 4)
  | 10 => .inl (1, 4)
  | 11 => .inl (1, 4)
  | 12 => .inr (2, [some (7, fun _ => 0), some (1, fun i => i), some (13, fun i => i), some (14, fun i => i), some (15, fun i => i), some (16, fun i => i), some (17, fun i => i)])
  | 13 => .inl (2, 40)
  | 14 => .inl (2, 32)
  | 15 => .inl (2, 32)
  | 16 => .inl (2, 32)
  | 17 => .inl (1, 32)
  | 18 => .inr (1, [some (12, fun _ => 0), some (1, fun _ => 0), some (19, fun i => i), none, none])
  | 19 => .inl (2, 40)
  | 20 => .inr (5, [some (21, fun i => i), some (22, fun i => i), some (23, fun i => i), none, none])
  | 21 => .inl (1, 901)
  | 22 => .inl (1, 901)
  | 23 => .inl (1, 901)
  | 24 => .inr (4, [some (20, fun _ => 0), some (7, fun _ => 1), some (1, fun _ => 2), none, none, none, none, none, none, none, none])
  | 25 => .inr (6, [some (26, fun _ => 0), none, none, none, some (7, fun _ => 0), some (1, fun _ => 0), some (12, fun _ => 0), some (18, fun _ => 0), some (1, fun _ => 1), some (12, fun _ => 1), some (24, fun _ => 0), some (1, fun _ => 3), none, some (27, fun _ => 0), none, none])
  | 26 => .inl (0, 900)
  | 27 => .inl (4, 20)
  | 30 => .inr (7, [none, some (31, fun _ => 0), none, some (32, fun _ => 0), some (33, fun _ => 0), some (34, fun _ => 0), some (35, fun _ => 0), some (36, fun _ => 0), some (37, fun _ => 0), some (38, fun _ => 0), some (39, fun _ => 0), some (40, fun _ => 0), none, none, none, none, none, none, none, none, none, none, some (41, fun _ => 0), some (42, fun _ => 0), some (43, fun _ => 0), some (44, fun _ => 0), none, none, some (45, fun _ => 0), none])
  | 31 => .inl (1, 900)
  | 32 => .inl (1, 18)
  | 33 => .inl (3, 6)
  | 34 => .inl (1, 8)
  | 35 => .inl (1, 8)
  | 36 => .inl (1, 8)
  | 37 => .inl (1, 8)
  | 38 => .inl (3, 8)
  | 39 => .inl (1, 8)
  | 40 => .inl (1, 280)
  | 41 => .inl (1, 314)
  | 42 => .inl (1, 314)
  | 43 => .inl (1, 314)
  | 44 => .inl (1, 6280)
  | 45 => .inl (1, 4)
  | 46 => .inl (2, 1)
  | _ => .inl (1, 0)
def mFs (ad : Nat → Int → Nat) (h : mH) (r : Nat) (i : Int) (fs : List mFd) : List Value := fs.mapIdx (fun k d => match d with
  | none => .int (Int32.ofInt (h r i (k : Int)))
  | some q => .ref (ad q.1 (q.2 i)))
def mRow (ad : Nat → Int → Nat) (h : mH) (r : Nat) (i : Int) (k n : Nat) : vp_A := match k with
  | 2 => (n, .inr (.inl (fun j => Int64.ofInt (h r i (j : Int)))))
  | 4 => (n, .inr (.inr (.inr (.inr (fun j => some (ad 1 (4 + (j : Int))))))))
  | _ => (n, .inl (fun j => Int32.ofInt (h r i (j : Int))))
def mEnt (cA : Nat → ClassId) (ad : Nat → Int → Nat) (h : mH) (q : Nat × Int) : va_E := match mT q.1 with
  | .inl a => .inl (cA a.1, mRow ad h q.1 q.2 a.1 a.2)
  | .inr o => .inr (o.1, mFs ad h q.1 q.2 o.2)
/-- the world of the cells ids, holding h -/
def mW (cA : Nat → ClassId) (ad : Nat → Int → Nat) (ids : List (Nat × Int)) (h : mH) : va_W := ids.map (fun q => (ad q.1 q.2, mEnt cA ad h q))
def mTys (cA : Nat → ClassId) : List (ClassId × FieldType) := [(cA 0, .byte), (cA 1, .int), (cA 2, .long), (cA 3, .boolean), (cA 4, .object "RateOffice$Book")]
/-- where a field or a row of Books points is a cell of the world, too -/
def mClosed (ids : List (Nat × Int)) : Prop :=
  (∀ (r : Nat) (i : Int) (ci : Nat) (fs : List mFd) (k : Nat) (q : Nat × (Int → Int)), (r, i) ∈ ids → mT r = .inr (ci, fs) → fs[k]? = some (some q) → (q.1, q.2 i) ∈ ids) ∧
  ∀ (r : Nat) (i : Int) (n : Nat), (r, i) ∈ ids → mT r = .inl (4, n) → ∀ k : Int, 0 ≤ k → k < n → ((1, 4 + k) : Nat × Int) ∈ ids
def mVal (ids : List (Nat × Int)) : mV → Prop
  | .inl _ => True
  | .inr (.inl _) => True
  | .inr (.inr q) => 1 ≤ q.1 → q.1 < 50 → q ∈ ids
def mVs (ids : List (Nat × Int)) (l : List mV) : Prop := ∀ v ∈ l, mVal ids v
theorem mVs.cons {ids : List (Nat × Int)} {v : mV} {l : List mV} (h : mVal ids v) (h2 : mVs ids l) : mVs ids (v :: l) := fun w hw => (List.mem_cons.mp hw).elim (fun e => e ▸ h) (h2 w)
theorem mVs.tl {ids : List (Nat × Int)} {v : mV} {l : List mV} (h : mVs ids (v :: l)) : mVs ids l := fun w hw => h w (List.mem_cons_of_mem _ hw)
theorem mVs.hd {ids : List (Nat × Int)} {v : mV} {l : List mV} (h : mVs ids (v :: l)) : mVal ids v := h v List.mem_cons_self
theorem mVs.app {ids : List (Nat × Int)} {l l2 : List mV} (h : mVs ids (l ++ l2)) : mVs ids l ∧ mVs ids l2 := ⟨fun w hw => h w (List.mem_append_left _ hw), fun w hw => h w (List.mem_append_right _ hw)⟩
/-- the good words of the tables -/
def mTbl : List Cond := lw_tbl.filter goodWord
theorem mTbl_of {w : Cond} (i : Nat) (h : lw_tbl[i]? = some w) (hg : goodWord w = true) : w ∈ mTbl := List.mem_filter.mpr ⟨List.mem_of_getElem? h, hg⟩
theorem mTbl_good {ws : List Cond} (h : ∀ w ∈ ws, w ∈ mTbl) : GoodIn mTbl ws := fun w hw => ⟨h w hw, good_of_word (List.mem_filter.mp (h w hw)).2⟩
/-- a method: name, code, places of locals, what it returns, how deep its calls go -/
abbrev mMs : Type := MethodName × ByteArray × Nat × Option FieldType × Nat
abbrev mRoom (d : Nat) : Room := { frames := d, cells := 0, slots := 0, locals := 40 * d }
def mWs (M : mMs) : List Cond := Cond.code M.1 M.2.1 M.2.2.1 M.2.2.2.1 :: mTbl
/-- private methods that are called out of the nest -/
def mNst : List (String × Nat × MethodName × String) := [("RateOffice$Book", 62, ⟨"RateOffice", "slot", "(II)I"⟩, "RateOffice"), ("RateOffice$Reader", 152, ⟨"RateOffice", "slotShift", "(I)I"⟩, "RateOffice"), ("RateOffice$Fit", 88, ⟨"RateOffice", "slot", "(II)I"⟩, "RateOffice"), ("RateOffice$Fit", 92, ⟨"RateOffice", "levelIn", "(II)I"⟩, "RateOffice"), ("RateOffice$Fit", 145, ⟨"RateOffice", "clamp", "(JII)I"⟩, "RateOffice"), ("RateOffice$Plan", 48, ⟨"RateOffice", "slotShift", "(I)I"⟩, "RateOffice"), ("RateOffice$Plan", 52, ⟨"RateOffice", "levelIn", "(II)I"⟩, "RateOffice"), ("RateOffice", 57, ⟨"RateOffice$Reader", "<init>", "()V"⟩, "RateOffice"), ("RateOffice$Reader", 11, ⟨"RateOffice$Tokens", "<init>", "()V"⟩, "RateOffice")]
def mNests (U : State) : Prop := ∀ q ∈ mNst, va_Nw (.methodLinkNest q.1 q.2.1 q.2.2.1 q.2.2.2) U
theorem mNests.warm {s U : State} (hW : s.WarmedH U.vm) (h : mNests s) : mNests U := fun q hq => va_Nw.warmM hW (h q hq)
theorem mNests.same {s U : State} (e : s.vm = U.vm) (h : mNests s) : mNests U := fun q hq => va_Nw.same rfl e (h q hq)
/-- the two texts of words, as bytes -/
def mTx0 : String := "factor band join risk base bound cap trust fleet seed "
def mTx1 : String := "base bound cap seed trust fleet factor band join risk "
def mBy0 : List Int32 := [102, 97, 99, 116, 111, 114, 32, 98, 97, 110, 100, 32, 106, 111, 105, 110, 32, 114, 105, 115, 107, 32, 98, 97, 115, 101, 32, 98, 111, 117, 110, 100, 32, 99, 97, 112, 32, 116, 114, 117, 115, 116, 32, 102, 108, 101, 101, 116, 32, 115, 101, 101, 100, 32]
def mBy1 : List Int32 := [98, 97, 115, 101, 32, 98, 111, 117, 110, 100, 32, 99, 97, 112, 32, 115, 101, 101, 100, 32, 116, 114, 117, 115, 116, 32, 102, 108, 101, 101, 116, 32, 102, 97, 99, 116, 111, 114, 32, 98, 97, 110, 100, 32, 106, 111, 105, 110, 32, 114, 105, 115, 107, 32]
def mStr (ad : Nat → Int → Nat) (A : Nat → Prop) (U : State) (H : Heap) : Prop :=
  vk_R "RateOffice$Tokens" 63 mTx0 (ad 60 0) U ∧ vk_R "RateOfficeModel" 108 mTx1 (ad 60 1) U ∧ vk_S 2 [54, 54] [mBy0, mBy1] (fun i => ad 60 (i : Int)) (fun i => ad 61 (i : Int)) A U H ∧ va_Z "java/lang/String" "COMPACT_STRINGS" "Z" (.int 1) A U H ∧ va_Zq "jdk/internal/util/Preconditions" "SIOOBE_FORMATTER" "Ljava/util/function/BiFunction;" A U H
theorem mStr.warm {ad : Nat → Int → Nat} {A : Nat → Prop} {s U : State} {H : Heap} (hW : s.WarmedH U.vm) (h : mStr ad A s H) : mStr ad A U H := by
  obtain ⟨h1, h2, h3, h4, h5⟩ := h
  exact ⟨h1.warm hW, h2.warm hW, h3.moved hW.alike, h4.moved hW.alike, h5.moved hW.alike⟩
theorem mStr.same {ad : Nat → Int → Nat} {A : Nat → Prop} {s U : State} {H : Heap} (e : U.vm = s.vm) (h : mStr ad A s H) : mStr ad A U H := by
  obtain ⟨h1, h2, h3, h4, h5⟩ := h
  exact ⟨h1.same e, h2.same e, h3.moved (by rw [e]; exact Vm.Alike.refl _), h4.moved (by rw [e]; exact Vm.Alike.refl _), h5.moved (by rw [e]; exact Vm.Alike.refl _)⟩
theorem mStr.kept {ad : Nat → Int → Nat} {A : Nat → Prop} {s : State} {H H1 : Heap} (hq : ∀ a : Nat, a < H.size → ¬ A a → H1[a]? = H[a]?) (h : mStr ad A s H) : mStr ad A s H1 := by
  obtain ⟨h1, h2, h3, h4, h5⟩ := h
  exact ⟨h1, h2, h3.kept hq, h4.kept hq, h5.kept hq⟩
theorem mStr.narrow {ad : Nat → Int → Nat} {A B : Nat → Prop} {s : State} {H : Heap} (hAB : ∀ q, B q → A q) (h : mStr ad A s H) : mStr ad B s H := by
  obtain ⟨h1, h2, h3, h4, h5⟩ := h
  exact ⟨h1, h2, h3.narrow hAB, h4.narrow hAB, h5.narrow hAB⟩
/-- what the tables say of a state, beside the good words -/
def mFx (D : va_G) (cA : Nat → ClassId) (ad : Nat → Int → Nat) (A : Nat → Prop) (U : State) (H : Heap) : Prop := va_K D vwCl (mTys cA) U ∧ mNests U ∧ mStr ad A U H
/-- a walk's surroundings: the machine; the method; the world; what may change, room that is used, the end that is wanted -/
abbrev mG : Type := (Program × Launch × Env × Room × State) × (MethodId × Array Value × List Frame × Method × Code) × (va_G × (Nat → ClassId) × (Nat → Int → Nat) × List (Nat × Int)) × ((Nat → Prop) × Nat × Nat × (State → Prop))
abbrev mGs (G : mG) : State := G.1.2.2.2.2
abbrev mGD (G : mG) : va_G := G.2.2.1.1
abbrev mGc (G : mG) : Nat → ClassId := G.2.2.1.2.1
abbrev mGad (G : mG) : Nat → Int → Nat := G.2.2.1.2.2.1
abbrev mGids (G : mG) : List (Nat × Int) := G.2.2.1.2.2.2
abbrev mGA (G : mG) : Nat → Prop := G.2.2.2.1
abbrev mGW (G : mG) (H : Heap) (locs : List Loc) (g : JFrame) : Prop :=
  W G.1.1 G.1.2.1 G.1.2.2.1 G.1.2.2.2.1 (mGs G) G.2.1.1 G.2.1.2.1 G.2.1.2.2.1 G.2.1.2.2.2.1 G.2.1.2.2.2.2 H locs G.2.2.2.2.1 G.2.2.2.2.2.1 G.2.2.2.2.2.2 g
abbrev mGF (G : mG) (pc : Nat) (ls : Array Slot) (st : List mV) : JFrame := F0 G.2.1.1 pc ls (st.map (mIv (mGad G)))
/-- what a walk of M stands on -/
def mOk (G : mG) (M : mMs) : Prop :=
  (G.1.1.tables.exec = Jvm.exec ∧ G.2.1.2.2.2.2.code = M.2.1 ∧ G.2.1.2.2.2.2.maxLocals = M.2.2.1 ∧ (mGs G).vm.findClass M.1.cls = some G.2.1.1.cls ∧ ∀ w ∈ mTbl, w.before G.2.1.2.1 (mGs G) = true) ∧
  (G.2.1.2.2.2.1.sig.returnType = M.2.2.2.1 ∧ G.2.1.2.2.2.1.locks = false) ∧
  mFx (mGD G) (mGc G) (mGad G) (mGA G) (mGs G) (mGs G).heap ∧ mClosed (mGids G) ∧ (∀ h : mH, va_D (mGA G) (mW (mGc G) (mGad G) (mGids G) h)) ∧ (∀ q, (mGs G).heap.size ≤ q → mGA G q) ∧
  (M.2.2.2.2 ≤ G.1.2.2.2.1.frames ∧ 40 * M.2.2.2.2 ≤ G.1.2.2.2.1.locals ∧ G.2.2.2.2.1 ≤ G.1.2.2.2.1.cells ∧ G.2.2.2.2.2.1 ≤ G.1.2.2.2.1.slots)
def mLs (ad : Nat → Int → Nat) (nL : Nat) (L : List mV) (ls : Array Slot) : Prop := ls.size = nL ∧ lv_wf ls ∧ ∀ (i : Nat) (v : mV), L[i]? = some v → v ≠ mU → ls[i]? = some (.val (mIv ad v))
/-- from pc on, with locals L, stack st, heap h, the method M comes to its end, in surroundings with F -/
def At (F : mG → Prop) (M : mMs) (pc : Nat) (L st : List mV) (h : mH) : Prop :=
  ∀ G : mG, F G → mOk G M → ∀ (H : Heap) (locs : List Loc) (ls : Array Slot), va_P (mGD G) vwCl (mW (mGc G) (mGad G) (mGids G) h) H → va_S (mGA G) (mGs G).heap H locs → mLs (mGad G) M.2.2.1 L ls → mVs (mGids G) L → mVs (mGids G) st → mGW G H locs (mGF G pc ls st)
/-- a method's end -/
def mVo (ids : List (Nat × Int)) (r : Option mV) : Prop := ∀ v, r = some v → mVal ids v
def mQ (D : va_G) (cA : Nat → ClassId) (ad : Nat → Int → Nat) (ids : List (Nat × Int)) (K : Option mV → mH → Prop) (A : Nat → Prop) : Array Value → State → Outcome → State → Prop := fun _ st o t =>
  ∃ (r : Option mV) (h : mH), o = .returned (r.map (mIv ad)) ∧ K r h ∧ mVo ids r ∧ va_P D vwCl (mW cA ad ids h) t.heap ∧ va_F A st t
def mPre (D : va_G) (cA : Nat → ClassId) (ad : Nat → Int → Nat) (ids : List (Nat × Int)) (sz : Nat) (h : mH) (U : State) : Prop :=
  U.heap.size = sz ∧ va_P D vwCl (mW cA ad ids h) U.heap ∧ va_D (fun _ => True) (mW cA ad ids h) ∧ mFx D cA ad (va_A (mW cA ad ids h) sz) U U.heap
/-- M, called with the values as on the heap h, returns with K -/
def Ok (M : mMs) (as : List mV) (h : mH) (K : Option mV → mH → Prop) : Prop :=
  ∀ (l : Launch) (D : va_G) (cA : Nat → ClassId) (ad : Nat → Int → Nat) (ids : List (Nat × Int)) (sz : Nat), mClosed ids → mVs ids as →
    Met l M.1 (mWs M) (mRoom M.2.2.2.2) (va_Pc (as.map (mIv ad)) (mPre D cA ad ids sz h)) (mQ D cA ad ids K (va_A (mW cA ad ids h) sz)) 0 0 (va_A (mW cA ad ids h) sz)
def OkI (M : mMs) (as : List mV) (h : mH) (K : Int → mH → Prop) : Prop := Ok M as h (fun r h => ∃ x, r = some (mI x) ∧ K x h)
def OkJ (M : mMs) (as : List mV) (h : mH) (K : Int → mH → Prop) : Prop := Ok M as h (fun r h => ∃ x, r = some (mJ x) ∧ K x h)
def OkV (M : mMs) (as : List mV) (h : mH) (K : mH → Prop) : Prop := Ok M as h (fun r h => r = none ∧ K h)
/-- the surroundings of a method that is to end with K -/
def mPost (K : Option mV → mH → Prop) (G : mG) : Prop := G.2.2.2.2.2.2 = MQ G.2.1.2.2.1 (mQ (mGD G) (mGc G) (mGad G) (mGids G) K (mGA G)) G.2.1.2.1 (mGs G) 0 0 (mGA G) ∧ G.2.2.2.2.1 = 0 ∧ G.2.2.2.2.2.1 = 0
/-- the locals at a method's entry -/
def mEl : List mV → List mV
  | [] => []
  | .inr (.inl x) :: l => mJ x :: mU :: mEl l
  | v :: l => v :: mEl l
