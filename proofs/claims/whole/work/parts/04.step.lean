/-! rows of the small machine: numbers -/
theorem o32 {x : Int} (h : mInR x) : (Int32.ofInt x).toInt = x := Int32.toInt_ofInt_of_le (by omega) (by omega)
theorem o64 {x : Int} (h : mInL x) : (Int64.ofInt x).toInt = x := Int64.toInt_ofInt_of_le (by omega) (by omega)
theorem o32_add (x y : Int) : Int32.ofInt x + Int32.ofInt y = Int32.ofInt (x + y) := by
  apply Int32.toBitVec.inj; simp [BitVec.ofInt_add]
theorem o32_mul (x y : Int) : Int32.ofInt x * Int32.ofInt y = Int32.ofInt (x * y) := by
  apply Int32.toBitVec.inj; simp [BitVec.ofInt_mul]
theorem o32_neg (x : Int) : -Int32.ofInt x = Int32.ofInt (-x) := Int32.neg_ofInt
theorem o32_sub (x y : Int) : Int32.ofInt x - Int32.ofInt y = Int32.ofInt (x - y) := by
  rw [Int32.sub_eq_add_neg, o32_neg, o32_add]; rfl
theorem o64_add (x y : Int) : Int64.ofInt x + Int64.ofInt y = Int64.ofInt (x + y) := by
  apply Int64.toBitVec.inj; simp [BitVec.ofInt_add]
theorem o64_mul (x y : Int) : Int64.ofInt x * Int64.ofInt y = Int64.ofInt (x * y) := by
  apply Int64.toBitVec.inj; simp [BitVec.ofInt_mul]
theorem o64_neg (x : Int) : -Int64.ofInt x = Int64.ofInt (-x) := Int64.neg_ofInt
theorem o64_sub (x y : Int) : Int64.ofInt x - Int64.ofInt y = Int64.ofInt (x - y) := by
  rw [Int64.sub_eq_add_neg, o64_neg, o64_add]; rfl
theorem o32_lt {x y : Int} (hx : mInR x) (hy : mInR y) : Int32.ofInt x < Int32.ofInt y ↔ x < y := by rw [Int32.lt_iff_toInt_lt, o32 hx, o32 hy]
theorem o32_le {x y : Int} (hx : mInR x) (hy : mInR y) : Int32.ofInt x ≤ Int32.ofInt y ↔ x ≤ y := by rw [Int32.le_iff_toInt_le, o32 hx, o32 hy]
theorem o32_eq {x y : Int} (hx : mInR x) (hy : mInR y) : Int32.ofInt x = Int32.ofInt y ↔ x = y := by rw [← Int32.toInt_inj, o32 hx, o32 hy]
theorem o64_lt {x y : Int} (hx : mInL x) (hy : mInL y) : Int64.ofInt x < Int64.ofInt y ↔ x < y := by rw [Int64.lt_iff_toInt_lt, o64 hx, o64 hy]
theorem o64_eq {x y : Int} (hx : mInL x) (hy : mInL y) : Int64.ofInt x = Int64.ofInt y ↔ x = y := by rw [← Int64.toInt_inj, o64 hx, o64 hy]
theorem o32_div {x y : Int} (hx : mInR x) (hy : mInR y) : Int32.ofInt x / Int32.ofInt y = Int32.ofInt (x.tdiv y) := by
  rw [← Int32.toInt_inj, Int32.toInt_div, o32 hx, o32 hy, Int32.toInt_ofInt]
theorem o64_div {x y : Int} (hx : mInL x) (hy : mInL y) : Int64.ofInt x / Int64.ofInt y = Int64.ofInt (x.tdiv y) := by
  rw [← Int64.toInt_inj, Int64.toInt_div, o64 hx, o64 hy, Int64.toInt_ofInt]
theorem o32_l {x : Int} (h : mInR x) : (Int32.ofInt x).toInt64 = Int64.ofInt x := by rw [← Int64.ofInt_int32ToInt, o32 h]
theorem o64_i (x : Int) : (Int64.ofInt x).toInt32 = Int32.ofInt x := Int64.toInt32_ofInt
theorem o32_0 {x : Int} (h : mInR x) : Int32.ofInt x = 0 ↔ x = 0 := o32_eq h (y := 0) (by decide)
theorem o32_clamp {x : Int} (h0 : 0 ≤ x) (h1 : x < 2147483648) : (Int32.ofInt x).toNatClampNeg = x.toNat := Int32.toNatClampNeg_ofInt_of_le (by omega) (by omega)
theorem o32_in {x : Int} {n : Nat} (h0 : 0 ≤ x) (h1 : x < n) (hn : n < 2147483648) : vp_in (Int32.ofInt x) n := by
  rintro (h | h)
  · rw [show (0 : Int32) = Int32.ofInt 0 from rfl, o32_lt (by omega) (by omega)] at h
    omega
  · rw [o32_clamp h0 (by omega)] at h
    omega
/-- bits -/
def mAnd (x y : Int) : Int := (Int32.ofInt x &&& Int32.ofInt y).toInt
def mOr (x y : Int) : Int := (Int32.ofInt x ||| Int32.ofInt y).toInt
def mXor (x y : Int) : Int := (Int32.ofInt x ^^^ Int32.ofInt y).toInt
def mShl (x y : Int) : Int := (Int32.ofInt x <<< (Int32.ofInt y &&& 31)).toInt
def mShr (x y : Int) : Int := (Int32.ofInt x >>> (Int32.ofInt y &&& 31)).toInt
def mAndL (x y : Int) : Int := (Int64.ofInt x &&& Int64.ofInt y).toInt
def mShrL (x y : Int) : Int := (Int64.ofInt x >>> ((Int32.ofInt y).toInt64 &&& 63)).toInt
def mI2b (x : Int) : Int := ((Int32.ofInt x).toInt8.toInt32).toInt
/-! locals -/
theorem mLs.get {ad : Nat → Int → Nat} {nL : Nat} {L : List mV} {ls : Array Slot} (h : mLs ad nL L ls) {i : Nat} {v : mV} (hv : L[i]? = some v) (hu : v ≠ mU) : ls[i]? = some (.val (mIv ad v)) := h.2.2 i v hv hu
def mLof (ad : Nat → Int → Nat) (L : List mV) : List (Nat × Value) := (List.range L.length).filterMap (fun i => match L[i]? with
  | some v => if v = mU then none else some (i, mIv ad v)
  | none => none)
theorem mLof_mem {ad : Nat → Int → Nat} {L : List mV} {q : Nat × Value} : q ∈ mLof ad L ↔ ∃ v, L[q.1]? = some v ∧ v ≠ mU ∧ q.2 = mIv ad v := by
  unfold mLof
  rw [List.mem_filterMap]
  constructor
  · rintro ⟨i, -, h⟩
    cases hL : L[i]? with
    | none => rw [hL] at h; cases h
    | some v =>
      rw [hL] at h
      dsimp only at h
      by_cases hu : v = mU
      · rw [if_pos hu] at h; cases h
      · rw [if_neg hu] at h
        cases h
        exact ⟨v, hL, hu, rfl⟩
  · rintro ⟨v, h1, h2, h3⟩
    refine ⟨q.1, List.mem_range.mpr (List.getElem?_eq_some_iff.mp h1).1, ?_⟩
    rw [h1]
    dsimp only
    rw [if_neg h2, ← h3]
theorem mLs.has {ad : Nat → Int → Nat} {nL : Nat} {L : List mV} {ls : Array Slot} (h : mLs ad nL L ls) : lv_has ls nL (mLof ad L) := by
  refine ⟨h.1, h.2.1, fun q hq => ?_⟩
  obtain ⟨v, h1, h2, h3⟩ := mLof_mem.mp hq
  rw [h3]
  exact h.2.2 _ v h1 h2
/-- a value of one place is stored -/
def mSt1 : List mV → Nat → mV → List mV
  | [], _, _ => []
  | _ :: L, 0, v => v :: L
  | .inr (.inl _) :: L, 1, v => mU :: mSt1 L 0 v
  | w :: L, n + 1, v => w :: mSt1 L n v
/-- a value of two places is stored -/
def mSt2 : List mV → Nat → mV → List mV
  | [], _, _ => []
  | [_], 0, v => [v]
  | _ :: _ :: L, 0, v => v :: mU :: L
  | .inr (.inl _) :: L, 1, v => mU :: mSt2 L 0 v
  | w :: L, n + 1, v => w :: mSt2 L n v
theorem mSt1_get : ∀ (L : List mV) (i : Nat) (v : mV) (j : Nat) (w : mV), (mSt1 L i v)[j]? = some w → w ≠ mU → (j = i ∧ w = v) ∨ (j ≠ i ∧ L[j]? = some w ∧ ¬ (j + 1 = i ∧ ∃ x, w = mJ x))
  | [], i, v, j, w, h, _ => by simp [mSt1] at h
  | u :: L, 0, v, j, w, h, hu => by
    cases j with
    | zero => simp [mSt1] at h; exact Or.inl ⟨rfl, h.symm⟩
    | succ j => simp [mSt1] at h; exact Or.inr ⟨by omega, by simpa using h, by omega⟩
  | u :: L, 1, v, j, w, h, hu => by
    rcases u with x | x | q
    · cases j with
      | zero => simp [mSt1] at h; exact Or.inr ⟨by omega, by simpa using h, fun ⟨_, y, e⟩ => by rw [e] at h; cases h⟩
      | succ j =>
        simp [mSt1] at h
        rcases mSt1_get L 0 v j w h hu with ⟨a, b⟩ | ⟨a, b, c⟩
        · exact Or.inl ⟨by omega, b⟩
        · exact Or.inr ⟨by omega, by simpa using b, by omega⟩
    · cases j with
      | zero => simp [mSt1] at h; exact absurd h.symm hu
      | succ j =>
        simp [mSt1] at h
        rcases mSt1_get L 0 v j w h hu with ⟨a, b⟩ | ⟨a, b, c⟩
        · exact Or.inl ⟨by omega, b⟩
        · exact Or.inr ⟨by omega, by simpa using b, by omega⟩
    · cases j with
      | zero => simp [mSt1] at h; exact Or.inr ⟨by omega, by simpa using h, fun ⟨_, y, e⟩ => by rw [e] at h; cases h⟩
      | succ j =>
        simp [mSt1] at h
        rcases mSt1_get L 0 v j w h hu with ⟨a, b⟩ | ⟨a, b, c⟩
        · exact Or.inl ⟨by omega, b⟩
        · exact Or.inr ⟨by omega, by simpa using b, by omega⟩
  | u :: L, n + 2, v, j, w, h, hu => by
    cases j with
    | zero => simp [mSt1] at h; exact Or.inr ⟨by omega, by simpa using h, by omega⟩
    | succ j =>
      simp [mSt1] at h
      rcases mSt1_get L (n + 1) v j w h hu with ⟨a, b⟩ | ⟨a, b, c⟩
      · exact Or.inl ⟨by omega, b⟩
      · exact Or.inr ⟨by omega, by simpa using b, fun ⟨e, z⟩ => c ⟨by omega, z⟩⟩
theorem mSt2_get : ∀ (L : List mV) (i : Nat) (v : mV) (j : Nat) (w : mV), (mSt2 L i v)[j]? = some w → w ≠ mU → (j = i ∧ w = v) ∨ (j ≠ i ∧ j ≠ i + 1 ∧ L[j]? = some w ∧ ¬ (j + 1 = i ∧ ∃ x, w = mJ x))
  | [], i, v, j, w, h, _ => by simp [mSt2] at h
  | [u], 0, v, j, w, h, hu => by
    cases j with
    | zero => simp [mSt2] at h; exact Or.inl ⟨rfl, h.symm⟩
    | succ j => simp [mSt2] at h
  | u :: u2 :: L, 0, v, j, w, h, hu => by
    match j with
    | 0 => simp [mSt2] at h; exact Or.inl ⟨rfl, h.symm⟩
    | 1 => simp [mSt2] at h; exact absurd h.symm hu
    | j + 2 => simp [mSt2] at h; exact Or.inr ⟨by omega, by omega, by simpa using h, by omega⟩
  | u :: L, 1, v, j, w, h, hu => by
    rcases u with x | x | q
    · cases j with
      | zero => simp [mSt2] at h; exact Or.inr ⟨by omega, by omega, by simpa using h, fun ⟨_, y, e⟩ => by rw [e] at h; cases h⟩
      | succ j =>
        simp [mSt2] at h
        rcases mSt2_get L 0 v j w h hu with ⟨a, b⟩ | ⟨a, a2, b, c⟩
        · exact Or.inl ⟨by omega, b⟩
        · exact Or.inr ⟨by omega, by omega, by simpa using b, by omega⟩
    · cases j with
      | zero => simp [mSt2] at h; exact absurd h.symm hu
      | succ j =>
        simp [mSt2] at h
        rcases mSt2_get L 0 v j w h hu with ⟨a, b⟩ | ⟨a, a2, b, c⟩
        · exact Or.inl ⟨by omega, b⟩
        · exact Or.inr ⟨by omega, by omega, by simpa using b, by omega⟩
    · cases j with
      | zero => simp [mSt2] at h; exact Or.inr ⟨by omega, by omega, by simpa using h, fun ⟨_, y, e⟩ => by rw [e] at h; cases h⟩
      | succ j =>
        simp [mSt2] at h
        rcases mSt2_get L 0 v j w h hu with ⟨a, b⟩ | ⟨a, a2, b, c⟩
        · exact Or.inl ⟨by omega, b⟩
        · exact Or.inr ⟨by omega, by omega, by simpa using b, by omega⟩
  | u :: L, n + 2, v, j, w, h, hu => by
    cases j with
    | zero => simp [mSt2] at h; exact Or.inr ⟨by omega, by omega, by simpa using h, by omega⟩
    | succ j =>
      simp [mSt2] at h
      rcases mSt2_get L (n + 1) v j w h hu with ⟨a, b⟩ | ⟨a, a2, b, c⟩
      · exact Or.inl ⟨by omega, b⟩
      · exact Or.inr ⟨by omega, by omega, by simpa using b, fun ⟨e, z⟩ => c ⟨by omega, z⟩⟩
theorem mIv_cat {ad : Nat → Int → Nat} {v : mV} (h : (mIv ad v).category = 2) : ∃ x, v = mJ x := by
  rcases v with x | x | q
  · simp [mIv, Value.category] at h
  · exact ⟨x, rfl⟩
  · simp [mIv, Value.category] at h
theorem mLs.st1 {ad : Nat → Int → Nat} {nL : Nat} {L : List mV} {ls : Array Slot} {i : Nat} {v : mV} {w : Value} (hw : w = mIv ad v) (h : lv_has ls nL ((i, w) :: (mLof ad L).filter (fun q => !(q.1 == i) && !(q.1 + 1 == i && q.2.category == 2)))) : mLs ad nL (mSt1 L i v) ls := by
  refine ⟨h.1, h.2.1, fun j u hj hu => ?_⟩
  rcases mSt1_get L i v j u hj hu with ⟨a, b⟩ | ⟨a, b, c⟩
  · rw [a, b, ← hw]
    exact h.2.2 (i, w) List.mem_cons_self
  · refine h.2.2 (j, mIv ad u) (List.mem_cons_of_mem _ (List.mem_filter.mpr ⟨mLof_mem.mpr ⟨u, b, hu, rfl⟩, ?_⟩))
    simp only [Bool.and_eq_true, Bool.not_eq_true', beq_eq_false_iff_ne, ne_eq, Bool.and_eq_false_iff]
    refine ⟨a, ?_⟩
    by_cases e : j + 1 = i
    · exact Or.inr fun z => c ⟨e, mIv_cat z⟩
    · exact Or.inl e
theorem mLs.st2 {ad : Nat → Int → Nat} {nL : Nat} {L : List mV} {ls : Array Slot} {i : Nat} {v : mV} {w : Value} (hw : w = mIv ad v) (h : lv_has ls nL ((i, w) :: (mLof ad L).filter (fun q => !(q.1 == i) && (!(q.1 == i + 1) && !(q.1 + 1 == i && q.2.category == 2))))) : mLs ad nL (mSt2 L i v) ls := by
  refine ⟨h.1, h.2.1, fun j u hj hu => ?_⟩
  rcases mSt2_get L i v j u hj hu with ⟨a, b⟩ | ⟨a, a2, b, c⟩
  · rw [a, b, ← hw]
    exact h.2.2 (i, w) List.mem_cons_self
  · refine h.2.2 (j, mIv ad u) (List.mem_cons_of_mem _ (List.mem_filter.mpr ⟨mLof_mem.mpr ⟨u, b, hu, rfl⟩, ?_⟩))
    simp only [Bool.and_eq_true, Bool.not_eq_true', beq_eq_false_iff_ne, ne_eq, Bool.and_eq_false_iff]
    refine ⟨a, a2, ?_⟩
    by_cases e : j + 1 = i
    · exact Or.inr fun z => c ⟨e, mIv_cat z⟩
    · exact Or.inl e
theorem mVs.of_get {ids : List (Nat × Int)} {l l2 : List mV} (h : mVs ids l) {v : mV} (hv : mVal ids v) (h2 : ∀ (j : Nat) (w : mV), l2[j]? = some w → w ≠ mU → w = v ∨ ∃ i : Nat, l[i]? = some w) : mVs ids l2 := by
  intro w hw
  obtain ⟨j, hj⟩ := List.getElem?_of_mem hw
  by_cases hu : w = mU
  · subst hu
    intro h1 _
    exact absurd h1 (by decide)
  · rcases h2 j w hj hu with e | ⟨i, hi⟩
    · exact e ▸ hv
    · exact h w (List.mem_of_getElem? hi)
theorem mVs.st1 {ids : List (Nat × Int)} {L : List mV} (h : mVs ids L) {v : mV} (hv : mVal ids v) (i : Nat) : mVs ids (mSt1 L i v) := h.of_get hv fun j w hj hu => (mSt1_get L i v j w hj hu).elim (fun z => Or.inl z.2) (fun z => Or.inr ⟨j, z.2.1⟩)
theorem mVs.st2 {ids : List (Nat × Int)} {L : List mV} (h : mVs ids L) {v : mV} (hv : mVal ids v) (i : Nat) : mVs ids (mSt2 L i v) := h.of_get hv fun j w hj hu => (mSt2_get L i v j w hj hu).elim (fun z => Or.inl z.2) (fun z => Or.inr ⟨j, z.2.2.1⟩)
