/-! rows of the small machine: calls by what they return; Math; arraycopy -/
def mAbs (x : Int) : Int := if x < 0 then -x else x
/-- places sp .. of row q become places dp .. of row q2 -/
def mCpy (h : mH) (r : Nat) (i : Int) (sp : Int) (r2 : Nat) (i2 : Int) (dp n : Int) : mH := fun r' i' k' => if r' = r2 ∧ i' = i2 ∧ dp ≤ k' ∧ k' < dp + n then h r i (sp + (k' - dp)) else h r' i' k'
def mXorL (x y : Int) : Int := (Int64.ofInt x ^^^ Int64.ofInt y).toInt
section MML
variable {F : mG → Prop} {M : mMs} {pc : Nat} {L st : List mV} {h : mH}
theorem mw_callVI {M' : mMs} {idx r n pc' : Nat} {i : Int} {as : List mV} {K : Int → mH → Prop} (hm : mMv M' r n) (hl : Cond.methodLink M.1.cls idx M'.1 ∈ mTbl) (hdep : M'.2.2.2.2 + 1 ≤ M.2.2.2.2) (hd : mDc M pc (.invokevirtual idx) 3 pc') (hn : as.length = n) (hst : Nat.ble (mCat st) 8 = true) (ok : OkI M' (mR r i :: as) h K) (k : ∀ x h2, K x h2 → At F M pc' L (mI x :: st) h2) : At F M pc L (as.reverse ++ mR r i :: st) h :=
  mw_callV hm hl hdep hd hn hst ok (by rintro r h2 ⟨x, rfl, z⟩; exact k x h2 z)
theorem mw_callVJ {M' : mMs} {idx r n pc' : Nat} {i : Int} {as : List mV} {K : Int → mH → Prop} (hm : mMv M' r n) (hl : Cond.methodLink M.1.cls idx M'.1 ∈ mTbl) (hdep : M'.2.2.2.2 + 1 ≤ M.2.2.2.2) (hd : mDc M pc (.invokevirtual idx) 3 pc') (hn : as.length = n) (hst : Nat.ble (mCat st) 8 = true) (ok : OkJ M' (mR r i :: as) h K) (k : ∀ x h2, K x h2 → At F M pc' L (mJ x :: st) h2) : At F M pc L (as.reverse ++ mR r i :: st) h :=
  mw_callV hm hl hdep hd hn hst ok (by rintro r h2 ⟨x, rfl, z⟩; exact k x h2 z)
theorem mw_callVV {M' : mMs} {idx r n pc' : Nat} {i : Int} {as : List mV} {K : mH → Prop} (hm : mMv M' r n) (hl : Cond.methodLink M.1.cls idx M'.1 ∈ mTbl) (hdep : M'.2.2.2.2 + 1 ≤ M.2.2.2.2) (hd : mDc M pc (.invokevirtual idx) 3 pc') (hn : as.length = n) (hst : Nat.ble (mCat st) 8 = true) (ok : OkV M' (mR r i :: as) h K) (k : ∀ h2, K h2 → At F M pc' L st h2) : At F M pc L (as.reverse ++ mR r i :: st) h :=
  mw_callV hm hl hdep hd hn hst ok (by rintro r h2 ⟨rfl, z⟩; exact k h2 z)
theorem mw_callSI {M' : mMs} {idx n pc' : Nat} {as : List mV} {K : Int → mH → Prop} (hm : mMt M' n) (hl : Cond.methodLink M.1.cls idx M'.1 ∈ mTbl) (hdep : M'.2.2.2.2 + 1 ≤ M.2.2.2.2) (hd : mDc M pc (.invokestatic idx) 3 pc') (hn : as.length = n) (hst : Nat.ble (mCat st) 8 = true) (ok : OkI M' as h K) (k : ∀ x h2, K x h2 → At F M pc' L (mI x :: st) h2) : At F M pc L (as.reverse ++ st) h :=
  mw_callS hm hl hdep hd hn hst ok (by rintro r h2 ⟨x, rfl, z⟩; exact k x h2 z)
theorem mw_callSJ {M' : mMs} {idx n pc' : Nat} {as : List mV} {K : Int → mH → Prop} (hm : mMt M' n) (hl : Cond.methodLink M.1.cls idx M'.1 ∈ mTbl) (hdep : M'.2.2.2.2 + 1 ≤ M.2.2.2.2) (hd : mDc M pc (.invokestatic idx) 3 pc') (hn : as.length = n) (hst : Nat.ble (mCat st) 8 = true) (ok : OkJ M' as h K) (k : ∀ x h2, K x h2 → At F M pc' L (mJ x :: st) h2) : At F M pc L (as.reverse ++ st) h :=
  mw_callS hm hl hdep hd hn hst ok (by rintro r h2 ⟨x, rfl, z⟩; exact k x h2 z)
theorem mw_callSV {M' : mMs} {idx n pc' : Nat} {as : List mV} {K : mH → Prop} (hm : mMt M' n) (hl : Cond.methodLink M.1.cls idx M'.1 ∈ mTbl) (hdep : M'.2.2.2.2 + 1 ≤ M.2.2.2.2) (hd : mDc M pc (.invokestatic idx) 3 pc') (hn : as.length = n) (hst : Nat.ble (mCat st) 8 = true) (ok : OkV M' as h K) (k : ∀ h2, K h2 → At F M pc' L st h2) : At F M pc L (as.reverse ++ st) h :=
  mw_callS hm hl hdep hd hn hst ok (by rintro r h2 ⟨rfl, z⟩; exact k h2 z)
theorem mw_callNI {M' : mMs} {idx n pc' : Nat} {host : String} {as : List mV} {K : Int → mH → Prop} (hm : mMt M' n) (hl : (M.1.cls, idx, M'.1, host) ∈ mNst) (hdep : M'.2.2.2.2 + 1 ≤ M.2.2.2.2) (hd : mDc M pc (.invokestatic idx) 3 pc') (hn : as.length = n) (hst : Nat.ble (mCat st) 8 = true) (ok : OkI M' as h K) (k : ∀ x h2, K x h2 → At F M pc' L (mI x :: st) h2) : At F M pc L (as.reverse ++ st) h :=
  mw_callN hm hl hdep hd hn hst ok (by rintro r h2 ⟨x, rfl, z⟩; exact k x h2 z)
/-- a static member of Math, as the kit has it -/
def mMw (own : String) (idx : Nat) (y : MethodName) (cc : ByteArray) (n : Nat) (ty : FieldType) : Prop := Cond.methodLink own idx y ∈ mTbl ∧ Cond.static y ∈ mTbl ∧ Cond.initialized "java/lang/Math" ∈ mTbl ∧ Cond.code y cc n (some ty) ∈ mTbl
theorem mw_maxL {idx pc' : Nat} {x y : Int} (hw : mMw M.1.cls idx Lib.MathLoose.max_long.x Lib.MathLoose.max_long.code 4 .long) (hdep : 1 ≤ M.2.2.2.2) (hd : mDc M pc (.invokestatic idx) 3 pc') (hst : Nat.ble (mCat st) 8 = true) (hc : mInL x ∧ mInL y) (k : At F M pc' L (mJ (max x y) :: st) h) : At F M pc L (mJ y :: mJ x :: st) h := by
  obtain ⟨hd, rfl⟩ := hd
  obtain ⟨w1, w2, w3, w4⟩ := hw
  intro G hF V H locs ls hP hS hL v1 v2
  have hr := V.2.2.2.2.2.2
  have hst := Nat.le_of_ble_eq_true hst
  refine va_mmax_long V.1.1 V.1.2.1 (V.1.2.2.1.trans hL.1.symm) V.1.2.2.2.1 (V.1.2.2.2.2 _ w1) (V.1.2.2.2.2 _ w2) (V.1.2.2.2.2 _ w3) (V.1.2.2.2.2 _ w4) (Nat.le_trans hdep hr.1) (by show ((st.map (mIv (mGad G))).map fun v => v.category).sum + 15 ≤ _; rw [mCat_sum]; have := hr.2.1; omega) hr.2.2.1 hr.2.2.2 hd ?_
  rw [show (if Int64.ofInt y < Int64.ofInt x then Int64.ofInt x else Int64.ofInt y) = Int64.ofInt (max x y) by
    by_cases z : y < x
    · rw [if_pos ((o64_lt hc.2 hc.1).mpr z), Int.max_eq_left (by omega)]
    · rw [if_neg (fun w => z ((o64_lt hc.2 hc.1).mp w)), Int.max_eq_right (by omega)]]
  exact k G hF V H locs ls hP hS hL v1 (mVs.cons trivial v2.tl.tl)
theorem mw_minL {idx pc' : Nat} {x y : Int} (hw : mMw M.1.cls idx Lib.MathLoose.min_long.x Lib.MathLoose.min_long.code 4 .long) (hdep : 1 ≤ M.2.2.2.2) (hd : mDc M pc (.invokestatic idx) 3 pc') (hst : Nat.ble (mCat st) 8 = true) (hc : mInL x ∧ mInL y) (k : At F M pc' L (mJ (min x y) :: st) h) : At F M pc L (mJ y :: mJ x :: st) h := by
  obtain ⟨hd, rfl⟩ := hd
  obtain ⟨w1, w2, w3, w4⟩ := hw
  intro G hF V H locs ls hP hS hL v1 v2
  have hr := V.2.2.2.2.2.2
  have hst := Nat.le_of_ble_eq_true hst
  refine va_mmin_long V.1.1 V.1.2.1 (V.1.2.2.1.trans hL.1.symm) V.1.2.2.2.1 (V.1.2.2.2.2 _ w1) (V.1.2.2.2.2 _ w2) (V.1.2.2.2.2 _ w3) (V.1.2.2.2.2 _ w4) (Nat.le_trans hdep hr.1) (by show ((st.map (mIv (mGad G))).map fun v => v.category).sum + 15 ≤ _; rw [mCat_sum]; have := hr.2.1; omega) hr.2.2.1 hr.2.2.2 hd ?_
  rw [show (if Int64.ofInt y < Int64.ofInt x then Int64.ofInt y else Int64.ofInt x) = Int64.ofInt (min x y) by
    by_cases z : y < x
    · rw [if_pos ((o64_lt hc.2 hc.1).mpr z), Int.min_eq_right (by omega)]
    · rw [if_neg (fun w => z ((o64_lt hc.2 hc.1).mp w)), Int.min_eq_left (by omega)]]
  exact k G hF V H locs ls hP hS hL v1 (mVs.cons trivial v2.tl.tl)
theorem mw_absL {idx pc' : Nat} {x : Int} (hw : mMw M.1.cls idx Lib.MathLoose.abs_long.x Lib.MathLoose.abs_long.code 2 .long) (hdep : 1 ≤ M.2.2.2.2) (hd : mDc M pc (.invokestatic idx) 3 pc') (hst : Nat.ble (mCat st) 8 = true) (hc : mInL x) (k : At F M pc' L (mJ (mAbs x) :: st) h) : At F M pc L (mJ x :: st) h := by
  obtain ⟨hd, rfl⟩ := hd
  obtain ⟨w1, w2, w3, w4⟩ := hw
  intro G hF V H locs ls hP hS hL v1 v2
  have hr := V.2.2.2.2.2.2
  have hst := Nat.le_of_ble_eq_true hst
  refine va_mabs_long V.1.1 V.1.2.1 (V.1.2.2.1.trans hL.1.symm) V.1.2.2.2.1 (V.1.2.2.2.2 _ w1) (V.1.2.2.2.2 _ w2) (V.1.2.2.2.2 _ w3) (V.1.2.2.2.2 _ w4) (Nat.le_trans hdep hr.1) (by show ((st.map (mIv (mGad G))).map fun v => v.category).sum + 13 ≤ _; rw [mCat_sum]; have := hr.2.1; omega) hr.2.2.1 hr.2.2.2 hd ?_
  have z0 : (0 : Int64) < Int64.ofInt x ↔ 0 < x := o64_lt (x := 0) (by decide) hc
  rw [show (if 0 < Int64.ofInt x then Int64.ofInt x else -Int64.ofInt x) = Int64.ofInt (mAbs x) by
    unfold mAbs
    by_cases z : 0 < x
    · rw [if_pos (z0.mpr z), if_neg (by omega)]
    · rw [if_neg (fun w => z (z0.mp w)), o64_neg]
      by_cases z2 : x < 0
      · rw [if_pos z2]
      · rw [if_neg z2, show x = 0 by omega]; rfl]
  exact k G hF V H locs ls hP hS hL v1 (mVs.cons trivial v2.tl)
theorem mw_maxI {idx pc' : Nat} {x y : Int} (hw : mMw M.1.cls idx Lib.Math.max.name Lib.Math.max.code 2 .int) (hdep : 1 ≤ M.2.2.2.2) (hd : mDc M pc (.invokestatic idx) 3 pc') (hst : Nat.ble (mCat st) 8 = true) (hc : mInR x ∧ mInR y) (k : At F M pc' L (mI (max x y) :: st) h) : At F M pc L (mI y :: mI x :: st) h := by
  obtain ⟨hd, rfl⟩ := hd
  obtain ⟨w1, w2, w3, w4⟩ := hw
  intro G hF V H locs ls hP hS hL v1 v2
  have hr := V.2.2.2.2.2.2
  have hst := Nat.le_of_ble_eq_true hst
  refine va_mmax V.1.1 V.1.2.1 (V.1.2.2.1.trans hL.1.symm) V.1.2.2.2.1 (V.1.2.2.2.2 _ w1) (V.1.2.2.2.2 _ w2) (V.1.2.2.2.2 _ w3) (V.1.2.2.2.2 _ w4) (Nat.le_trans hdep hr.1) (by show ((st.map (mIv (mGad G))).map fun v => v.category).sum + 13 ≤ _; rw [mCat_sum]; have := hr.2.1; omega) hr.2.2.1 hr.2.2.2 hd ?_
  rw [show (if Int32.ofInt x < Int32.ofInt y then Int32.ofInt y else Int32.ofInt x) = Int32.ofInt (max x y) by
    by_cases z : x < y
    · rw [if_pos ((o32_lt hc.1 hc.2).mpr z), Int.max_eq_right (by omega)]
    · rw [if_neg (fun w => z ((o32_lt hc.1 hc.2).mp w)), Int.max_eq_left (by omega)]]
  exact k G hF V H locs ls hP hS hL v1 (mVs.cons trivial v2.tl.tl)
theorem mw_minI {idx pc' : Nat} {x y : Int} (hw : mMw M.1.cls idx Lib.Math.min.name Lib.Math.min.code 2 .int) (hdep : 1 ≤ M.2.2.2.2) (hd : mDc M pc (.invokestatic idx) 3 pc') (hst : Nat.ble (mCat st) 8 = true) (hc : mInR x ∧ mInR y) (k : At F M pc' L (mI (min x y) :: st) h) : At F M pc L (mI y :: mI x :: st) h := by
  obtain ⟨hd, rfl⟩ := hd
  obtain ⟨w1, w2, w3, w4⟩ := hw
  intro G hF V H locs ls hP hS hL v1 v2
  have hr := V.2.2.2.2.2.2
  have hst := Nat.le_of_ble_eq_true hst
  refine va_mmin V.1.1 V.1.2.1 (V.1.2.2.1.trans hL.1.symm) V.1.2.2.2.1 (V.1.2.2.2.2 _ w1) (V.1.2.2.2.2 _ w2) (V.1.2.2.2.2 _ w3) (V.1.2.2.2.2 _ w4) (Nat.le_trans hdep hr.1) (by show ((st.map (mIv (mGad G))).map fun v => v.category).sum + 13 ≤ _; rw [mCat_sum]; have := hr.2.1; omega) hr.2.2.1 hr.2.2.2 hd ?_
  rw [show (if Int32.ofInt y < Int32.ofInt x then Int32.ofInt y else Int32.ofInt x) = Int32.ofInt (min x y) by
    by_cases z : y < x
    · rw [if_pos ((o32_lt hc.2 hc.1).mpr z), Int.min_eq_right (by omega)]
    · rw [if_neg (fun w => z ((o32_lt hc.2 hc.1).mp w)), Int.min_eq_left (by omega)]]
  exact k G hF V H locs ls hP hS hL v1 (mVs.cons trivial v2.tl.tl)
/-- arraycopy between two rows of ints -/
theorem mw_copyI {idx r r2 pc' : Nat} {i i2 sp dp n m1 m2 : Int} (hw : Cond.methodLink M.1.cls idx arraycopyName ∈ mTbl ∧ Cond.native arraycopyName ∈ mTbl ∧ Cond.static arraycopyName ∈ mTbl ∧ Cond.initialized "java/lang/System" ∈ mTbl) (hdep : 1 ≤ M.2.2.2.2) (h1 : mRo r 1 m1) (h2 : mRo r2 1 m2) (hd : mDc M pc (.invokestatic idx) 3 pc') (hst : Nat.ble (mCat st) 8 = true) (hc : 0 ≤ sp ∧ 0 ≤ dp ∧ 0 ≤ n ∧ sp + n ≤ m1 ∧ dp + n ≤ m2) (k : At F M pc' L st (mCpy h r i sp r2 i2 dp n)) : At F M pc L (mI n :: mI dp :: mR r2 i2 :: mI sp :: mR r i :: st) h := by
  obtain ⟨hd, rfl⟩ := hd
  obtain ⟨w1, w2, w3, w4⟩ := hw
  obtain ⟨a1, b1, rfl, c1, d1⟩ := h1
  obtain ⟨a2, b2, rfl, c2, d2⟩ := h2
  intro G hF V H locs ls hP hS hL v1 v2
  have hr := V.2.2.2.2.2.2
  have hst := Nat.le_of_ble_eq_true hst
  obtain ⟨p1, hp1⟩ := mIds_at (v2.tl.tl.tl.tl.hd c1.1 c1.2)
  obtain ⟨p2, hp2⟩ := mIds_at (v2.tl.tl.hd c2.1 c2.2)
  have he1 := mW_at (cA := mGc G) (ad := mGad G) hp1 h
  rw [mEnt_inl b1, mRow_i (by decide)] at he1
  have he2 := mW_at (cA := mGc G) (ad := mGad G) hp2 h
  rw [mEnt_inl b2, mRow_i (by decide)] at he2
  have hD := V.2.2.2.2.1 h
  have nn : ∀ z : Int, 0 ≤ z → z < 2147483648 → ¬ Int32.ofInt z < 0 := fun z h0 h1 w => by
    have := (o32_lt (x := z) (y := 0) (by omega) (by decide)).mp w
    omega
  refine va_copyi V.1.1 V.1.2.1 (V.1.2.2.1.trans hL.1.symm) V.1.2.2.2.1 (V.1.2.2.2.2 _ w1) (V.1.2.2.2.2 _ w2) (V.1.2.2.2.2 _ w3) (V.1.2.2.2.2 _ w4) V.2.2.1.1 hP hD hS p1 p2 1 1 he1 he2 rfl rfl rfl (nn sp hc.1 (by omega)) (nn dp hc.2.1 (by omega)) (nn n hc.2.2.1 (by omega)) (by rw [o32_clamp hc.1 (by omega), o32_clamp hc.2.2.1 (by omega)]; omega) (by rw [o32_clamp hc.2.1 (by omega), o32_clamp hc.2.2.1 (by omega)]; omega) (fun _ _ => rfl) (Nat.le_trans hdep hr.1) (by show ((st.map (mIv (mGad G))).map fun v => v.category).sum + 18 ≤ _; rw [mCat_sum]; have := hr.2.1; omega) hd (fun H1 locs1 hP1 hD1 hS1 => ?_)
  rw [o32_clamp hc.1 (by omega), o32_clamp hc.2.1 (by omega), o32_clamp hc.2.2.1 (by omega)] at hP1
  have e : va_cpy (fun j : Nat => Int32.ofInt (h r i (j : Int))) (fun j : Nat => Int32.ofInt (h r2 i2 (j : Int))) sp.toNat dp.toNat n.toNat = fun j : Nat => Int32.ofInt (mCpy h r i sp r2 i2 dp n r2 i2 (j : Int)) := by
    funext j
    unfold va_cpy mCpy
    by_cases z : dp.toNat ≤ j ∧ j < dp.toNat + n.toNat
    · rw [if_pos z, if_pos ⟨rfl, rfl, by omega, by omega⟩]
      show Int32.ofInt (h r i ((sp.toNat + (j - dp.toNat) : Nat) : Int)) = _
      rw [show ((sp.toNat + (j - dp.toNat) : Nat) : Int) = sp + ((j : Int) - dp) by omega]
    · rw [if_neg z, if_neg (fun w => z ⟨by omega, by omega⟩)]
  rw [e, ← mRow_i (ad := mGad G) (k := 1) (by decide), mW_set hp2 hD (h2 := mCpy h r i sp r2 i2 dp n) (mEnt_inl b2) (fun q2 hq2 k2 => by
    unfold mCpy
    rw [if_neg]
    rintro ⟨x, y, -⟩
    exact hq2 (Prod.ext x y))] at hP1
  exact k G hF V H1 locs1 ls hP1 hS1 hL v1 v2.tl.tl.tl.tl.tl
theorem mw_lxor {x y : Int} {pc' : Nat} (hd : mDc M pc (.lxor) 1 pc') (k : At F M pc' L (mJ (mXorL x y) :: st) h) : At F M pc L (mJ y :: mJ x :: st) h := by
  obtain ⟨hd, rfl⟩ := hd
  intro G hF V H locs ls hP hS hL v1 v2
  have k := k G hF V H locs ls hP hS hL v1 (mVs.cons trivial v2.tl.tl)
  refine lv_lxor V.1.1 V.1.2.1 hd ?_
  rw [← Int64.ofInt_toInt (Int64.ofInt x ^^^ Int64.ofInt y)]
  exact k
theorem mRo.ne {r k : Nat} {n : Int} (h : mRo r k n) : r ≠ 0 := by
  obtain ⟨m, -, -, h1, -⟩ := h
  omega
abbrev mPI (K : Int → mH → Prop) : mG → Prop := mPost (fun r h => ∃ x, r = some (mI x) ∧ K x h)
abbrev mPJ (K : Int → mH → Prop) : mG → Prop := mPost (fun r h => ∃ x, r = some (mJ x) ∧ K x h)
abbrev mPV (K : mH → Prop) : mG → Prop := mPost (fun r h => r = none ∧ K h)
end MML
