/-! rows of the small machine: fields and rows of numbers -/
/-- field k of the objects of role r, as the method's own names it: what it holds -/
def mFl (own : String) (idx r : Nat) (kI : Int) (d : mFd) : Prop := ∃ (k : Nat) (ci : Nat) (fs : List mFd) (q : vw_C), (k : Int) = kI ∧ mT r = .inr (ci, fs) ∧ (1 ≤ r ∧ r < 50) ∧ vwCl[ci]? = some q ∧ k < q.2.2 ∧ fs[k]? = some d ∧ Cond.fieldLink own idx (q.2.1 k).1 (q.2.1 k).2.1 (q.2.1 k).2.2.1 ∈ mTbl
/-- it can be written: a number of this type -/
def mFp (own : String) (idx r : Nat) (kI : Int) (ty : FieldType) : Prop := ∃ (k : Nat) (ci : Nat) (fs : List mFd) (q : vw_C), (k : Int) = kI ∧ mT r = .inr (ci, fs) ∧ (1 ≤ r ∧ r < 50) ∧ vwCl[ci]? = some q ∧ k < q.2.2 ∧ fs[k]? = some none ∧ Cond.fieldLink own idx (q.2.1 k).1 (q.2.1 k).2.1 (q.2.1 k).2.2.1 ∈ mTbl ∧ (q.2.1 k).2.2.2 = false ∧ parseFieldDescriptor (q.2.1 k).2.2.1 = some ty
/-- the rows of role r: their kind, their length -/
def mRo (r k : Nat) (n : Int) : Prop := ∃ m : Nat, mT r = .inl (k, m) ∧ (m : Int) = n ∧ (1 ≤ r ∧ r < 50) ∧ n < 2147483648
theorem mFs_get {ad : Nat → Int → Nat} {h : mH} {r : Nat} {i : Int} {fs : List mFd} {k : Nat} (hf : fs[k]? = some none) : (mFs ad h r i fs)[k]? = some (.int (Int32.ofInt (h r i (k : Int)))) := by
  unfold mFs
  rw [List.getElem?_mapIdx, hf]
  rfl
theorem mFs_getR {ad : Nat → Int → Nat} {h : mH} {r : Nat} {i : Int} {fs : List mFd} {k : Nat} {q : Nat × (Int → Int)} (hf : fs[k]? = some (some q)) : (mFs ad h r i fs)[k]? = some (.ref (ad q.1 (q.2 i))) := by
  unfold mFs
  rw [List.getElem?_mapIdx, hf]
  rfl
theorem mFs_len {ad : Nat → Int → Nat} {h : mH} {r : Nat} {i : Int} {fs : List mFd} : (mFs ad h r i fs).length = fs.length := by
  unfold mFs
  rw [List.length_mapIdx]
theorem mFs_set {ad : Nat → Int → Nat} {h : mH} {r : Nat} {i : Int} {fs : List mFd} {k : Nat} (hf : fs[k]? = some none) (v : Int) : (mFs ad h r i fs).set k (.int (Int32.ofInt v)) = mFs ad (mSet h r i (k : Int) v) r i fs := by
  have hl : k < fs.length := (List.getElem?_eq_some_iff.mp hf).1
  apply List.ext_getElem?
  intro j
  by_cases hj : j = k
  · subst hj
    rw [List.getElem?_set_self (by rw [mFs_len]; exact hl), mFs_get hf]
    simp [mSet]
  · rw [List.getElem?_set_ne (Ne.symm hj)]
    cases hjf : fs[j]? with
    | none =>
      unfold mFs
      rw [List.getElem?_mapIdx, List.getElem?_mapIdx, hjf]
      rfl
    | some d =>
      cases d with
      | none =>
        rw [mFs_get hjf, mFs_get hjf]
        have : ¬ (j : Int) = (k : Int) := by omega
        simp [mSet, this]
      | some q => rw [mFs_getR hjf, mFs_getR hjf]
theorem mSet_off {h : mH} {r : Nat} {i k v : Int} (q2 : Nat × Int) (hq : q2 ≠ (r, i)) (k2 : Int) : mSet h r i k v q2.1 q2.2 k2 = h q2.1 q2.2 k2 := by
  unfold mSet
  rw [if_neg]
  rintro ⟨a, b, -⟩
  exact hq (Prod.ext a b)
section MMH
variable {F : mG → Prop} {M : mMs} {pc : Nat} {L st : List mV} {h : mH}
theorem mw_getI {idx r pc' : Nat} {i k : Int} (hl : mFl M.1.cls idx r k none) (hd : mDc M pc (.getfield idx) 3 pc') (kk : At F M pc' L (mI (h r i k) :: st) h) : At F M pc L (mR r i :: st) h := by
  obtain ⟨hd, rfl⟩ := hd
  intro G hF V H locs ls hP hS hL v1 v2
  obtain ⟨k, ci, fs, q, rfl, h1, h2, h3, h4, h5, h6⟩ := hl
  obtain ⟨p, hp⟩ := mIds_at (v2.hd h2.1 h2.2)
  have he := mW_at (cA := mGc G) (ad := mGad G) hp h
  rw [mEnt_inr h1] at he
  exact va_get V.1.1 V.1.2.1 V.1.2.2.2.2 (mLay ci q h3) V.1.2.2.2.1 V.2.2.1.1 hP p he h3 k h4 (V.1.2.2.2.2 _ h6) (fun _ z => z) (mFs_get h5) hd (kk G hF V H locs ls hP hS hL v1 (mVs.cons trivial v2.tl))
theorem mw_getR {idx r pc' r' : Nat} {g : Int → Int} {i k : Int} (hl : mFl M.1.cls idx r k (some (r', g))) (hd : mDc M pc (.getfield idx) 3 pc') (kk : At F M pc' L (mR r' (g i) :: st) h) : At F M pc L (mR r i :: st) h := by
  obtain ⟨hd, rfl⟩ := hd
  intro G hF V H locs ls hP hS hL v1 v2
  obtain ⟨k, ci, fs, q, rfl, h1, h2, h3, h4, h5, h6⟩ := hl
  have hm := v2.hd h2.1 h2.2
  obtain ⟨p, hp⟩ := mIds_at hm
  have he := mW_at (cA := mGc G) (ad := mGad G) hp h
  rw [mEnt_inr h1] at he
  exact va_get V.1.1 V.1.2.1 V.1.2.2.2.2 (mLay ci q h3) V.1.2.2.2.1 V.2.2.1.1 hP p he h3 k h4 (V.1.2.2.2.2 _ h6) (fun _ z => z) (mFs_getR h5) hd (kk G hF V H locs ls hP hS hL v1 (mVs.cons (v := mR r' (g i)) (fun _ _ => V.2.2.2.1.1 r i ci fs k (r', g) hm h1 h5) v2.tl))
theorem mw_put0 {idx r pc' : Nat} {i x k : Int} {ty : FieldType} (hl : mFp M.1.cls idx r k ty) (hn : narrow ty (.int (Int32.ofInt x)) = .int (Int32.ofInt x)) (hfit : fits ty (.int (Int32.ofInt x)) = true) (hd : mDc M pc (.putfield idx) 3 pc') (kk : At F M pc' L st (mSet h r i k x)) : At F M pc L (mI x :: mR r i :: st) h := by
  obtain ⟨hd, rfl⟩ := hd
  intro G hF V H locs ls hP hS hL v1 v2
  obtain ⟨k, ci, fs, q, rfl, h1, h2, h3, h4, h5, h6, h7, h8⟩ := hl
  obtain ⟨p, hp⟩ := mIds_at (v2.tl.hd h2.1 h2.2)
  have he := mW_at (cA := mGc G) (ad := mGad G) hp h
  rw [mEnt_inr h1] at he
  obtain ⟨ty0, hty⟩ := mTyk ci q h3
  have hD := V.2.2.2.2.1 h
  refine va_put (v := .int (Int32.ofInt x)) V.1.1 V.1.2.1 V.1.2.2.2.2 (mLay ci q h3) ty0 hty (mNm ci q h3) V.1.2.2.2.1 V.2.2.1.1 hP hD hS p he h3 k h4 (V.1.2.2.2.2 _ h6) (fun _ z => z) h7 h8 hn hfit (by rw [mFs_len]; exact (List.getElem?_eq_some_iff.mp h5).1) hd (fun H1 locs1 hP1 hD1 hS1 => ?_)
  rw [mFs_set h5 x, mW_set hp hD (h2 := mSet h r i (k : Int) x) (mEnt_inr h1) (fun q2 hq2 k2 => mSet_off q2 hq2 k2)] at hP1
  exact kk G hF V H1 locs1 ls hP1 hS1 hL v1 v2.tl.tl
theorem mw_putI {idx r pc' : Nat} {i x k : Int} (hl : mFp M.1.cls idx r k .int) (hd : mDc M pc (.putfield idx) 3 pc') (kk : At F M pc' L st (mSet h r i k x)) : At F M pc L (mI x :: mR r i :: st) h := mw_put0 hl rfl rfl hd kk
theorem mw_putZ {idx r pc' : Nat} {i x k : Int} (hl : mFp M.1.cls idx r k .boolean) (hd : mDc M pc (.putfield idx) 3 pc') (hc : x = 0 ∨ x = 1) (kk : At F M pc' L st (mSet h r i k x)) : At F M pc L (mI x :: mR r i :: st) h :=
  mw_put0 hl (by rcases hc with rfl | rfl <;> decide) (by rcases hc with rfl | rfl <;> decide) hd kk
theorem mRow_i {ad : Nat → Int → Nat} {h : mH} {r : Nat} {i : Int} {k n : Nat} (hk : k ≠ 2 ∧ k ≠ 4) : mRow ad h r i k n = (n, .inl (fun j => Int32.ofInt (h r i (j : Int)))) := by
  unfold mRow
  match k, hk with
  | 0, _ => rfl
  | 1, _ => rfl
  | 2, hk => exact absurd rfl hk.1
  | 3, _ => rfl
  | 4, hk => exact absurd rfl hk.2
  | k + 5, _ => rfl
theorem mw_iaload {r pc' : Nat} {i x n : Int} (hr : mRo r 1 n) (hd : mDc M pc (.iaload) 1 pc') (hc : 0 ≤ x ∧ x < n) (kk : At F M pc' L (mI (h r i x) :: st) h) : At F M pc L (mI x :: mR r i :: st) h := by
  obtain ⟨hd, rfl⟩ := hd
  obtain ⟨m, h1, rfl, h2, h3⟩ := hr
  intro G hF V H locs ls hP hS hL v1 v2
  obtain ⟨p, hp⟩ := mIds_at (v2.tl.hd h2.1 h2.2)
  have he := mW_at (cA := mGc G) (ad := mGad G) hp h
  rw [mEnt_inl h1, mRow_i (by decide)] at he
  refine va_iald V.1.1 V.1.2.1 V.2.2.1.1 hP p 1 he rfl (o32_in hc.1 hc.2 (by omega)) hd ?_
  have e : ((Int32.ofInt x).toNatClampNeg : Int) = x := by rw [o32_clamp hc.1 (by omega)]; omega
  rw [e]
  exact kk G hF V H locs ls hP hS hL v1 (mVs.cons trivial v2.tl.tl)
theorem mw_laload {r pc' : Nat} {i x n : Int} (hr : mRo r 2 n) (hd : mDc M pc (.laload) 1 pc') (hc : 0 ≤ x ∧ x < n) (kk : At F M pc' L (mJ (h r i x) :: st) h) : At F M pc L (mI x :: mR r i :: st) h := by
  obtain ⟨hd, rfl⟩ := hd
  obtain ⟨m, h1, rfl, h2, h3⟩ := hr
  intro G hF V H locs ls hP hS hL v1 v2
  obtain ⟨p, hp⟩ := mIds_at (v2.tl.hd h2.1 h2.2)
  have he := mW_at (cA := mGc G) (ad := mGad G) hp h
  rw [mEnt_inl h1] at he
  refine va_lald V.1.1 V.1.2.1 V.2.2.1.1 hP p 2 he rfl (o32_in hc.1 hc.2 (by omega)) hd ?_
  have e : ((Int32.ofInt x).toNatClampNeg : Int) = x := by rw [o32_clamp hc.1 (by omega)]; omega
  rw [e]
  exact kk G hF V H locs ls hP hS hL v1 (mVs.cons trivial v2.tl.tl)
theorem mw_baload {r pc' : Nat} {i x n : Int} (hr : mRo r 0 n) (hd : mDc M pc (.baload) 1 pc') (hc : 0 ≤ x ∧ x < n) (kk : At F M pc' L (mI (h r i x) :: st) h) : At F M pc L (mI x :: mR r i :: st) h := by
  obtain ⟨hd, rfl⟩ := hd
  obtain ⟨m, h1, rfl, h2, h3⟩ := hr
  intro G hF V H locs ls hP hS hL v1 v2
  obtain ⟨p, hp⟩ := mIds_at (v2.tl.hd h2.1 h2.2)
  have he := mW_at (cA := mGc G) (ad := mGad G) hp h
  rw [mEnt_inl h1, mRow_i (by decide)] at he
  refine va_bald V.1.1 V.1.2.1 V.2.2.1.1 hP p 0 he rfl (o32_in hc.1 hc.2 (by omega)) hd ?_
  have e : ((Int32.ofInt x).toNatClampNeg : Int) = x := by rw [o32_clamp hc.1 (by omega)]; omega
  rw [e]
  exact kk G hF V H locs ls hP hS hL v1 (mVs.cons trivial v2.tl.tl)
theorem mw_zaload {r pc' : Nat} {i x n : Int} (hr : mRo r 3 n) (hd : mDc M pc (.baload) 1 pc') (hc : 0 ≤ x ∧ x < n) (kk : At F M pc' L (mI (h r i x) :: st) h) : At F M pc L (mI x :: mR r i :: st) h := by
  obtain ⟨hd, rfl⟩ := hd
  obtain ⟨m, h1, rfl, h2, h3⟩ := hr
  intro G hF V H locs ls hP hS hL v1 v2
  obtain ⟨p, hp⟩ := mIds_at (v2.tl.hd h2.1 h2.2)
  have he := mW_at (cA := mGc G) (ad := mGad G) hp h
  rw [mEnt_inl h1, mRow_i (by decide)] at he
  refine va_zald V.1.1 V.1.2.1 V.2.2.1.1 hP p 3 he rfl (o32_in hc.1 hc.2 (by omega)) hd ?_
  have e : ((Int32.ofInt x).toNatClampNeg : Int) = x := by rw [o32_clamp hc.1 (by omega)]; omega
  rw [e]
  exact kk G hF V H locs ls hP hS hL v1 (mVs.cons trivial v2.tl.tl)
theorem mw_aaload {r pc' : Nat} {i x n : Int} (hr : mRo r 4 n) (hd : mDc M pc (.aaload) 1 pc') (hc : 0 ≤ x ∧ x < n) (kk : At F M pc' L (mR 1 (4 + x) :: st) h) : At F M pc L (mI x :: mR r i :: st) h := by
  obtain ⟨hd, rfl⟩ := hd
  obtain ⟨m, h1, rfl, h2, h3⟩ := hr
  intro G hF V H locs ls hP hS hL v1 v2
  have hm := v2.tl.hd h2.1 h2.2
  obtain ⟨p, hp⟩ := mIds_at hm
  have he := mW_at (cA := mGc G) (ad := mGad G) hp h
  rw [mEnt_inl h1] at he
  refine va_aldq V.1.1 V.1.2.1 V.2.2.1.1 hP p 4 he rfl (o32_in hc.1 hc.2 (by omega)) hd ?_
  have e : ((Int32.ofInt x).toNatClampNeg : Int) = x := by rw [o32_clamp hc.1 (by omega)]; omega
  rw [e]
  exact kk G hF V H locs ls hP hS hL v1 (mVs.cons (v := mR 1 (4 + x)) (fun _ _ => V.2.2.2.1.2 r i m hm h1 x hc.1 hc.2) v2.tl.tl)
theorem mUpd_i {h : mH} {r : Nat} {i x v : Int} (h0 : 0 ≤ x) (h1 : x < 2147483648) : upd (fun j : Nat => Int32.ofInt (h r i (j : Int))) (Int32.ofInt x).toNatClampNeg (Int32.ofInt v) = fun j : Nat => Int32.ofInt (mSet h r i x v r i (j : Int)) := by
  funext j
  rw [o32_clamp h0 h1]
  unfold upd mSet
  by_cases e : j = x.toNat
  · rw [if_pos e, if_pos ⟨rfl, rfl, by omega⟩]
  · rw [if_neg e, if_neg (fun z => e (by have := z.2.2; omega))]
theorem mUpd_l {h : mH} {r : Nat} {i x v : Int} (h0 : 0 ≤ x) (h1 : x < 2147483648) : vp_updL (fun j : Nat => Int64.ofInt (h r i (j : Int))) (Int32.ofInt x).toNatClampNeg (Int64.ofInt v) = fun j : Nat => Int64.ofInt (mSet h r i x v r i (j : Int)) := by
  funext j
  rw [o32_clamp h0 h1]
  unfold vp_updL mSet
  by_cases e : j = x.toNat
  · rw [if_pos e, if_pos ⟨rfl, rfl, by omega⟩]
  · rw [if_neg e, if_neg (fun z => e (by have := z.2.2; omega))]
theorem mw_iastore {r pc' : Nat} {i x v n : Int} (hr : mRo r 1 n) (hd : mDc M pc (.iastore) 1 pc') (hc : 0 ≤ x ∧ x < n) (kk : At F M pc' L st (mSet h r i x v)) : At F M pc L (mI v :: mI x :: mR r i :: st) h := by
  obtain ⟨hd, rfl⟩ := hd
  obtain ⟨m, h1, rfl, h2, h3⟩ := hr
  intro G hF V H locs ls hP hS hL v1 v2
  obtain ⟨p, hp⟩ := mIds_at (v2.tl.tl.hd h2.1 h2.2)
  have he := mW_at (cA := mGc G) (ad := mGad G) hp h
  rw [mEnt_inl h1, mRow_i (by decide)] at he
  have hD := V.2.2.2.2.1 h
  refine va_iast V.1.1 V.1.2.1 V.2.2.1.1 hP hD hS p 1 he rfl (o32_in hc.1 hc.2 (by omega)) hd (fun H1 locs1 hP1 hD1 hS1 => ?_)
  rw [mUpd_i hc.1 (by omega), ← mRow_i (ad := mGad G) (k := 1) (by decide), mW_set hp hD (h2 := mSet h r i x v) (mEnt_inl h1) (fun q2 hq2 k2 => mSet_off q2 hq2 k2)] at hP1
  exact kk G hF V H1 locs1 ls hP1 hS1 hL v1 v2.tl.tl.tl
theorem mw_lastore {r pc' : Nat} {i x v n : Int} (hr : mRo r 2 n) (hd : mDc M pc (.lastore) 1 pc') (hc : 0 ≤ x ∧ x < n) (kk : At F M pc' L st (mSet h r i x v)) : At F M pc L (mJ v :: mI x :: mR r i :: st) h := by
  obtain ⟨hd, rfl⟩ := hd
  obtain ⟨m, h1, rfl, h2, h3⟩ := hr
  intro G hF V H locs ls hP hS hL v1 v2
  obtain ⟨p, hp⟩ := mIds_at (v2.tl.tl.hd h2.1 h2.2)
  have he := mW_at (cA := mGc G) (ad := mGad G) hp h
  rw [mEnt_inl h1] at he
  have hD := V.2.2.2.2.1 h
  refine va_last V.1.1 V.1.2.1 V.2.2.1.1 hP hD hS p 2 he rfl (o32_in hc.1 hc.2 (by omega)) hd (fun H1 locs1 hP1 hD1 hS1 => ?_)
  rw [mUpd_l hc.1 (by omega)] at hP1
  have hP1 : va_P (mGD G) vwCl ((mW (mGc G) (mGad G) (mGids G) h).set p (mGad G r i, Sum.inl (mGc G 2, mRow (mGad G) (mSet h r i x v) r i 2 m))) H1 := hP1
  rw [mW_set hp hD (h2 := mSet h r i x v) (mEnt_inl h1) (fun q2 hq2 k2 => mSet_off q2 hq2 k2)] at hP1
  exact kk G hF V H1 locs1 ls hP1 hS1 hL v1 v2.tl.tl.tl
theorem mw_bastore {r pc' : Nat} {i x v n : Int} (hr : mRo r 0 n) (hd : mDc M pc (.bastore) 1 pc') (hc : (0 ≤ x ∧ x < n) ∧ mI2b v = v) (kk : At F M pc' L st (mSet h r i x v)) : At F M pc L (mI v :: mI x :: mR r i :: st) h := by
  obtain ⟨hd, rfl⟩ := hd
  obtain ⟨m, h1, rfl, h2, h3⟩ := hr
  obtain ⟨hc, hb⟩ := hc
  have hb : vp_nar .byte (Int32.ofInt v) = Int32.ofInt v := by
    rw [vp_nar_byte]
    have := congrArg Int32.ofInt hb
    unfold mI2b at this
    rwa [Int32.ofInt_toInt] at this
  intro G hF V H locs ls hP hS hL v1 v2
  obtain ⟨p, hp⟩ := mIds_at (v2.tl.tl.hd h2.1 h2.2)
  have he := mW_at (cA := mGc G) (ad := mGad G) hp h
  rw [mEnt_inl h1, mRow_i (by decide)] at he
  have hD := V.2.2.2.2.1 h
  refine va_bast V.1.1 V.1.2.1 V.2.2.1.1 hP hD hS p 0 he rfl (o32_in hc.1 hc.2 (by omega)) hd (fun H1 locs1 hP1 hD1 hS1 => ?_)
  rw [hb, mUpd_i hc.1 (by omega), ← mRow_i (ad := mGad G) (k := 0) (by decide), mW_set hp hD (h2 := mSet h r i x v) (mEnt_inl h1) (fun q2 hq2 k2 => mSet_off q2 hq2 k2)] at hP1
  exact kk G hF V H1 locs1 ls hP1 hS1 hL v1 v2.tl.tl.tl
theorem mw_zastore {r pc' : Nat} {i x v n : Int} (hr : mRo r 3 n) (hd : mDc M pc (.bastore) 1 pc') (hc : (0 ≤ x ∧ x < n) ∧ (v = 0 ∨ v = 1)) (kk : At F M pc' L st (mSet h r i x v)) : At F M pc L (mI v :: mI x :: mR r i :: st) h := by
  obtain ⟨hd, rfl⟩ := hd
  obtain ⟨m, h1, rfl, h2, h3⟩ := hr
  obtain ⟨hc, hb⟩ := hc
  have hb : vp_nar .boolean (Int32.ofInt v) = Int32.ofInt v := by rcases hb with rfl | rfl <;> decide
  intro G hF V H locs ls hP hS hL v1 v2
  obtain ⟨p, hp⟩ := mIds_at (v2.tl.tl.hd h2.1 h2.2)
  have he := mW_at (cA := mGc G) (ad := mGad G) hp h
  rw [mEnt_inl h1, mRow_i (by decide)] at he
  have hD := V.2.2.2.2.1 h
  refine va_zast V.1.1 V.1.2.1 V.2.2.1.1 hP hD hS p 3 he rfl (o32_in hc.1 hc.2 (by omega)) hd (fun H1 locs1 hP1 hD1 hS1 => ?_)
  rw [hb, mUpd_i hc.1 (by omega), ← mRow_i (ad := mGad G) (k := 3) (by decide), mW_set hp hD (h2 := mSet h r i x v) (mEnt_inl h1) (fun q2 hq2 k2 => mSet_off q2 hq2 k2)] at hP1
  exact kk G hF V H1 locs1 ls hP1 hS1 hL v1 v2.tl.tl.tl
theorem mw_alen {r k pc' : Nat} {i n : Int} (hr : mRo r k n) (hk : k < 5) (hd : mDc M pc (.arraylength) 1 pc') (kk : At F M pc' L (mI n :: st) h) : At F M pc L (mR r i :: st) h := by
  obtain ⟨hd, rfl⟩ := hd
  obtain ⟨m, h1, rfl, h2, h3⟩ := hr
  intro G hF V H locs ls hP hS hL v1 v2
  obtain ⟨p, hp⟩ := mIds_at (v2.hd h2.1 h2.2)
  have he := mW_at (cA := mGc G) (ad := mGad G) hp h
  rw [mEnt_inl h1] at he
  have hm : (mRow (mGad G) h r i k m).1 = m := by unfold mRow; split <;> rfl
  have ht : ∃ ty, (mTys (mGc G))[k]? = some (mGc G k, ty) := by
    match k, hk with
    | 0, _ => exact ⟨_, rfl⟩
    | 1, _ => exact ⟨_, rfl⟩
    | 2, _ => exact ⟨_, rfl⟩
    | 3, _ => exact ⟨_, rfl⟩
    | 4, _ => exact ⟨_, rfl⟩
  obtain ⟨ty, ht⟩ := ht
  exact va_alen V.1.1 V.1.2.1 V.2.2.1.1 hP p k he ht (v := Int32.ofInt m) (by rw [hm]; exact Int32.ofInt_eq_ofNat.symm) hd (kk G hF V H locs ls hP hS hL v1 (mVs.cons trivial v2.tl))
end MMH
