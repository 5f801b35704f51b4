/-! rows of the small machine: comparisons of longs, cells, ends, calls -/
section MMC
variable {F : mG → Prop} {M : mMs} {pc : Nat} {L st : List mV} {h : mH}
theorem mw_lif_lt {x y off : Int} {pc1 pc' : Nat} (tgt : Nat) (hd : mDc M pc (.lcmp) 1 pc1) (hd2 : mDc M pc1 (.ifCond .lt off) 3 pc') (ht : (pc1 : Int) + off = (tgt : Int)) (hc : mInL x ∧ mInL y) (kt : x < y → At F M tgt L st h) (kf : ¬ x < y → At F M pc' L st h) : At F M pc L (mJ y :: mJ x :: st) h := by
  obtain ⟨hd, rfl⟩ := hd
  obtain ⟨hd2, rfl⟩ := hd2
  intro G hF V H locs ls hP hS hL v1 v2
  exact W.lcmp V.1.1 V.1.2.1 hd (lv_if_lt V.1.1 V.1.2.1 hd2 ht (fun z => kt ((o64_lt hc.1 hc.2).mp ((lg_cmp_lt _ _).mp z)) G hF V H locs ls hP hS hL v1 v2.tl.tl) (fun z => kf (fun z2 => z ((lg_cmp_lt _ _).mpr ((o64_lt hc.1 hc.2).mpr z2))) G hF V H locs ls hP hS hL v1 v2.tl.tl))
theorem mw_lif_ge {x y off : Int} {pc1 pc' : Nat} (tgt : Nat) (hd : mDc M pc (.lcmp) 1 pc1) (hd2 : mDc M pc1 (.ifCond .ge off) 3 pc') (ht : (pc1 : Int) + off = (tgt : Int)) (hc : mInL x ∧ mInL y) (kt : y ≤ x → At F M tgt L st h) (kf : ¬ y ≤ x → At F M pc' L st h) : At F M pc L (mJ y :: mJ x :: st) h := by
  obtain ⟨hd, rfl⟩ := hd
  obtain ⟨hd2, rfl⟩ := hd2
  intro G hF V H locs ls hP hS hL v1 v2
  have e : Int64.ofInt y ≤ Int64.ofInt x ↔ y ≤ x := by rw [Int64.le_iff_toInt_le, o64 hc.1, o64 hc.2]
  exact W.lcmp V.1.1 V.1.2.1 hd (lv_if_ge V.1.1 V.1.2.1 hd2 ht (fun z => kt (e.mp ((lg_cmp_ge _ _).mp z)) G hF V H locs ls hP hS hL v1 v2.tl.tl) (fun z => kf (fun z2 => z ((lg_cmp_ge _ _).mpr (e.mpr z2))) G hF V H locs ls hP hS hL v1 v2.tl.tl))
theorem mw_lif_gt {x y off : Int} {pc1 pc' : Nat} (tgt : Nat) (hd : mDc M pc (.lcmp) 1 pc1) (hd2 : mDc M pc1 (.ifCond .gt off) 3 pc') (ht : (pc1 : Int) + off = (tgt : Int)) (hc : mInL x ∧ mInL y) (kt : y < x → At F M tgt L st h) (kf : ¬ y < x → At F M pc' L st h) : At F M pc L (mJ y :: mJ x :: st) h := by
  obtain ⟨hd, rfl⟩ := hd
  obtain ⟨hd2, rfl⟩ := hd2
  intro G hF V H locs ls hP hS hL v1 v2
  exact W.lcmp V.1.1 V.1.2.1 hd (lv_if_gt V.1.1 V.1.2.1 hd2 ht (fun z => kt ((o64_lt hc.2 hc.1).mp ((lg_cmp_gt _ _).mp z)) G hF V H locs ls hP hS hL v1 v2.tl.tl) (fun z => kf (fun z2 => z ((lg_cmp_gt _ _).mpr ((o64_lt hc.2 hc.1).mpr z2))) G hF V H locs ls hP hS hL v1 v2.tl.tl))
theorem mw_lif_le {x y off : Int} {pc1 pc' : Nat} (tgt : Nat) (hd : mDc M pc (.lcmp) 1 pc1) (hd2 : mDc M pc1 (.ifCond .le off) 3 pc') (ht : (pc1 : Int) + off = (tgt : Int)) (hc : mInL x ∧ mInL y) (kt : x ≤ y → At F M tgt L st h) (kf : ¬ x ≤ y → At F M pc' L st h) : At F M pc L (mJ y :: mJ x :: st) h := by
  obtain ⟨hd, rfl⟩ := hd
  obtain ⟨hd2, rfl⟩ := hd2
  intro G hF V H locs ls hP hS hL v1 v2
  have e : Int64.ofInt x ≤ Int64.ofInt y ↔ x ≤ y := by rw [Int64.le_iff_toInt_le, o64 hc.1, o64 hc.2]
  exact W.lcmp V.1.1 V.1.2.1 hd (lv_if_le V.1.1 V.1.2.1 hd2 ht (fun z => kt (e.mp ((lg_cmp_le _ _).mp z)) G hF V H locs ls hP hS hL v1 v2.tl.tl) (fun z => kf (fun z2 => z ((lg_cmp_le _ _).mpr (e.mpr z2))) G hF V H locs ls hP hS hL v1 v2.tl.tl))
theorem mw_lif_eq {x y off : Int} {pc1 pc' : Nat} (tgt : Nat) (hd : mDc M pc (.lcmp) 1 pc1) (hd2 : mDc M pc1 (.ifCond .eq off) 3 pc') (ht : (pc1 : Int) + off = (tgt : Int)) (hc : mInL x ∧ mInL y) (kt : x = y → At F M tgt L st h) (kf : ¬ x = y → At F M pc' L st h) : At F M pc L (mJ y :: mJ x :: st) h := by
  obtain ⟨hd, rfl⟩ := hd
  obtain ⟨hd2, rfl⟩ := hd2
  intro G hF V H locs ls hP hS hL v1 v2
  exact W.lcmp V.1.1 V.1.2.1 hd (lv_if_eq V.1.1 V.1.2.1 hd2 ht (fun z => kt ((o64_eq hc.1 hc.2).mp ((lg_cmp_eq _ _).mp z)) G hF V H locs ls hP hS hL v1 v2.tl.tl) (fun z => kf (fun z2 => z ((lg_cmp_eq _ _).mpr ((o64_eq hc.1 hc.2).mpr z2))) G hF V H locs ls hP hS hL v1 v2.tl.tl))
theorem mw_lif_ne {x y off : Int} {pc1 pc' : Nat} (tgt : Nat) (hd : mDc M pc (.lcmp) 1 pc1) (hd2 : mDc M pc1 (.ifCond .ne off) 3 pc') (ht : (pc1 : Int) + off = (tgt : Int)) (hc : mInL x ∧ mInL y) (kt : ¬ x = y → At F M tgt L st h) (kf : x = y → At F M pc' L st h) : At F M pc L (mJ y :: mJ x :: st) h := by
  obtain ⟨hd, rfl⟩ := hd
  obtain ⟨hd2, rfl⟩ := hd2
  intro G hF V H locs ls hP hS hL v1 v2
  exact W.lcmp V.1.1 V.1.2.1 hd (lv_if_ne V.1.1 V.1.2.1 hd2 ht (fun z => kt (fun z2 => z ((lg_cmp_eq _ _).mpr ((o64_eq hc.1 hc.2).mpr z2))) G hF V H locs ls hP hS hL v1 v2.tl.tl) (fun z => kf ((o64_eq hc.1 hc.2).mp ((lg_cmp_eq _ _).mp z)) G hF V H locs ls hP hS hL v1 v2.tl.tl))
theorem mw_tableIn {x : Int} {dflt lo hi off : Int} {offs : Array Int} {len : Nat} {pc' : Nat} (tgt : Nat) (hd : mDc M pc (.tableswitch dflt lo hi offs) len pc') (hx : mInR x) (h1 : lo ≤ x) (h2 : x ≤ hi) (ho : offs[(x - lo).toNat]? = some off) (ht : (pc : Int) + off = (tgt : Int)) (k : At F M tgt L st h) : At F M pc L (mI x :: st) h := by
  obtain ⟨hd, -⟩ := hd
  intro G hF V H locs ls hP hS hL v1 v2
  exact lv_tableIn V.1.1 V.1.2.1 hd (by rw [o32 hx]; omega) (by rw [o32 hx]; omega) (by rw [o32 hx]; exact ho) ht (k G hF V H locs ls hP hS hL v1 v2.tl)
theorem mw_tableOut {x : Int} {dflt lo hi : Int} {offs : Array Int} {len : Nat} {pc' : Nat} (tgt : Nat) (hd : mDc M pc (.tableswitch dflt lo hi offs) len pc') (hx : mInR x) (h1 : x < lo ∨ hi < x) (ht : (pc : Int) + dflt = (tgt : Int)) (k : At F M tgt L st h) : At F M pc L (mI x :: st) h := by
  obtain ⟨hd, -⟩ := hd
  intro G hF V H locs ls hP hS hL v1 v2
  exact lv_tableOut V.1.1 V.1.2.1 hd (by rw [o32 hx]; exact h1) ht (k G hF V H locs ls hP hS hL v1 v2.tl)
/-! the world -/
theorem mW_at {cA : Nat → ClassId} {ad : Nat → Int → Nat} {ids : List (Nat × Int)} {p : Nat} {q : Nat × Int} (hp : ids[p]? = some q) (h : mH) : (mW cA ad ids h)[p]? = some (ad q.1 q.2, mEnt cA ad h q) := by
  unfold mW
  rw [List.getElem?_map, hp]
  rfl
theorem mEnt_inr {cA : Nat → ClassId} {ad : Nat → Int → Nat} {h : mH} {r : Nat} {i : Int} {ci : Nat} {fs : List mFd} (ho : mT r = .inr (ci, fs)) : mEnt cA ad h (r, i) = .inr (ci, mFs ad h r i fs) := by
  unfold mEnt
  dsimp only
  rw [ho]
theorem mEnt_inl {cA : Nat → ClassId} {ad : Nat → Int → Nat} {h : mH} {r : Nat} {i : Int} {k n : Nat} (ho : mT r = .inl (k, n)) : mEnt cA ad h (r, i) = .inl (cA k, mRow ad h r i k n) := by
  unfold mEnt
  dsimp only
  rw [ho]
theorem mEnt_off {cA : Nat → ClassId} {ad : Nat → Int → Nat} {h h2 : mH} {q : Nat × Int} (e : ∀ k, h2 q.1 q.2 k = h q.1 q.2 k) : mEnt cA ad h2 q = mEnt cA ad h q := by
  have e : h2 q.1 q.2 = h q.1 q.2 := funext e
  unfold mEnt mFs mRow
  rw [e]
theorem mW_set {cA : Nat → ClassId} {ad : Nat → Int → Nat} {ids : List (Nat × Int)} {A : Nat → Prop} {p : Nat} {q : Nat × Int} (hp : ids[p]? = some q) {h h2 : mH} {e : va_E} (hD : va_D A (mW cA ad ids h)) (h1 : mEnt cA ad h2 q = e) (ho : ∀ q2 : Nat × Int, q2 ≠ q → ∀ k, h2 q2.1 q2.2 k = h q2.1 q2.2 k) : (mW cA ad ids h).set p (ad q.1 q.2, e) = mW cA ad ids h2 := by
  have hl : p < ids.length := (List.getElem?_eq_some_iff.mp hp).1
  apply List.ext_getElem?
  intro j
  by_cases hj : j = p
  · subst hj
    rw [List.getElem?_set_self (by unfold mW; rw [List.length_map]; exact hl), mW_at hp, h1]
  · rw [List.getElem?_set_ne (Ne.symm hj)]
    cases hjq : ids[j]? with
    | none =>
      unfold mW
      rw [List.getElem?_map, List.getElem?_map, hjq]
      rfl
    | some q2 =>
      rw [mW_at hjq, mW_at hjq]
      have hne : q2 ≠ q := fun z => hj (hD.1 j p _ _ (mW_at hjq h) (mW_at hp h) (by rw [z]))
      rw [mEnt_off (ho q2 hne)]
theorem mIds_at {ids : List (Nat × Int)} {q : Nat × Int} (h : q ∈ ids) : ∃ p : Nat, ids[p]? = some q := List.getElem?_of_mem h
/-- the tables' words of a number of vwCl -/
theorem mLay : ∀ (ci : Nat) (q : vw_C), vwCl[ci]? = some q → ∀ w ∈ u_ws q.1 q.2.1 q.2.2, w ∈ mTbl := by
  intro ci q hq
  have key : ∀ q ∈ vwCl, ∀ w ∈ u_ws q.1 q.2.1 q.2.2, w ∈ mTbl := by
    have h1 : ∀ q ∈ vwCl, ∀ w ∈ u_ws q.1 q.2.1 q.2.2, w ∈ lw_tbl ∧ goodWord w = true := by decide +kernel
    exact fun q hq w hw => List.mem_filter.mpr (h1 q hq w hw)
  exact key q (List.mem_of_getElem? hq)
theorem mNm : ∀ (ci : Nat) (q : vw_C), vwCl[ci]? = some q → ∀ a, a < q.2.2 → ∀ b, b < q.2.2 → a ≠ b → (q.2.1 a).2.1 ≠ (q.2.1 b).2.1 := by
  intro ci q hq
  have key : ∀ q ∈ vwCl, ∀ a, a < q.2.2 → ∀ b, b < q.2.2 → a ≠ b → (q.2.1 a).2.1 ≠ (q.2.1 b).2.1 := by
    simp only [vwCl, List.forall_mem_cons]
    exact ⟨nmX0, nmX1, nmX2, nmX3, nmX4, nmX5, nmX6, nmX7, fun _ h => absurd h List.not_mem_nil⟩
  exact key q (List.mem_of_getElem? hq)
theorem mTyk : ∀ (ci : Nat) (q : vw_C), vwCl[ci]? = some q → ∃ ty : Nat → FieldType, ∀ k, k < q.2.2 → parseFieldDescriptor (q.2.1 k).2.2.1 = some (ty k) := by
  intro ci q hq
  have key : ∀ q ∈ vwCl, ∃ ty : Nat → FieldType, ∀ k, k < q.2.2 → parseFieldDescriptor (q.2.1 k).2.2.1 = some (ty k) := by
    simp only [vwCl, List.forall_mem_cons]
    exact ⟨⟨_, tyX0_ok⟩, ⟨_, tyX1_ok⟩, ⟨_, tyX2_ok⟩, ⟨_, tyX3_ok⟩, ⟨_, tyX4_ok⟩, ⟨_, tyX5_ok⟩, ⟨_, tyX6_ok⟩, ⟨_, tyX7_ok⟩, fun _ h => absurd h List.not_mem_nil⟩
  exact key q (List.mem_of_getElem? hq)
end MMC
