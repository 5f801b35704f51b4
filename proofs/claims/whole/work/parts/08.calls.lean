/-! rows of the small machine: a method's entry and its ends; calls -/
theorem mD_any {cA : Nat → ClassId} {ad : Nat → Int → Nat} {ids : List (Nat × Int)} {A : Nat → Prop} {h : mH} (hD : va_D A (mW cA ad ids h)) (h2 : mH) : va_D A (mW cA ad ids h2) := by
  have key : ∀ (k : Nat) (q : Nat × va_E), (mW cA ad ids h2)[k]? = some q → ∃ q0 : Nat × va_E, (mW cA ad ids h)[k]? = some q0 ∧ q0.1 = q.1 := by
    intro k q hk
    cases hi : ids[k]? with
    | none =>
      unfold mW at hk
      rw [List.getElem?_map, hi] at hk
      cases hk
    | some z =>
      rw [mW_at hi] at hk
      cases hk
      exact ⟨_, mW_at hi h, rfl⟩
  refine ⟨fun i j x y hi hj hxy => ?_, fun k q hk => ?_⟩
  · obtain ⟨x0, h1, e1⟩ := key i x hi
    obtain ⟨y0, h3, e3⟩ := key j y hj
    exact hD.1 i j x0 y0 h1 h3 (e1.trans (hxy.trans e3.symm))
  · obtain ⟨q0, h1, e1⟩ := key k q hk
    rw [← e1]
    exact hD.2 k q0 h1
theorem mEl_args (ad : Nat → Int → Nat) : ∀ (as : List mV) (n i : Nat) (v : mV), (mEl as)[i]? = some v → v ≠ mU → (n + i, mIv ad v) ∈ lv_args n (as.map (mIv ad))
  | [], n, i, v, h, _ => by simp [mEl] at h
  | .inl x :: l, n, i, v, h, hu => by
    cases i with
    | zero =>
      simp [mEl] at h
      subst h
      exact List.mem_cons_self
    | succ i =>
      simp [mEl] at h
      have := mEl_args ad l (n + 1) i v h hu
      rw [show n + (i + 1) = n + 1 + i by omega]
      exact List.mem_cons_of_mem _ this
  | .inr (.inl x) :: l, n, i, v, h, hu => by
    match i with
    | 0 =>
      simp [mEl] at h
      subst h
      exact List.mem_cons_self
    | 1 =>
      simp [mEl] at h
      exact absurd h.symm hu
    | i + 2 =>
      simp [mEl] at h
      have := mEl_args ad l (n + 2) i v h hu
      rw [show n + (i + 2) = n + 2 + i by omega]
      exact List.mem_cons_of_mem _ this
  | .inr (.inr q) :: l, n, i, v, h, hu => by
    cases i with
    | zero =>
      simp [mEl] at h
      subst h
      exact List.mem_cons_self
    | succ i =>
      simp [mEl] at h
      have := mEl_args ad l (n + 1) i v h hu
      rw [show n + (i + 1) = n + 1 + i by omega]
      exact List.mem_cons_of_mem _ this
theorem mEl_len (ad : Nat → Int → Nat) : ∀ as : List mV, (lg_sl (as.map (mIv ad))).length = (mEl as).length
  | [] => rfl
  | .inl x :: l => by
    show ([Slot.val (.int (Int32.ofInt x))] ++ lg_sl (l.map (mIv ad))).length = (mI x :: mEl l).length
    rw [List.length_append, mEl_len ad l, List.length_cons, List.length_cons, List.length_nil]
    omega
  | .inr (.inl x) :: l => by
    show ([Slot.val (.long (Int64.ofInt x)), Slot.second] ++ lg_sl (l.map (mIv ad))).length = (mJ x :: mU :: mEl l).length
    rw [List.length_append, mEl_len ad l]
    simp only [List.length_cons, List.length_nil]
    omega
  | .inr (.inr q) :: l => by
    show ([Slot.val (.ref (ad q.1 q.2))] ++ lg_sl (l.map (mIv ad))).length = (mR q.1 q.2 :: mEl l).length
    rw [List.length_append, mEl_len ad l, List.length_cons, List.length_cons, List.length_nil]
    omega
theorem mVs.el {ids : List (Nat × Int)} : ∀ {as : List mV}, mVs ids as → mVs ids (mEl as)
  | [], _ => fun _ h => by cases h
  | .inl x :: l, h => mVs.cons trivial (mVs.el h.tl)
  | .inr (.inl x) :: l, h => mVs.cons (v := mJ x) trivial (mVs.cons (v := mU) (fun z => absurd z (by decide)) (mVs.el h.tl))
  | .inr (.inr q) :: l, h => mVs.cons h.hd (mVs.el h.tl)
/-- a method's contract out of a walk from its entry -/
theorem Ok.of {M : mMs} {as : List mV} {h : mH} {K : Option mV → mH → Prop} (hp : plainFor M.1 = true) {n : Nat} (hn : (mEl as).length + n = M.2.2.1) (hat : At (mPost K) M 0 (mEl as ++ List.replicate n mU) [] h) : Ok M as h K := by
  intro l D cA ad ids sz hC hv
  refine va_MetF (cc := M.2.1) (maxL := M.2.2.1) (ret := M.2.2.2.1) (ws' := mTbl) hp rfl ?_
  intro p e s m args below meth c s₁ B hml hv'
  obtain ⟨rfl, hsz, hP, hD0, hFx⟩ := hv'
  subst hsz
  have hts := atoms_spec (ws := mWs M) B.pre
  have hD := hD0.self (sz := s.heap.size)
  have hl := lv_entry (as.map (mIv ad)) (n := M.2.2.1) (by rw [mEl_len]; omega)
  rw [lg_entry_eq]
  generalize (lg_sl (as.map (mIv ad)) ++ List.replicate (M.2.2.1 - (lg_sl (as.map (mIv ad))).length) Slot.unset).toArray = ls at hl ⊢
  refine hat ((p, l, e, (headSpec (mWs M) (mRoom M.2.2.2.2)).room, s), (m, (as.map (mIv ad)).toArray, below, meth, c), (D, cA, ad, ids), (va_A (mW cA ad ids h) s.heap.size, 0, 0, MQ below (mQ D cA ad ids K (va_A (mW cA ad ids h) s.heap.size)) (as.map (mIv ad)).toArray s 0 0 (va_A (mW cA ad ids h) s.heap.size)))
    ⟨rfl, rfl, rfl⟩ ⟨⟨B.exec, B.bytes, hml, findClass_of_methodNamed B.named, fun w hw => hts w (List.mem_cons_of_mem _ hw)⟩, ⟨B.returns, B.notSynchronized⟩, hFx, hC, fun h2 => mD_any hD h2, fun q hq => Or.inr hq, ⟨Nat.le_refl _, Nat.le_refl _, Nat.zero_le _, Nat.zero_le _⟩⟩
    s.heap [] ls hP va_S.rf ⟨hl.1, hl.2.1, fun i v hi hu => ?_⟩ (fun w hw => ?_) (fun _ z => by cases z)
  · by_cases hlt : i < (mEl as).length
    · rw [List.getElem?_append_left hlt] at hi
      have := hl.2.2 _ (mEl_args ad as 0 i v hi hu)
      simpa using this
    · rw [List.getElem?_append_right (by omega)] at hi
      exact absurd (List.eq_of_mem_replicate (List.mem_of_getElem? hi)) hu
  · rcases List.mem_append.mp hw with z | z
    · exact hv.el w z
    · rw [List.eq_of_mem_replicate z]
      exact fun z => absurd z (by decide)
theorem Ok.mono {M : mMs} {as : List mV} {h : mH} {K K2 : Option mV → mH → Prop} (hk : Ok M as h K) (hkk : ∀ r h, K r h → K2 r h) : Ok M as h K2 := by
  intro l D cA ad ids sz hC hv p e ha hc hk' s m args below hf happ hP hK
  obtain ⟨t, o, h1, h2, h3, ⟨r, h', e1, e2, e3⟩, e4⟩ := hk l D cA ad ids sz hC hv p e ha hc hk' s m args below hf happ hP hK
  exact ⟨t, o, h1, h2, h3, ⟨r, h', e1, hkk r h' e2, e3⟩, e4⟩
section MME
variable {M : mMs} {pc : Nat} {L : List mV} {h : mH} {K : Option mV → mH → Prop}
theorem mw_iret {x : Int} {pc' : Nat} (hr : M.2.2.2.1 = some .int) (hd : mDc M pc (.ireturn) 1 pc') (k : K (some (mI x)) h) : At (mPost K) M pc L [mI x] h := by
  obtain ⟨hd, rfl⟩ := hd
  rintro G ⟨hQ, hc, hs⟩ V H locs ls hP hS hL v1 v2
  have hlocks : G.2.1.2.2.2.1.locks = false := V.2.1.2
  show W _ _ _ _ _ _ _ _ _ _ _ _ _ _ _ _
  rw [hQ, hc, hs]
  exact W.iret V.1.1 V.1.2.1 (V.2.1.1.trans hr) (fun t ht hW => ⟨some (mI x), h, rfl, k, (fun v e => by cases e; trivial), by rw [ht]; exact hP, hS.F ht⟩) hS.2.2 hd hlocks
theorem mw_zret {x : Int} {pc' : Nat} (hr : M.2.2.2.1 = some .boolean) (hd : mDc M pc (.ireturn) 1 pc') (hx : x = 0 ∨ x = 1) (k : K (some (mI x)) h) : At (mPost K) M pc L [mI x] h := by
  obtain ⟨hd, rfl⟩ := hd
  rintro G ⟨hQ, hc, hs⟩ V H locs ls hP hS hL v1 v2
  have hlocks : G.2.1.2.2.2.1.locks = false := V.2.1.2
  show W _ _ _ _ _ _ _ _ _ _ _ _ _ _ _ _
  rw [hQ, hc, hs]
  exact W.zret V.1.1 V.1.2.1 (V.2.1.1.trans hr) (by rcases hx with rfl | rfl <;> decide) (fun t ht hW => ⟨some (mI x), h, rfl, k, (fun v e => by cases e; trivial), by rw [ht]; exact hP, hS.F ht⟩) hS.2.2 hd hlocks
theorem mw_lret {x : Int} {pc' : Nat} (hr : M.2.2.2.1 = some .long) (hd : mDc M pc (.lreturn) 1 pc') (k : K (some (mJ x)) h) : At (mPost K) M pc L [mJ x] h := by
  obtain ⟨hd, rfl⟩ := hd
  rintro G ⟨hQ, hc, hs⟩ V H locs ls hP hS hL v1 v2
  have hlocks : G.2.1.2.2.2.1.locks = false := V.2.1.2
  show W _ _ _ _ _ _ _ _ _ _ _ _ _ _ _ _
  rw [hQ, hc, hs]
  exact W.lret V.1.1 V.1.2.1 (V.2.1.1.trans hr) (fun t ht hW => ⟨some (mJ x), h, rfl, k, (fun v e => by cases e; trivial), by rw [ht]; exact hP, hS.F ht⟩) hS.2.2 hd hlocks
theorem mw_vret {pc' : Nat} (hr : M.2.2.2.1 = none) (hd : mDc M pc (.return_) 1 pc') (k : K none h) : At (mPost K) M pc L [] h := by
  obtain ⟨hd, rfl⟩ := hd
  rintro G ⟨hQ, hc, hs⟩ V H locs ls hP hS hL v1 v2
  have hlocks : G.2.1.2.2.2.1.locks = false := V.2.1.2
  show W _ _ _ _ _ _ _ _ _ _ _ _ _ _ _ _
  rw [hQ, hc, hs]
  exact W.vret V.1.1 V.1.2.1 (V.2.1.1.trans hr) (fun t ht hW => ⟨none, h, rfl, k, (fun v e => by cases e), by rw [ht]; exact hP, hS.F ht⟩) hS.2.2 hd hlocks
end MME
def mCat : List mV → Nat
  | [] => 0
  | .inr (.inl _) :: l => 2 + mCat l
  | _ :: l => 1 + mCat l
theorem mCat_sum (ad : Nat → Int → Nat) : ∀ l : List mV, ((l.map (mIv ad)).map fun v => v.category).sum = mCat l
  | [] => rfl
  | .inl x :: l => by rw [List.map_cons, List.map_cons, List.sum_cons, mCat_sum ad l]; rfl
  | .inr (.inl x) :: l => by rw [List.map_cons, List.map_cons, List.sum_cons, mCat_sum ad l]; rfl
  | .inr (.inr q) :: l => by rw [List.map_cons, List.map_cons, List.sum_cons, mCat_sum ad l]; rfl
theorem mFree {G : mG} {M : mMs} (V : mOk G M) {h : mH} {H : Heap} {locs : List Loc} (hS : va_S (mGA G) (mGs G).heap H locs) : ∀ q, va_A (mW (mGc G) (mGad G) (mGids G) h) H.size q → mGA G q := by
  rintro q (⟨k, e, z⟩ | z)
  · exact (V.2.2.2.2.1 h).2 k (q, e) z
  · exact V.2.2.2.2.2.1 q (Nat.le_trans hS.1 z)
theorem mFx_at {G : mG} {M : mMs} (V : mOk G M) {h : mH} {H : Heap} {locs : List Loc} (hP : va_P (mGD G) vwCl (mW (mGc G) (mGad G) (mGids G) h) H) (hS : va_S (mGA G) (mGs G).heap H locs) {U : State} (hU : U.heap = H) (hW : (mGs G).WarmedH U.vm) : mPre (mGD G) (mGc G) (mGad G) (mGids G) H.size h U := by
  obtain ⟨f1, f2, f3⟩ := V.2.2.1
  refine ⟨by rw [hU], by rw [hU]; exact hP, (V.2.2.2.2.1 h).weaken (fun _ _ _ _ => trivial), f1.moved hW.alike, f2.warm hW, ?_⟩
  rw [hU]
  exact ((f3.kept hS.2.1).narrow (mFree V hS)).warm hW
theorem mBlind {av : List Value} {D : va_G} {cA : Nat → ClassId} {ad : Nat → Int → Nat} {ids : List (Nat × Int)} {sz : Nat} {h : mH} : FrameBlind (va_Pc av (mPre D cA ad ids sz h)) := by
  rintro a U g mk ⟨q0, q1, qP, qD, qK, qN, qS⟩
  exact ⟨q0, q1, qP, qD, qK.moved (u := U) (U := U.calling g mk a) (Vm.Alike.refl U.vm), qN.same rfl, qS.same rfl⟩
section MMF
variable {F : mG → Prop} {M : mMs} {pc : Nat} {L st : List mV} {h : mH}
theorem mRun_go {G : mG} (hF : F G) (V : mOk G M) {K : Option mV → mH → Prop} {a : Array Value} {H : Heap} {locs : List Loc} {ls : Array Slot} {st0 : List Value}
    (hr : va_Run G.1.1 G.1.2.1 G.1.2.2.1 G.1.2.2.2.1 (mGs G) G.2.1.1 G.2.1.2.1 G.2.1.2.2.1 G.2.1.2.2.2.1 G.2.1.2.2.2.2 H locs G.2.2.2.2.1 G.2.2.2.2.2.1 0 0 (F0 G.2.1.1 pc ls st0) (st.map (mIv (mGad G))) (mQ (mGD G) (mGc G) (mGad G) (mGids G) K (va_A (mW (mGc G) (mGad G) (mGids G) h) H.size) a) (va_A (mW (mGc G) (mGad G) (mGids G) h) H.size))
    (hS : va_S (mGA G) (mGs G).heap H locs) (hL : mLs (mGad G) M.2.2.1 L ls) (v1 : mVs (mGids G) L) (v2 : mVs (mGids G) st)
    (k : ∀ r h2, K r h2 → At F M (pc + 3) L (r.toList ++ st) h2) : mGW G H locs (F0 G.2.1.1 pc ls st0) := by
  intro T hT X
  obtain ⟨v, s0, t, T', L', h0, X', hL', e1, e2, ⟨r, h2, hv, hK, hvo, hP', hF'⟩, go⟩ := hr T hT X
  have hv : v = r.map (mIv (mGad G)) := by injection hv
  subst hv
  have hfr := mFree (h := h) V hS
  have hsz : H.size ≤ t.heap.size := by rw [← h0]; exact hF'.1
  have hS' : va_S (mGA G) (mGs G).heap T'.heap (locs ++ L') := by
    refine ⟨by rw [e1]; exact Nat.le_trans hS.1 hsz, fun q h1 h3 => ?_, fun q hq => ?_⟩
    · rw [e1, hF'.2 q (by rw [h0]; exact Nat.lt_of_lt_of_le h1 hS.1) (fun z => h3 (hfr q z)), h0]
      exact hS.2.1 q h1 h3
    · rcases List.mem_append.mp hq with z | z
      · exact hS.2.2 q z
      · exact hfr _ (hL' q z)
  have kk := k r h2 hK G hF V T'.heap (locs ++ L') ls (by rw [e1]; exact hP') hS' hL v1 (by
    intro w hw
    rcases List.mem_append.mp hw with z | z
    · cases r with
      | none => cases z
      | some u =>
        rcases List.mem_cons.mp z with e | e
        · rw [e]; exact hvo u rfl
        · cases e
    · exact v2 w z)
  obtain ⟨t2, a1, b1⟩ := kk T' rfl X'
  refine ⟨t2, go t2 ?_, b1⟩
  cases r with
  | none => exact a1
  | some u => exact a1
/-- a method of the objects of role r, with n numbers behind the object -/
def mMv (M' : mMs) (r n : Nat) : Prop := ∃ (ci : Nat) (fs : List mFd) (q : vw_C), mT r = .inr (ci, fs) ∧ (1 ≤ r ∧ r < 50) ∧ vwCl[ci]? = some q ∧ M'.1.cls = q.1 ∧ Cond.instanceMethod M'.1 ∈ mTbl ∧ Cond.selects q.1 M'.1 M'.1 ∈ mTbl ∧ Cond.initialized q.1 ∈ mTbl ∧ Cond.code M'.1 M'.2.1 M'.2.2.1 M'.2.2.2.1 ∈ mTbl ∧ (M'.1.cls ≠ "java/lang/invoke/MethodHandle" ∧ M'.1.cls ≠ "java/lang/invoke/VarHandle" ∧ (parseMethodDescriptor M'.1.desc).map (fun d => d.parameters.length) = some n) ∧ M'.2.2.1 ≤ 21
/-- a static method -/
def mMt (M' : mMs) (n : Nat) : Prop := Cond.static M'.1 ∈ mTbl ∧ Cond.initialized M'.1.cls ∈ mTbl ∧ Cond.code M'.1 M'.2.1 M'.2.2.1 M'.2.2.2.1 ∈ mTbl ∧ (M'.1.cls ≠ "java/lang/invoke/MethodHandle" ∧ M'.1.cls ≠ "java/lang/invoke/VarHandle" ∧ (parseMethodDescriptor M'.1.desc).map (fun d => d.parameters.length) = some n) ∧ M'.2.2.1 ≤ 21
theorem mw_callV {M' : mMs} {idx r n pc' : Nat} {i : Int} {as : List mV} {K : Option mV → mH → Prop} (hm : mMv M' r n) (hl : Cond.methodLink M.1.cls idx M'.1 ∈ mTbl) (hdep : M'.2.2.2.2 + 1 ≤ M.2.2.2.2) (hd : mDc M pc (.invokevirtual idx) 3 pc') (hn : as.length = n) (hst : Nat.ble (mCat st) 8 = true) (ok : Ok M' (mR r i :: as) h K) (k : ∀ r h2, K r h2 → At F M pc' L (r.toList ++ st) h2) : At F M pc L (as.reverse ++ mR r i :: st) h := by
  obtain ⟨hd, rfl⟩ := hd
  obtain ⟨ci, fs, q, h1, h2, h3, h4, w1, w2, w3, w4, hx, hnl⟩ := hm
  intro G hF V H locs ls hP hS hL v1 v2
  have v2b := v2.app.2
  obtain ⟨p, hp⟩ := mIds_at (v2b.hd h2.1 h2.2)
  have he := mW_at (cA := mGc G) (ad := mGad G) hp h
  rw [mEnt_inr h1] at he
  have hvs : mVs (mGids G) (mR r i :: as) := mVs.cons v2b.hd (fun w hw => v2 w (List.mem_append_left _ (List.mem_reverse.mpr hw)))
  have hgood : GoodIn mTbl (wsV M.1.cls idx q.1 M'.1 (mWs M')) := mTbl_good (by
    intro w hw
    unfold wsV mWs at hw
    simp only [List.cons_append, List.nil_append, List.mem_cons] at hw
    rcases hw with rfl | rfl | rfl | rfl | rfl | hw
    · exact hl
    · exact w1
    · exact w2
    · exact w3
    · exact w4
    · exact hw)
  refine mRun_go hF V (va_runV (As := as.map (mIv (mGad G))) (rest := st.map (mIv (mGad G))) (b := mGad G r i) V.1 (ok G.1.2.1 (mGD G) (mGc G) (mGad G) (mGids G) H.size V.2.2.2.1 hvs)
    (cwV n V.1.2.2.2.2 hgood rfl rfl rfl ⟨h4, hx⟩ ⟨Nat.le_trans hdep V.2.2.2.2.2.2.1, ?_⟩)
    ⟨mBlind, va_recv V.2.2.1.1 hP h3 he, fun U hU hW => ⟨rfl, mFx_at V hP hS hU hW⟩⟩ rfl (by rw [List.length_map]; exact hn) hL.1 ?_ (lv_room (by rw [mCat_sum]; exact Nat.le_of_ble_eq_true hst)) hd ⟨V.2.2.2.2.2.2.2.2.1, V.2.2.2.2.2.2.2.2.2⟩) hS hL v1 v2b.tl k
  · have := V.2.2.2.2.2.2.2.1
    show 8 + (M'.2.2.1 + 11) + 40 * M'.2.2.2.2 ≤ _
    omega
  · show (as.reverse ++ mR r i :: st).map (mIv (mGad G)) = _
    rw [List.map_append, List.map_reverse]
    rfl
theorem mw_callS {M' : mMs} {idx n pc' : Nat} {as : List mV} {K : Option mV → mH → Prop} (hm : mMt M' n) (hl : Cond.methodLink M.1.cls idx M'.1 ∈ mTbl) (hdep : M'.2.2.2.2 + 1 ≤ M.2.2.2.2) (hd : mDc M pc (.invokestatic idx) 3 pc') (hn : as.length = n) (hst : Nat.ble (mCat st) 8 = true) (ok : Ok M' as h K) (k : ∀ r h2, K r h2 → At F M pc' L (r.toList ++ st) h2) : At F M pc L (as.reverse ++ st) h := by
  obtain ⟨hd, rfl⟩ := hd
  obtain ⟨w1, w2, w3, hx, hnl⟩ := hm
  intro G hF V H locs ls hP hS hL v1 v2
  have v2b := v2.app.2
  have hvs : mVs (mGids G) as := fun w hw => v2 w (List.mem_append_left _ (List.mem_reverse.mpr hw))
  have hgood : GoodIn mTbl (va_wsS M.1.cls idx M'.1 (mWs M')) := mTbl_good (by
    intro w hw
    unfold va_wsS mWs at hw
    simp only [List.cons_append, List.nil_append, List.mem_cons] at hw
    rcases hw with rfl | rfl | rfl | rfl | hw
    · exact hl
    · exact w1
    · exact w2
    · exact w3
    · exact hw)
  refine mRun_go hF V (va_runS (As := as.map (mIv (mGad G))) (rest := st.map (mIv (mGad G))) V.1 (ok G.1.2.1 (mGD G) (mGc G) (mGad G) (mGids G) H.size V.2.2.2.1 hvs)
    (va_cwS n V.1.2.2.2.2 hgood rfl rfl rfl hx ⟨Nat.le_trans hdep V.2.2.2.2.2.2.1, ?_⟩)
    ⟨mBlind, fun U hU hW => ⟨rfl, mFx_at V hP hS hU hW⟩⟩ rfl (by rw [List.length_map]; exact hn) hL.1 ?_ (lv_room (by rw [mCat_sum]; exact Nat.le_of_ble_eq_true hst)) hd ⟨V.2.2.2.2.2.2.2.2.1, V.2.2.2.2.2.2.2.2.2⟩) hS hL v1 v2b k
  · have := V.2.2.2.2.2.2.2.1
    show 8 + (M'.2.2.1 + 11) + 40 * M'.2.2.2.2 ≤ _
    omega
  · show (as.reverse ++ st).map (mIv (mGad G)) = _
    rw [List.map_append, List.map_reverse]
/-- a private static method of the nest -/
theorem mw_callN {M' : mMs} {idx n pc' : Nat} {host : String} {as : List mV} {K : Option mV → mH → Prop} (hm : mMt M' n) (hl : (M.1.cls, idx, M'.1, host) ∈ mNst) (hdep : M'.2.2.2.2 + 1 ≤ M.2.2.2.2) (hd : mDc M pc (.invokestatic idx) 3 pc') (hn : as.length = n) (hst : Nat.ble (mCat st) 8 = true) (ok : Ok M' as h K) (k : ∀ r h2, K r h2 → At F M pc' L (r.toList ++ st) h2) : At F M pc L (as.reverse ++ st) h := by
  obtain ⟨hd, rfl⟩ := hd
  obtain ⟨w1, w2, w3, hx, hnl⟩ := hm
  intro G hF V H locs ls hP hS hL v1 v2
  have v2b := v2.app.2
  have hvs : mVs (mGids G) as := fun w hw => v2 w (List.mem_append_left _ (List.mem_reverse.mpr hw))
  have hgood : GoodIn mTbl (mWs M') := mTbl_good (by
    intro w hw
    rcases List.mem_cons.mp hw with rfl | hw
    · exact w3
    · exact hw)
  refine mRun_go hF V (va_runSN (As := as.map (mIv (mGad G))) (rest := st.map (mIv (mGad G))) V.1 (ok G.1.2.1 (mGD G) (mGc G) (mGad G) (mGids G) H.size V.2.2.2.1 hvs)
    ⟨va_cnB n V.1.2.2.2.2 hgood rfl rfl rfl (V.2.2.1.2.1 _ hl) (V.1.2.2.2.2 _ w2) hx ⟨Nat.le_trans hdep V.2.2.2.2.2.2.1, ?_⟩, V.1.2.2.2.2 _ w1, trivial⟩
    ⟨mBlind, fun U hU hW => ⟨rfl, mFx_at V hP hS hU hW⟩⟩ rfl (by rw [List.length_map]; exact hn) hL.1 ?_ (lv_room (by rw [mCat_sum]; exact Nat.le_of_ble_eq_true hst)) hd ⟨V.2.2.2.2.2.2.2.2.1, V.2.2.2.2.2.2.2.2.2⟩) hS hL v1 v2b k
  · have := V.2.2.2.2.2.2.2.1
    show 8 + (M'.2.2.1 + 11) + 40 * M'.2.2.2.2 ≤ _
    omega
  · show (as.reverse ++ st).map (mIv (mGad G)) = _
    rw [List.map_append, List.map_reverse]
end MMF
/-- less is known of the locals -/
def mForget (L : List mV) : List Nat → List mV
  | [] => L
  | i :: is => mForget (L.set i mU) is
theorem At.forget1 {F : mG → Prop} {M : mMs} {pc i : Nat} {L st : List mV} {h : mH} (k : At F M pc (L.set i mU) st h) : At F M pc L st h := by
  intro G hF V H locs ls hP hS hL v1 v2
  have key : ∀ (j : Nat) (w : mV), (L.set i mU)[j]? = some w → w ≠ mU → L[j]? = some w := by
    intro j w hj hu
    by_cases e : i = j
    · subst e
      by_cases hl : i < L.length
      · rw [List.getElem?_set_self hl] at hj
        cases hj
        exact absurd rfl hu
      · rw [List.getElem?_eq_none (by rw [List.length_set]; omega)] at hj
        cases hj
    · rwa [List.getElem?_set_ne e] at hj
  exact k G hF V H locs ls hP hS ⟨hL.1, hL.2.1, fun j w hj hu => hL.2.2 j w (key j w hj hu) hu⟩ (mVs.of_get v1 (v := mI 0) trivial fun j w hj hu => Or.inr ⟨j, key j w hj hu⟩) v2
theorem At.forget {F : mG → Prop} {M : mMs} {pc : Nat} {st : List mV} {h : mH} : ∀ (is : List Nat) {L : List mV}, At F M pc (mForget L is) st h → At F M pc L st h
  | [], _, k => k
  | i :: is, _, k => At.forget1 (At.forget is k)
