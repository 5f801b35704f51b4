/-! methods that throw: RateOffice.factor, in the small machine -/
def xI : String := "java/lang/IndexOutOfBoundsException"
def xN : String := "java/util/NoSuchElementException"
def xNm : List String := ["java/lang/RuntimeException", "java/lang/Exception"]
/-- words of a throw that aren't good ones -/
def xCs : List (String × String) := [(xI, xI), (xN, xN)]
def xDs : List MethodName := [Bundle.init0 "java/lang/RuntimeException", Bundle.init0 "java/lang/Exception", Bundle.init0 Bundle.tN]
def mX (A : Nat → Prop) (U : State) (H : Heap) : Prop :=
  (∀ q ∈ xCs, va_Nw (.castable q.1 q.2) U) ∧ (∀ y ∈ xDs, va_Nw (.declares y) U) ∧ va_Nc xN xI U ∧ vx_Zq Bundle.tN "UNASSIGNED_STACK" Bundle.steD A U H ∧ vx_Zq Bundle.tN "SUPPRESSED_SENTINEL" Bundle.listD A U H
theorem mX.warm {A : Nat → Prop} {s U : State} {H : Heap} (hW : s.WarmedH U.vm) (h : mX A s H) : mX A U H := by
  obtain ⟨h1, h2, h3, h4, h5⟩ := h
  exact ⟨fun q hq => (h1 q hq).warmC hW, fun y hy => (h2 y hy).warmD hW, h3.moved hW.alike, h4.moved hW.alike, h5.moved hW.alike⟩
theorem mX.same {A : Nat → Prop} {s U : State} {H : Heap} (e : U.vm = s.vm) (h : mX A s H) : mX A U H := by
  obtain ⟨h1, h2, h3, h4, h5⟩ := h
  have ha : s.vm.Alike U.vm := by rw [e]; exact Vm.Alike.refl _
  exact ⟨fun q hq => (h1 q hq).same rfl e.symm, fun y hy => (h2 y hy).same rfl e.symm, h3.moved ha, h4.moved ha, h5.moved ha⟩
theorem mX.kept {A : Nat → Prop} {s : State} {H H1 : Heap} (hq : ∀ a : Nat, a < H.size → ¬ A a → H1[a]? = H[a]?) (h : mX A s H) : mX A s H1 := by
  obtain ⟨h1, h2, h3, h4, h5⟩ := h
  exact ⟨h1, h2, h3, h4.kept hq, h5.kept hq⟩
theorem mX.narrow {A B : Nat → Prop} {s : State} {H : Heap} (hAB : ∀ q, B q → A q) (h : mX A s H) : mX B s H := by
  obtain ⟨h1, h2, h3, h4, h5⟩ := h
  exact ⟨h1, h2, h3, h4.narrow hAB, h5.narrow hAB⟩
/-- how it throws -/
def xX (D : va_G) (cA : Nat → ClassId) (ad : Nat → Int → Nat) (ids : List (Nat × Int)) (KX : String → mH → Prop) (A : Nat → Prop) : String → State → State → Prop := fun E st t =>
  ∃ h : mH, KX E h ∧ va_P D vwCl (mW cA ad ids h) t.heap ∧ va_F A st t
def xPost (K : Int → mH → Prop) (KX : String → mH → Prop) (G : mG) : Prop :=
  G.2.2.2.2.2.2 = vx_MQ G.2.1.2.2.1 (mQ (mGD G) (mGc G) (mGad G) (mGids G) (fun r h => ∃ x, r = some (mI x) ∧ K x h) (mGA G)) (xX (mGD G) (mGc G) (mGad G) (mGids G) KX (mGA G)) G.2.1.2.1 (mGs G) 1 6 (mGA G) ∧
  (G.2.2.2.2.1 = 0 ∧ G.2.2.2.2.2.1 = 0 ∧ 1 ≤ G.1.2.2.2.1.cells ∧ 6 ≤ G.1.2.2.2.1.slots ∧ 6 ≤ G.1.2.2.2.1.frames ∧ 240 ≤ G.1.2.2.2.1.locals) ∧
  G.1.2.1.stackTraces = false ∧ (∀ x ∈ G.2.1.2.2.2.2.exceptionTable.toList, False) ∧ mX (mGA G) (mGs G) (mGs G).heap
/-- a class that RateOffice throws -/
def xCls (ik ic : Nat) (cls : String) : Prop := Bundle.fit cls = true ∧ Cond.classLink RX6 ik cls ∈ mTbl ∧ Cond.initialized cls ∈ mTbl ∧ (∀ w ∈ vx_at0 RX6 ic cls xNm, w ∈ mTbl ∨ (∃ q ∈ xCs, w = .castable q.1 q.2) ∨ ∃ y ∈ xDs, w = .declares y) ∧ ∀ w ∈ Cond.classLink RX6 ik cls :: Cond.initialized cls :: vx_at0 RX6 ic cls xNm, vx_ot w = true
section XFA
variable {M : mMs} {pc : Nat} {L : List mV} {h : mH} {K : Int → mH → Prop} {KX : String → mH → Prop}
theorem mw_iretX {x : Int} {pc' : Nat} (hr : M.2.2.2.1 = some .int) (hd : mDc M pc (.ireturn) 1 pc') (k : K x h) : At (xPost K KX) M pc L [mI x] h := by
  obtain ⟨hd, rfl⟩ := hd
  rintro G ⟨hQ, ⟨hc, hs, r1, r2, r3, r4⟩, htr, htab, hX⟩ V H locs ls hP hS hL v1 v2
  have hlocks : G.2.1.2.2.2.1.locks = false := V.2.1.2
  show W _ _ _ _ _ _ _ _ _ _ _ _ _ _ _ _
  rw [hQ, hc, hs]
  refine vx_ret (W.widen (Nat.zero_le 1) (Nat.zero_le 6) ?_)
  exact W.iret V.1.1 V.1.2.1 (V.2.1.1.trans hr) (fun t ht hW => ⟨some (mI x), h, rfl, ⟨x, rfl, k⟩, (fun v e => by cases e; trivial), by rw [ht]; exact hP, hS.F ht⟩) hS.2.2 hd hlocks
theorem mw_throwX {ik ic : Nat} {cls : String} {st : List mV} {p1 p2 p3 p4 : Nat} (hM : M.1.cls = RX6) (hx : xCls ik ic cls) (d0 : mDc M pc (.new ik) 3 p1) (d3 : mDc M p1 (.dup) 1 p2) (d4 : mDc M p2 (.invokespecial ic) 3 p3) (d7 : mDc M p3 (.athrow) 1 p4) (hst : Nat.ble (mCat st) 8 = true) (k : KX cls h) : At (xPost K KX) M pc L st h := by
  obtain ⟨d0, rfl⟩ := d0
  obtain ⟨d3, rfl⟩ := d3
  obtain ⟨d4, rfl⟩ := d4
  obtain ⟨d7, rfl⟩ := d7
  obtain ⟨w1, w2, w3, w4, w5⟩ := hx
  rintro G ⟨hQ, ⟨hc, hs, r1, r2, r3, r4⟩, htr, htab, ⟨x1, x2, x3, x4, x5⟩⟩ V H locs ls hP hS hL v1 v2
  have hlocks : G.2.1.2.2.2.1.locks = false := V.2.1.2
  have hown : (mGs G).vm.findClass RX6 = some G.2.1.1.cls := by rw [← hM]; exact V.1.2.2.2.1
  have hcat : ((st.map (mIv (mGad G))).map fun v => v.category).sum ≤ 8 := by rw [mCat_sum]; exact Nat.le_of_ble_eq_true hst
  show W _ _ _ _ _ _ _ _ _ _ _ _ _ _ _ _
  rw [hQ, hc, hs]
  refine vx_throw0 (own := RX6) (cls := cls) (names := xNm) (ik := ik) (ic := ic) (cc := M.2.1) V.1.1 V.1.2.1 htr hown w1 (by decide +kernel) (V.1.2.2.2.2 _ w2) (V.1.2.2.2.2 _ w3) (fun w hw => ?_) w5 x4 x5 hS (hL.1.trans V.1.2.2.1.symm) d0 d3 d4 d7 (fun x hx => (htab x hx).elim) (Nat.lt_of_lt_of_le (by decide) r3) (by rw [show xNm.length = 2 from rfl]; omega) (by omega) (by omega) hlocks (fun t ht hz hk => ⟨h, k, ?_, ?_⟩) hS.2.2 (Nat.le_refl _) (Nat.le_refl _)
  · rcases w4 w hw with z | ⟨q, hq, rfl⟩ | ⟨y, hy, rfl⟩
    · exact V.1.2.2.2.2 _ z
    · exact va_Nw.use rfl (x1 q hq)
    · exact va_Nw.use rfl (x2 y hy)
  · exact hP.kept (fun k q hq => hk q.1 (hP k q hq).lt)
  · exact ⟨Nat.le_trans hS.1 hz, fun q h1 h2 => by rw [hk q (Nat.lt_of_lt_of_le h1 hS.1)]; exact hS.2.1 q h1 h2⟩
end XFA
def xRoom (d : Nat) : Room := { frames := d, cells := 1, slots := 6, locals := 40 * d }
def xPre (D : va_G) (cA : Nat → ClassId) (ad : Nat → Int → Nat) (ids : List (Nat × Int)) (sz : Nat) (h : mH) (U : State) : Prop := mPre D cA ad ids sz h U ∧ mX (va_A (mW cA ad ids h) sz) U U.heap
/-- M returns with K or throws with KX -/
def OkX (M : mMs) (as : List mV) (h : mH) (K : Int → mH → Prop) (KX : String → mH → Prop) : Prop :=
  ∀ (l : Launch) (D : va_G) (cA : Nat → ClassId) (ad : Nat → Int → Nat) (ids : List (Nat × Int)) (sz : Nat), l.stackTraces = false → mClosed ids → mVs ids as →
    vx_Met l M.1 (mWs M) (xRoom M.2.2.2.2) (va_Pc (as.map (mIv ad)) (xPre D cA ad ids sz h)) (mQ D cA ad ids (fun r h => ∃ x, r = some (mI x) ∧ K x h) (va_A (mW cA ad ids h) sz)) (xX D cA ad ids KX (va_A (mW cA ad ids h) sz)) 1 6 (va_A (mW cA ad ids h) sz)
theorem OkX.of {M : mMs} {as : List mV} {h : mH} {K : Int → mH → Prop} {KX : String → mH → Prop} (hp : plainName M.1.cls = true) (hfr : 6 ≤ M.2.2.2.2) {n : Nat} (hn : (mEl as).length + n = M.2.2.1) (hat : At (xPost K KX) M 0 (mEl as ++ List.replicate n mU) [] h) : OkX M as h K KX := by
  intro l D cA ad ids sz hl hC hv
  refine vx_ofW (cc := M.2.1) (maxL := M.2.2.1) (ret := M.2.2.2.1) (ws' := mTbl) hp rfl ?_
  intro p e s m args below meth c s₁ B hml htab hv'
  obtain ⟨rfl, ⟨hsz, hP, hD0, hFx⟩, hX⟩ := hv'
  subst hsz
  have hts := atoms_spec (ws := mWs M) B.pre
  have hD := hD0.self (sz := s.heap.size)
  have hl9 := lv_entry (as.map (mIv ad)) (n := M.2.2.1) (by rw [mEl_len]; omega)
  rw [lg_entry_eq]
  generalize (lg_sl (as.map (mIv ad)) ++ List.replicate (M.2.2.1 - (lg_sl (as.map (mIv ad))).length) Slot.unset).toArray = ls at hl9 ⊢
  refine hat ((p, l, e, (headSpec (mWs M) (xRoom M.2.2.2.2)).room, s), (m, (as.map (mIv ad)).toArray, below, meth, c), (D, cA, ad, ids), (va_A (mW cA ad ids h) s.heap.size, 0, 0, vx_MQ below (mQ D cA ad ids (fun r h => ∃ x, r = some (mI x) ∧ K x h) (va_A (mW cA ad ids h) s.heap.size)) (xX D cA ad ids KX (va_A (mW cA ad ids h) s.heap.size)) (as.map (mIv ad)).toArray s 1 6 (va_A (mW cA ad ids h) s.heap.size)))
    ⟨rfl, ⟨rfl, rfl, Nat.le_refl _, Nat.le_refl _, hfr, (by show 240 ≤ 40 * M.2.2.2.2; omega)⟩, hl, htab, hX⟩ ⟨⟨B.exec, B.bytes, hml, findClass_of_methodNamed B.named, fun w hw => hts w (List.mem_cons_of_mem _ hw)⟩, ⟨B.returns, B.notSynchronized⟩, hFx, hC, fun h2 => mD_any hD h2, fun q hq => Or.inr hq, ⟨Nat.le_refl _, Nat.le_refl _, Nat.zero_le _, Nat.zero_le _⟩⟩
    s.heap [] ls hP va_S.rf ⟨hl9.1, hl9.2.1, fun i v hi hu => ?_⟩ (fun w hw => ?_) (fun _ z => by cases z)
  · by_cases hlt : i < (mEl as).length
    · rw [List.getElem?_append_left hlt] at hi
      have := hl9.2.2 _ (mEl_args ad as 0 i v hi hu)
      simpa using this
    · rw [List.getElem?_append_right (by omega)] at hi
      exact absurd (List.eq_of_mem_replicate (List.mem_of_getElem? hi)) hu
  · rcases List.mem_append.mp hw with z | z
    · exact hv.el w z
    · rw [List.eq_of_mem_replicate z]
      exact fun z => absurd z (by decide)
