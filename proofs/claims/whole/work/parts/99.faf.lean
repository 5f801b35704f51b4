/-! the law's own factor -/
def lHh : List (Nat × Nat × Nat × Nat) := [(0, 10, 13, 13), (0, 10, 17, 15)]
def ML_factor : mMs := (yL_factor, cL_factor, 5, (some .int), 7)
theorem dL_factor : ∀ q ∈ ([(0, .aload_n 3, 1, 1), (1, .iconst 0, 1, 2), (2, .aload_n 0, 1, 3), (3, .iload_n 1, 1, 4), (4, .iload_n 2, 1, 5), (5, .invokevirtual 7, 3, 8), (8, .i2l, 1, 9), (9, .lastore, 1, 10), (10, .goto 11, 3, 13), (13, .astore 4, 2, 15), (15, .iconst 1, 1, 16), (16, .ireturn, 1, 17), (17, .astore 4, 2, 19), (19, .iconst 2, 1, 20), (20, .ireturn, 1, 21), (21, .iconst 0, 1, 22), (22, .ireturn, 1, 23)] : List (Nat × Instr × Nat × Nat)), mDq ML_factor q := by decide +kernel
theorem ml_L_7 : Cond.methodLink RL 7 yX6_factor ∈ mTbl := mTbl_of 1071 (by decide +kernel) rfl
theorem kk_L_13 : Cond.classLink RL 13 xI ∈ mTbl := mTbl_of 1069 (by decide +kernel) rfl
theorem kk_L_15 : Cond.classLink RL 15 xN ∈ mTbl := mTbl_of 1070 (by decide +kernel) rfl
def lPost (c9 s9 : Nat) (K : Int → mH → Prop) (G : mG) : Prop :=
  G.2.2.2.2.2.2 = MQ G.2.1.2.2.1 (mQ (mGD G) (mGc G) (mGad G) (mGids G) (fun r h => ∃ x, r = some (mI x) ∧ K x h) (mGA G)) G.2.1.2.1 (mGs G) 1 6 (mGA G) ∧
  (G.2.2.2.2.1 = c9 ∧ G.2.2.2.2.2.1 = s9 ∧ 1 ≤ G.1.2.2.2.1.cells ∧ 6 ≤ G.1.2.2.2.1.slots) ∧
  G.1.2.1.stackTraces = false ∧ G.2.1.2.2.2.2.exceptionTable.toList = tableOf lHh ∧ mX (mGA G) (mGs G) (mGs G).heap
theorem mw_iretL {M : mMs} {pc : Nat} {L : List mV} {h : mH} {K : Int → mH → Prop} {x : Int} {pc' : Nat} (hr : M.2.2.2.1 = some .int) (hd : mDc M pc (.ireturn) 1 pc') (k : K x h) : At (lPost 1 6 K) M pc L [mI x] h := by
  obtain ⟨hd, rfl⟩ := hd
  rintro G ⟨hQ, ⟨hc, hs, r1, r2⟩, htr, htab, hX⟩ V H locs ls hP hS hL v1 v2
  have hlocks : G.2.1.2.2.2.1.locks = false := V.2.1.2
  show W _ _ _ _ _ _ _ _ _ _ _ _ _ _ _ _
  rw [hQ, hc, hs]
  exact W.iret V.1.1 V.1.2.1 (V.2.1.1.trans hr) (fun t ht hW => ⟨some (mI x), h, rfl, ⟨x, rfl, k⟩, (fun v e => by cases e; trivial), by rw [ht]; exact hP, hS.F ht⟩) hS.2.2 hd hlocks
def mUp (G : mG) (c9 s9 : Nat) : mG := (G.1, G.2.1, G.2.2.1, (mGA G, c9, s9, G.2.2.2.2.2.2))
theorem mUp_ok {G : mG} {M : mMs} (V : mOk G M) {c9 s9 : Nat} (h : c9 ≤ G.1.2.2.2.1.cells ∧ s9 ≤ G.1.2.2.2.1.slots) : mOk (mUp G c9 s9) M := ⟨V.1, V.2.1, V.2.2.1, V.2.2.2.1, V.2.2.2.2.1, V.2.2.2.2.2.1, V.2.2.2.2.2.2.1, V.2.2.2.2.2.2.2.1, h⟩
def lXK (K1 K2 : mH → Prop) : String → mH → Prop := fun E h => (E = xI ∧ K1 h) ∨ (E = xN ∧ K2 h)
theorem lf_call {h : mH} {x1 x2 : Int} {K KK : Int → mH → Prop} {K1 K2 : mH → Prop} (ok : OkX M6_factor [mR 25 0, mI x1, mI x2] h KK (lXK K1 K2))
    (kk : ∀ x h2, KK x h2 → At (lPost 1 6 K) ML_factor 8 [mR 25 0, mI x1, mI x2, mR 46 0, mU] [mI x, mI 0, mR 46 0] h2)
    (k1 : ∀ h2, K1 h2 → At (lPost 1 6 K) ML_factor 15 [mR 25 0, mI x1, mI x2, mR 46 0, mU] [] h2)
    (k2 : ∀ h2, K2 h2 → At (lPost 1 6 K) ML_factor 19 [mR 25 0, mI x1, mI x2, mR 46 0, mU] [] h2) : At (lPost 0 0 K) ML_factor 5 [mR 25 0, mI x1, mI x2, mR 46 0, mU] [mI x2, mI x1, mR 25 0, mI 0, mR 46 0] h := by
  obtain ⟨hd, -⟩ := dT dL_factor 5 rfl
  obtain ⟨d13, -⟩ := dT dL_factor 9 rfl
  obtain ⟨d17, -⟩ := dT dL_factor 12 rfl
  obtain ⟨ci, fs, q, h1, h2, h3, h4, w1, w2, w3, w4, hx, hnl⟩ := mv_6_factor
  rintro G ⟨hQ, ⟨hc, hs, r1, r2⟩, htr, htab, hX⟩ V H locs ls hP hS hL v1 v2
  have hv25 : mVal (mGids G) (mR 25 0) := v1 _ List.mem_cons_self
  have hv46 : mVal (mGids G) (mR 46 0) := v1 _ (List.mem_cons_of_mem _ (List.mem_cons_of_mem _ (List.mem_cons_of_mem _ List.mem_cons_self)))
  obtain ⟨p, hp⟩ := mIds_at (hv25 h2.1 h2.2)
  have he := mW_at (cA := mGc G) (ad := mGad G) hp h
  rw [mEnt_inr h1] at he
  have hvs : mVs (mGids G) [mR 25 0, mI x1, mI x2] := mVs.cons hv25 (mVs.cons trivial (mVs.cons trivial (fun _ z => by cases z)))
  have hgood : GoodIn mTbl (wsV RL 7 q.1 M6_factor.1 (mWs M6_factor)) := mTbl_good (by
    intro w hw
    unfold wsV mWs at hw
    simp only [List.cons_append, List.nil_append, List.mem_cons] at hw
    rcases hw with rfl | rfl | rfl | rfl | rfl | hw
    · exact ml_L_7
    · exact w1
    · exact w2
    · exact w3
    · exact w4
    · exact hw)
  have hF1 : lPost 1 6 K (mUp G (G.2.2.2.2.1 + 1) (G.2.2.2.2.2.1 + 6)) := ⟨hQ, ⟨by show _ + 1 = 1; rw [hc], by show _ + 6 = 6; rw [hs], r1, r2⟩, htr, htab, hX⟩
  have hV1 : mOk (mUp G (G.2.2.2.2.1 + 1) (G.2.2.2.2.2.1 + 6)) ML_factor := mUp_ok V ⟨by rw [hc]; exact r1, by rw [hs]; exact r2⟩
  refine xRun_go V (h := h) (st := [mI 0, mR 46 0]) (vx_runV (As := [mI x1, mI x2].map (mIv (mGad G))) (rest := [mI 0, mR 46 0].map (mIv (mGad G))) (b := mGad G 25 0) V.1 (ok G.1.2.1 (mGD G) (mGc G) (mGad G) (mGids G) H.size htr V.2.2.2.1 hvs)
    (cwV 2 V.1.2.2.2.2 hgood rfl rfl rfl ⟨h4, hx⟩ ⟨Nat.le_trans (by decide) V.2.2.2.2.2.2.1, Nat.le_trans (by decide) V.2.2.2.2.2.2.2.1⟩)
    ⟨xBlind, va_recv V.2.2.1.1 hP h3 he, fun U hU hW => ⟨rfl, xFx_at V hX hP hS hU hW⟩⟩ rfl rfl hL.1 rfl (lv_room (by rw [mCat_sum]; exact Nat.le_of_ble_eq_true rfl)) hd ⟨by rw [hc]; exact r1, by rw [hs]; exact r2⟩) hS ?_ ?_
  · intro x h3 H1 locs1 hK hP1 hS1
    exact kk x h3 hK _ hF1 hV1 H1 locs1 ls hP1 hS1 hL v1 (mVs.cons trivial (mVs.cons trivial (mVs.cons hv46 (fun _ z => by cases z))))
  · rintro E h3 H1 locs1 q9 ce (⟨rfl, hK⟩ | ⟨rfl, hK⟩) hP1 hS1 hce hcv hcl
    · refine vx_catch (own := RL) (name := xI) V.1.2.2.2.1 [] ⟨0, 10, 13, 13⟩ [⟨0, 10, 17, 15⟩] htab (fun z hz => by cases hz) (by decide) (by decide) (V.1.2.2.2.2 _ kk_L_13) (va_Nw.use rfl (hX.1 (xI, xI) (by decide))) hce hcv hcl ?_
      refine lv_astore V.1.1 V.1.2.1 (i := 4) d13 hL.has (by decide) rfl (fun ls2 hl2 => ?_)
      exact k1 h3 hK _ hF1 hV1 H1 locs1 ls2 hP1 hS1 (mLs.stU hl2) v1 (fun _ z => by cases z)
    · refine vx_catch (own := RL) (name := xN) V.1.2.2.2.1 [⟨0, 10, 13, 13⟩] ⟨0, 10, 17, 15⟩ [] htab (fun z hz => ?_) (by decide) (by decide) (V.1.2.2.2.2 _ kk_L_15) (va_Nw.use rfl (hX.1 (xN, xN) (by decide))) hce hcv hcl ?_
      · rw [List.mem_singleton.mp hz]
        exact Or.inr ⟨by decide, xI, V.1.2.2.2.2 _ kk_L_13, hX.2.2.1⟩
      refine lv_astore V.1.1 V.1.2.1 (i := 4) d17 hL.has (by decide) rfl (fun ls2 hl2 => ?_)
      exact k2 h3 hK _ hF1 hV1 H1 locs1 ls2 hP1 hS1 (mLs.stU hl2) v1 (fun _ z => by cases z)
/-- an int as it is, whatever its number's range -/
def wr (x : Int) : Int := (Int32.ofInt x).toInt
theorem mw_i2lW {F : mG → Prop} {M : mMs} {pc : Nat} {L st : List mV} {h : mH} {x : Int} {pc' : Nat} (hd : mDc M pc (.i2l) 1 pc') (k : At F M pc' L (mJ (wr x) :: st) h) : At F M pc L (mI x :: st) h := by
  obtain ⟨hd, rfl⟩ := hd
  intro G hF V H locs ls hP hS hL v1 v2
  exact lv_i2l V.1.1 V.1.2.1 hd (show (Int32.ofInt x).toInt64 = Int64.ofInt (wr x) by unfold wr; rw [Int64.ofInt_int32ToInt]) (k G hF V H locs ls hP hS hL v1 (mVs.cons trivial v2.tl))
theorem lf_at {h : mH} {x1 x2 : Int} {K KK : Int → mH → Prop} {K1 K2 : mH → Prop} (ok : OkX M6_factor [mR 25 0, mI x1, mI x2] h KK (lXK K1 K2)) (kk : ∀ x h2, KK x h2 → ∀ h3, h3 = mSet h2 46 0 0 (wr x) → K 0 h3) (k1 : ∀ h2, K1 h2 → K 1 h2) (k2 : ∀ h2, K2 h2 → K 2 h2) : At (lPost 0 0 K) ML_factor 0 [mR 25 0, mI x1, mI x2, mR 46 0, mU] [] h := by
  refine mw_aload_n (dT dL_factor 0 rfl) rfl (by decide) ?_
  refine mw_iconst (dT dL_factor 1 rfl) ?_
  refine mw_aload_n (dT dL_factor 2 rfl) rfl (by decide) ?_
  refine mw_iload_n (dT dL_factor 3 rfl) rfl ?_
  refine mw_iload_n (dT dL_factor 4 rfl) rfl ?_
  refine lf_call ok (fun x h2 hx => ?_) (fun h2 hx => ?_) (fun h2 hx => ?_)
  · have T := kk x h2 hx _ rfl
    refine mw_i2lW (dT dL_factor 6 rfl) ?_
    refine mw_lastore ro_46 (dT dL_factor 7 rfl) (by decide) ?_
    refine mw_goto 21 (dT dL_factor 8 rfl) (by decide) ?_
    refine mw_iconst (dT dL_factor 15 rfl) ?_
    exact mw_iretL rfl (dT dL_factor 16 rfl) T
  · refine mw_iconst (dT dL_factor 10 rfl) ?_
    exact mw_iretL rfl (dT dL_factor 11 rfl) (k1 h2 hx)
  · refine mw_iconst (dT dL_factor 13 rfl) ?_
    exact mw_iretL rfl (dT dL_factor 14 rfl) (k2 h2 hx)
/-- the law's factor, as the law calls it -/
theorem lf_met {h : mH} {x1 x2 : Int} {K : Int → mH → Prop} (hat : At (lPost 0 0 K) ML_factor 0 [mR 25 0, mI x1, mI x2, mR 46 0, mU] [] h) (l : Launch) (D : va_G) (cA : Nat → ClassId) (ad : Nat → Int → Nat) (ids : List (Nat × Int)) (sz : Nat) (hl : l.stackTraces = false) (hC : mClosed ids) (hv : mVs ids [mR 25 0, mI x1, mI x2, mR 46 0]) :
    Met l yL_factor (Cond.codeWith yL_factor cL_factor 5 (some .int) lHh :: mTbl) (xRoom 7) (va_Pc ([mR 25 0, mI x1, mI x2, mR 46 0].map (mIv ad)) (xPre D cA ad ids sz h)) (mQ D cA ad ids (fun r h => ∃ x, r = some (mI x) ∧ K x h) (va_A (mW cA ad ids h) sz)) 1 6 (va_A (mW cA ad ids h) sz) := by
  refine va_MetW (cc := cL_factor) (maxL := 5) (ret := some .int) (hh := lHh) (ws' := mTbl) (by decide +kernel) rfl ?_
  intro p e s m args below meth c s₁ B hml hv'
  obtain ⟨rfl, ⟨hsz, hP, hD0, hFx⟩, hX⟩ := hv'
  subst hsz
  have hts := atoms_spec (ws := Cond.codeWith yL_factor cL_factor 5 (some .int) lHh :: mTbl) B.pre
  have htab := vx_table (x := yL_factor) B (hts _ List.mem_cons_self)
  have hD := hD0.self (sz := s.heap.size)
  have hl9 := lv_entry ([mR 25 0, mI x1, mI x2, mR 46 0].map (mIv ad)) (n := 5) (by rw [mEl_len]; exact Nat.le_of_ble_eq_true rfl)
  rw [lg_entry_eq]
  generalize (lg_sl ([mR 25 0, mI x1, mI x2, mR 46 0].map (mIv ad)) ++ List.replicate (5 - (lg_sl ([mR 25 0, mI x1, mI x2, mR 46 0].map (mIv ad))).length) Slot.unset).toArray = ls at hl9 ⊢
  refine hat ((p, l, e, (headSpec (Cond.codeWith yL_factor cL_factor 5 (some .int) lHh :: mTbl) (xRoom 7)).room, s), (m, ([mR 25 0, mI x1, mI x2, mR 46 0].map (mIv ad)).toArray, below, meth, c), (D, cA, ad, ids), (va_A (mW cA ad ids h) s.heap.size, 0, 0, MQ below (mQ D cA ad ids (fun r h => ∃ x, r = some (mI x) ∧ K x h) (va_A (mW cA ad ids h) s.heap.size)) ([mR 25 0, mI x1, mI x2, mR 46 0].map (mIv ad)).toArray s 1 6 (va_A (mW cA ad ids h) s.heap.size)))
    ⟨rfl, ⟨rfl, rfl, Nat.le_refl _, Nat.le_refl _⟩, hl, htab, hX⟩ ⟨⟨B.exec, B.bytes, hml, findClass_of_methodNamed B.named, fun w hw => hts w (List.mem_cons_of_mem _ hw)⟩, ⟨B.returns, B.notSynchronized⟩, hFx, hC, fun h2 => mD_any hD h2, fun q hq => Or.inr hq, ⟨Nat.le_refl _, Nat.le_refl _, Nat.zero_le _, Nat.zero_le _⟩⟩
    s.heap [] ls hP va_S.rf ⟨hl9.1, hl9.2.1, fun i v hi hu => ?_⟩ (fun w hw => ?_) (fun _ z => by cases z)
  · match i with
    | 0 => exact (by simpa using hl9.2.2 _ (mEl_args ad [mR 25 0, mI x1, mI x2, mR 46 0] 0 0 v hi hu))
    | 1 => exact (by simpa using hl9.2.2 _ (mEl_args ad [mR 25 0, mI x1, mI x2, mR 46 0] 0 1 v hi hu))
    | 2 => exact (by simpa using hl9.2.2 _ (mEl_args ad [mR 25 0, mI x1, mI x2, mR 46 0] 0 2 v hi hu))
    | 3 => exact (by simpa using hl9.2.2 _ (mEl_args ad [mR 25 0, mI x1, mI x2, mR 46 0] 0 3 v hi hu))
    | 4 => exact absurd (Option.some.inj hi).symm hu
    | k + 5 => cases hi
  · have hw2 : w ∈ [mR 25 0, mI x1, mI x2, mR 46 0] ++ [mU] := hw
    rcases List.mem_append.mp hw2 with z | z
    · exact hv w z
    · rw [List.mem_singleton.mp z]
      exact fun z => absurd z (by decide)
