/-! String constants: their length, their letters, as the JDK's own code reads them -/
def MJ0_length_8abf5 : mMs := (yJ0_length_8abf5, cJ0_length_8abf5, 1, (some .int), 1)
theorem dJ0_length_8abf5 : ∀ q ∈ ([(0, .aload_n 0, 1, 1), (1, .getfield 9, 3, 4), (4, .arraylength, 1, 5), (5, .aload_n 0, 1, 6), (6, .invokevirtual 335, 3, 9), (9, .ishr, 1, 10), (10, .ireturn, 1, 11)] : List (Nat × Instr × Nat × Nat)), mDq MJ0_length_8abf5 q := by decide +kernel
def MJ0_charAt_5068e : mMs := (yJ0_charAt_5068e, cJ0_charAt_5068e, 2, (some .char), 3)
theorem dJ0_charAt_5068e : ∀ q ∈ ([(0, .aload_n 0, 1, 1), (1, .invokevirtual 492, 3, 4), (4, .ifCond .eq 12, 3, 7), (7, .aload_n 0, 1, 8), (8, .getfield 9, 3, 11), (11, .iload_n 1, 1, 12), (12, .invokestatic 495, 3, 15), (15, .ireturn, 1, 16), (16, .aload_n 0, 1, 17), (17, .getfield 9, 3, 20), (20, .iload_n 1, 1, 21), (21, .invokestatic 498, 3, 24), (24, .ireturn, 1, 25)] : List (Nat × Instr × Nat × Nat)), mDq MJ0_charAt_5068e q := by decide +kernel
def MJ0_coder_7d493 : mMs := (yJ0_coder_7d493, cJ0_coder_7d493, 1, (some .byte), 0)
theorem dJ0_coder_7d493 : ∀ q ∈ ([(0, .getstatic 38, 3, 3), (3, .ifCond .eq 10, 3, 6), (6, .aload_n 0, 1, 7), (7, .getfield 15, 3, 10), (10, .goto 4, 3, 13), (13, .iconst 1, 1, 14), (14, .ireturn, 1, 15)] : List (Nat × Instr × Nat × Nat)), mDq MJ0_coder_7d493 q := by decide +kernel
def MJ0_isLatin1_aae02 : mMs := (yJ0_isLatin1_aae02, cJ0_isLatin1_aae02, 1, (some .boolean), 0)
theorem dJ0_isLatin1_aae02 : ∀ q ∈ ([(0, .getstatic 38, 3, 3), (3, .ifCond .eq 14, 3, 6), (6, .aload_n 0, 1, 7), (7, .getfield 15, 3, 10), (10, .ifCond .ne 7, 3, 13), (13, .iconst 1, 1, 14), (14, .goto 4, 3, 17), (17, .iconst 0, 1, 18), (18, .ireturn, 1, 19)] : List (Nat × Instr × Nat × Nat)), mDq MJ0_isLatin1_aae02 q := by decide +kernel
def MJ0_checkIndex_df160 : mMs := (yJ0_checkIndex_df160, cJ0_checkIndex_df160, 2, none, 1)
theorem dJ0_checkIndex_df160 : ∀ q ∈ ([(0, .iload_n 0, 1, 1), (1, .iload_n 1, 1, 2), (2, .getstatic 1053, 3, 5), (5, .invokestatic 1059, 3, 8), (8, .pop, 1, 9), (9, .return_, 1, 10)] : List (Nat × Instr × Nat × Nat)), mDq MJ0_checkIndex_df160 q := by decide +kernel
def MJ1_charAt_3b067 : mMs := (yJ1_charAt_3b067, cJ1_charAt_3b067, 2, (some .char), 2)
theorem dJ1_charAt_3b067 : ∀ q ∈ ([(0, .iload_n 1, 1, 1), (1, .aload_n 0, 1, 2), (2, .arraylength, 1, 3), (3, .invokestatic 9, 3, 6), (6, .aload_n 0, 1, 7), (7, .iload_n 1, 1, 8), (8, .baload, 1, 9), (9, .sipush 255, 3, 12), (12, .iand, 1, 13), (13, .i2c, 1, 14), (14, .ireturn, 1, 15)] : List (Nat × Instr × Nat × Nat)), mDq MJ1_charAt_3b067 q := by decide +kernel
def MJ3_checkIndex_8e157 : mMs := (yJ3_checkIndex_8e157, cJ3_checkIndex_8e157, 3, (some .int), 0)
theorem dJ3_checkIndex_8e157 : ∀ q ∈ ([(0, .iload_n 0, 1, 1), (1, .ifCond .lt 8, 3, 4), (4, .iload_n 0, 1, 5), (5, .iload_n 1, 1, 6), (6, .if_icmp .lt 10, 3, 9), (9, .aload_n 2, 1, 10), (10, .iload_n 0, 1, 11), (11, .iload_n 1, 1, 12), (12, .invokestatic 95, 3, 15), (15, .athrow, 1, 16), (16, .iload_n 0, 1, 17), (17, .ireturn, 1, 18)] : List (Nat × Instr × Nat × Nat)), mDq MJ3_checkIndex_8e157 q := by decide +kernel
/-- a method of a String -/
def mSm (M' : mMs) (n : Nat) : Prop := M'.1.cls = "java/lang/String" ∧ Cond.instanceMethod M'.1 ∈ mTbl ∧ Cond.selects "java/lang/String" M'.1 M'.1 ∈ mTbl ∧ Cond.initialized "java/lang/String" ∈ mTbl ∧ Cond.code M'.1 M'.2.1 M'.2.2.1 M'.2.2.2.1 ∈ mTbl ∧ (M'.1.cls ≠ "java/lang/invoke/MethodHandle" ∧ M'.1.cls ≠ "java/lang/invoke/VarHandle" ∧ (parseMethodDescriptor M'.1.desc).map (fun d => d.parameters.length) = some n) ∧ M'.2.2.1 ≤ 21
theorem ms_J0_length_8abf5 : mSm MJ0_length_8abf5 0 := ⟨rfl, mTbl_of 455 (by decide +kernel) rfl, mTbl_of 456 (by decide +kernel) rfl, mTbl_of 83 (by decide +kernel) rfl, mTbl_of 457 (by decide +kernel) rfl, by decide +kernel, by decide⟩
theorem ms_J0_charAt_5068e : mSm MJ0_charAt_5068e 1 := ⟨rfl, mTbl_of 465 (by decide +kernel) rfl, mTbl_of 466 (by decide +kernel) rfl, mTbl_of 83 (by decide +kernel) rfl, mTbl_of 467 (by decide +kernel) rfl, by decide +kernel, by decide⟩
theorem ms_J0_coder_7d493 : mSm MJ0_coder_7d493 0 := ⟨rfl, mTbl_of 459 (by decide +kernel) rfl, mTbl_of 460 (by decide +kernel) rfl, mTbl_of 83 (by decide +kernel) rfl, mTbl_of 461 (by decide +kernel) rfl, by decide +kernel, by decide⟩
theorem ms_J0_isLatin1_aae02 : mSm MJ0_isLatin1_aae02 0 := ⟨rfl, mTbl_of 469 (by decide +kernel) rfl, mTbl_of 470 (by decide +kernel) rfl, mTbl_of 83 (by decide +kernel) rfl, mTbl_of 471 (by decide +kernel) rfl, by decide +kernel, by decide⟩
theorem mt_J0_checkIndex_df160 : mMt MJ0_checkIndex_df160 2 := ⟨mTbl_of 476 (by decide +kernel) rfl, mTbl_of 83 (by decide +kernel) rfl, mTbl_of 477 (by decide +kernel) rfl, by decide +kernel, by decide⟩
theorem mt_J1_charAt_3b067 : mMt MJ1_charAt_3b067 2 := ⟨mTbl_of 473 (by decide +kernel) rfl, mTbl_of 84 (by decide +kernel) rfl, mTbl_of 474 (by decide +kernel) rfl, by decide +kernel, by decide⟩
theorem mt_J3_checkIndex_8e157 : mMt MJ3_checkIndex_8e157 3 := ⟨mTbl_of 481 (by decide +kernel) rfl, mTbl_of 85 (by decide +kernel) rfl, mTbl_of 482 (by decide +kernel) rfl, by decide +kernel, by decide⟩
theorem sl_5_length : Cond.methodLink "RateOffice$Tokens" 65 yJ0_length_8abf5 ∈ mTbl := mTbl_of 454 (by decide +kernel) rfl
theorem sl_5_charAt : Cond.methodLink "RateOffice$Tokens" 71 yJ0_charAt_5068e ∈ mTbl := mTbl_of 464 (by decide +kernel) rfl
theorem sl_7_length : Cond.methodLink "RateOfficeModel" 110 yJ0_length_8abf5 ∈ mTbl := mTbl_of 1314 (by decide +kernel) rfl
theorem sl_7_charAt : Cond.methodLink "RateOfficeModel" 115 yJ0_charAt_5068e ∈ mTbl := mTbl_of 1315 (by decide +kernel) rfl
theorem sl_coder : Cond.methodLink "java/lang/String" 335 yJ0_coder_7d493 ∈ mTbl := mTbl_of 458 (by decide +kernel) rfl
theorem sl_latin : Cond.methodLink "java/lang/String" 492 yJ0_isLatin1_aae02 ∈ mTbl := mTbl_of 468 (by decide +kernel) rfl
theorem sl_lchar : Cond.methodLink "java/lang/String" 495 yJ1_charAt_3b067 ∈ mTbl := mTbl_of 472 (by decide +kernel) rfl
theorem sl_check : Cond.methodLink "java/lang/StringLatin1" 9 yJ0_checkIndex_df160 ∈ mTbl := mTbl_of 475 (by decide +kernel) rfl
theorem sl_pre : Cond.methodLink "java/lang/String" 1059 yJ3_checkIndex_8e157 ∈ mTbl := mTbl_of 480 (by decide +kernel) rfl
theorem sf_value : Cond.fieldLink "java/lang/String" 9 "java/lang/String" "value" "[B" ∈ mTbl := mTbl_of 1755 (by decide +kernel) rfl
theorem sf_coder : Cond.fieldLink "java/lang/String" 15 "java/lang/String" "coder" "B" ∈ mTbl := mTbl_of 1756 (by decide +kernel) rfl
theorem sf_compact : Cond.fieldLink "java/lang/String" 38 "java/lang/String" "COMPACT_STRINGS" "Z" ∈ mTbl := mTbl_of 462 (by decide +kernel) rfl
theorem sf_siobe : Cond.fieldLink "java/lang/String" 1053 "jdk/internal/util/Preconditions" "SIOOBE_FORMATTER" "Ljava/util/function/BiFunction;" ∈ mTbl := mTbl_of 478 (by decide +kernel) rfl
def mBy (i : Nat) : List Int32 := [mBy0, mBy1].getD i []
def mCh (i : Nat) (x : Int) : Int := ((mBy i).getD x.toNat 0).toInt
def mCh0 (x : Int) : Int := mCh 0 x
def mCh1 (x : Int) : Int := mCh 1 x
theorem mCh_bd : ∀ i : Fin 2, ∀ x : Fin 54, 0 ≤ mCh i.val (x.val : Int) ∧ mCh i.val (x.val : Int) ≤ 127 := by decide +kernel
theorem mCh_b {i : Nat} (hi : i < 2) {x : Int} (h0 : 0 ≤ x) (h1 : x < 54) : 0 ≤ mCh i x ∧ mCh i x ≤ 127 := by
  have := mCh_bd ⟨i, hi⟩ ⟨x.toNat, by omega⟩
  simp only [Int.toNat_of_nonneg h0] at this
  exact this
theorem mVal60 {ids : List (Nat × Int)} {r : Nat} {i : Int} (h : 50 ≤ r) : mVal ids (mR r i) := fun _ z => absurd z (by show ¬ r < 50; omega)
section MSTR
variable {F : mG → Prop} {M : mMs} {pc : Nat} {L st : List mV} {h : mH}
theorem mw_ldcS0 {pc' : Nat} (hd : mDc M5_wordNumber pc (.ldc 63) 2 pc') (k : At F M5_wordNumber pc' L (mR 60 0 :: st) h) : At F M5_wordNumber pc L st h := by
  obtain ⟨hd, rfl⟩ := hd
  intro G hF V H locs ls hP hS hL v1 v2
  exact va_ldcS V.1.1 V.1.2.1 (own := "RateOffice$Tokens") V.1.2.2.2.1 V.2.2.1.2.2.1 hd (k G hF V H locs ls hP hS hL v1 (mVs.cons (mVal60 (by decide)) v2))
theorem mw_ldcS1 {pc' : Nat} (hd : mDc M7_wordHere pc (.ldc 108) 2 pc') (k : At F M7_wordHere pc' L (mR 60 1 :: st) h) : At F M7_wordHere pc L st h := by
  obtain ⟨hd, rfl⟩ := hd
  intro G hF V H locs ls hP hS hL v1 v2
  exact va_ldcS V.1.1 V.1.2.1 (own := "RateOfficeModel") V.1.2.2.2.1 V.2.2.1.2.2.2.1 hd (k G hF V H locs ls hP hS hL v1 (mVs.cons (mVal60 (by decide)) v2))
theorem mw_sval {i pc' : Nat} (hi : i < 2) (hM : M.1.cls = "java/lang/String") (hd : mDc M pc (.getfield 9) 3 pc') (k : At F M pc' L (mR 61 (i : Int) :: st) h) : At F M pc L (mR 60 (i : Int) :: st) h := by
  obtain ⟨hd, rfl⟩ := hd
  intro G hF V H locs ls hP hS hL v1 v2
  exact vk_getf V.1.1 V.1.2.1 (own := "java/lang/String") (V.2.2.1.2.2.2.2.1.1 i hi).2.2.1 hS (by rw [← hM]; exact V.1.2.2.2.1) (V.1.2.2.2.2 _ sf_value) (fun x hx => hx) hd (k G hF V H locs ls hP hS hL v1 (mVs.cons (mVal60 (by decide)) v2.tl))
theorem mw_scoder {i pc' : Nat} (hi : i < 2) (hM : M.1.cls = "java/lang/String") (hd : mDc M pc (.getfield 15) 3 pc') (k : At F M pc' L (mI 0 :: st) h) : At F M pc L (mR 60 (i : Int) :: st) h := by
  obtain ⟨hd, rfl⟩ := hd
  intro G hF V H locs ls hP hS hL v1 v2
  exact vk_getf V.1.1 V.1.2.1 (own := "java/lang/String") (V.2.2.1.2.2.2.2.1.1 i hi).2.1 hS (by rw [← hM]; exact V.1.2.2.2.1) (V.1.2.2.2.2 _ sf_coder) (fun x hx => hx) hd (k G hF V H locs ls hP hS hL v1 (mVs.cons trivial v2.tl))
theorem mw_scompact {pc' : Nat} (hM : M.1.cls = "java/lang/String") (hd : mDc M pc (.getstatic 38) 3 pc') (k : At F M pc' L (mI 1 :: st) h) : At F M pc L st h := by
  obtain ⟨hd, rfl⟩ := hd
  intro G hF V H locs ls hP hS hL v1 v2
  exact va_gets V.1.1 V.1.2.1 (own := "java/lang/String") V.2.2.1.2.2.2.2.2.1 hS (by rw [← hM]; exact V.1.2.2.2.1) (V.1.2.2.2.2 _ sf_compact) (fun x hx => hx) hd (k G hF V H locs ls hP hS hL v1 (mVs.cons trivial v2))
theorem mw_slen {i pc' : Nat} (hi : i < 2) (hd : mDc M pc (.arraylength) 1 pc') (k : At F M pc' L (mI 54 :: st) h) : At F M pc L (mR 61 (i : Int) :: st) h := by
  obtain ⟨hd, rfl⟩ := hd
  intro G hF V H locs ls hP hS hL v1 v2
  have hT := (V.2.2.1.2.2.2.2.1.1 i hi).2.2.2
  refine va_tlen V.1.1 V.1.2.1 hT hS (v := Int32.ofInt 54) ?_ hd (k G hF V H locs ls hP hS hL v1 (mVs.cons trivial v2.tl))
  have : i = 0 ∨ i = 1 := by omega
  rcases this with rfl | rfl <;> rfl
theorem mw_sbald {i pc' : Nat} {x : Int} (hi : i < 2) (hd : mDc M pc (.baload) 1 pc') (hx : 0 ≤ x ∧ x < 54) (k : At F M pc' L (mI (mCh i x) :: st) h) : At F M pc L (mI x :: mR 61 (i : Int) :: st) h := by
  obtain ⟨hd, rfl⟩ := hd
  intro G hF V H locs ls hP hS hL v1 v2
  have hT := (V.2.2.1.2.2.2.2.1.1 i hi).2.2.2
  have e54 : [54, 54].getD i 0 = 54 := by
    have : i = 0 ∨ i = 1 := by omega
    rcases this with rfl | rfl <;> rfl
  rw [e54] at hT
  have e : (Int32.ofInt x).toNatClampNeg = x.toNat := o32_clamp hx.1 (by omega)
  refine va_tb V.1.1 V.1.2.1 hT hS (o32_in (n := 54) hx.1 hx.2 (by decide)) (v := .int (Int32.ofInt (mCh i x))) ?_ hd (k G hF V H locs ls hP hS hL v1 (mVs.cons trivial v2.tl.tl))
  show Value.int (([mBy0, mBy1].getD i []).getD (Int32.ofInt x).toNatClampNeg 0) = _
  rw [e]
  unfold mCh mBy
  rw [Int32.ofInt_toInt]
theorem mw_nret {K : Option mV → mH → Prop} {x : Int} {ty : FieldType} {pc' : Nat} (hr : M.2.2.2.1 = some ty) (hn : narrow ty (.int (Int32.ofInt x)) = .int (Int32.ofInt x)) (hd : mDc M pc (.ireturn) 1 pc') (k : K (some (mI x)) h) : At (mPost K) M pc L [mI x] h := by
  obtain ⟨hd, rfl⟩ := hd
  rintro G ⟨hQ, hc, hs⟩ V H locs ls hP hS hL v1 v2
  have hlocks : G.2.1.2.2.2.1.locks = false := V.2.1.2
  show W _ _ _ _ _ _ _ _ _ _ _ _ _ _ _ _
  rw [hQ, hc, hs]
  exact W.zret V.1.1 V.1.2.1 (V.2.1.1.trans hr) hn (fun t ht hW => ⟨some (mI x), h, rfl, k, (fun v e => by cases e; trivial), by rw [ht]; exact hP, hS.F ht⟩) hS.2.2 hd hlocks
theorem mw_callVS {M' : mMs} {idx n pc' i : Nat} {as : List mV} {K : Option mV → mH → Prop} (hi : i < 2) (hm : mSm M' n) (hl : Cond.methodLink M.1.cls idx M'.1 ∈ mTbl) (hdep : M'.2.2.2.2 + 1 ≤ M.2.2.2.2) (hd : mDc M pc (.invokevirtual idx) 3 pc') (hn : as.length = n) (hst : Nat.ble (mCat st) 8 = true) (ok : Ok M' (mR 60 (i : Int) :: as) h K) (k : ∀ r h2, K r h2 → At F M pc' L (r.toList ++ st) h2) : At F M pc L (as.reverse ++ mR 60 (i : Int) :: st) h := by
  obtain ⟨hd, rfl⟩ := hd
  obtain ⟨h4, w1, w2, w3, w4, hx, hnl⟩ := hm
  intro G hF V H locs ls hP hS hL v1 v2
  have v2b := v2.app.2
  have hvs : mVs (mGids G) (mR 60 (i : Int) :: as) := mVs.cons v2b.hd (fun w hw => v2 w (List.mem_append_left _ (List.mem_reverse.mpr hw)))
  have hgood : GoodIn mTbl (wsV M.1.cls idx "java/lang/String" M'.1 (mWs M')) := mTbl_good (by
    intro w hw
    unfold wsV mWs at hw
    simp only [List.cons_append, List.nil_append, List.mem_cons] at hw
    rcases hw with rfl | rfl | rfl | rfl | rfl | hw
    · exact hl
    · exact w1
    · exact w2
    · exact w3
    · exact w4
    · exact hw)
  refine mRun_go hF V (va_runV (As := as.map (mIv (mGad G))) (rest := st.map (mIv (mGad G))) (b := mGad G 60 (i : Int)) V.1 (ok G.1.2.1 (mGD G) (mGc G) (mGad G) (mGids G) H.size V.2.2.2.1 hvs)
    (cwV n V.1.2.2.2.2 hgood rfl rfl rfl ⟨h4, hx⟩ ⟨Nat.le_trans hdep V.2.2.2.2.2.2.1, ?_⟩)
    ⟨mBlind, vk_recv V.2.2.1.2.2.2.2.1 hi hS, fun U hU hW => ⟨rfl, mFx_at V hP hS hU hW⟩⟩ rfl (by rw [List.length_map]; exact hn) hL.1 ?_ (lv_room (by rw [mCat_sum]; exact Nat.le_of_ble_eq_true hst)) hd ⟨V.2.2.2.2.2.2.2.2.1, V.2.2.2.2.2.2.2.2.2⟩) hS hL v1 v2b.tl k
  · have := V.2.2.2.2.2.2.2.1
    show 8 + (M'.2.2.1 + 11) + 40 * M'.2.2.2.2 ≤ _
    omega
  · show (as.reverse ++ mR 60 (i : Int) :: st).map (mIv (mGad G)) = _
    rw [List.map_append, List.map_reverse]
    rfl
/-! the index's check: what it would throw with isn't looked at -/
theorem chk_met {K : Option mV → mH → Prop} {x y : Int} {v : Value} (hlen : (lg_sl [.int (Int32.ofInt x), .int (Int32.ofInt y), v]).length = 3) (hat : At (mPost K) MJ3_checkIndex_8e157 0 [mI x, mI y, mU] [] h) (l : Launch) (D : va_G) (cA : Nat → ClassId) (ad : Nat → Int → Nat) (ids : List (Nat × Int)) (sz : Nat) (hC : mClosed ids) :
    Met l MJ3_checkIndex_8e157.1 (mWs MJ3_checkIndex_8e157) (mRoom MJ3_checkIndex_8e157.2.2.2.2) (va_Pc [.int (Int32.ofInt x), .int (Int32.ofInt y), v] (mPre D cA ad ids sz h)) (mQ D cA ad ids K (va_A (mW cA ad ids h) sz)) 0 0 (va_A (mW cA ad ids h) sz) := by
  refine va_MetF (cc := MJ3_checkIndex_8e157.2.1) (maxL := MJ3_checkIndex_8e157.2.2.1) (ret := MJ3_checkIndex_8e157.2.2.2.1) (ws' := mTbl) rfl rfl ?_
  intro p e s m args below meth c s₁ B hml hv'
  obtain ⟨rfl, hsz, hP, hD0, hFx⟩ := hv'
  subst hsz
  have hts := atoms_spec (ws := mWs MJ3_checkIndex_8e157) B.pre
  have hD := hD0.self (sz := s.heap.size)
  have hl := lv_entry [.int (Int32.ofInt x), .int (Int32.ofInt y), v] (n := MJ3_checkIndex_8e157.2.2.1) (by rw [hlen]; decide)
  rw [lg_entry_eq]
  generalize (lg_sl [.int (Int32.ofInt x), .int (Int32.ofInt y), v] ++ List.replicate (MJ3_checkIndex_8e157.2.2.1 - (lg_sl [.int (Int32.ofInt x), .int (Int32.ofInt y), v]).length) Slot.unset).toArray = ls at hl ⊢
  refine hat ((p, l, e, (headSpec (mWs MJ3_checkIndex_8e157) (mRoom MJ3_checkIndex_8e157.2.2.2.2)).room, s), (m, [.int (Int32.ofInt x), .int (Int32.ofInt y), v].toArray, below, meth, c), (D, cA, ad, ids), (va_A (mW cA ad ids h) s.heap.size, 0, 0, MQ below (mQ D cA ad ids K (va_A (mW cA ad ids h) s.heap.size)) [.int (Int32.ofInt x), .int (Int32.ofInt y), v].toArray s 0 0 (va_A (mW cA ad ids h) s.heap.size)))
    ⟨rfl, rfl, rfl⟩ ⟨⟨B.exec, B.bytes, hml, findClass_of_methodNamed B.named, fun w hw => hts w (List.mem_cons_of_mem _ hw)⟩, ⟨B.returns, B.notSynchronized⟩, hFx, hC, fun h2 => mD_any hD h2, fun q hq => Or.inr hq, ⟨Nat.le_refl _, Nat.le_refl _, Nat.zero_le _, Nat.zero_le _⟩⟩
    s.heap [] ls hP va_S.rf ⟨hl.1, hl.2.1, fun i w hi hu => ?_⟩ (fun w hw => ?_) (fun _ z => by cases z)
  · match i, hi with
    | 0, hi =>
      cases hi
      exact hl.2.2 (0, _) List.mem_cons_self
    | 1, hi =>
      cases hi
      exact hl.2.2 (1, _) (List.mem_cons_of_mem _ List.mem_cons_self)
    | 2, hi =>
      cases hi
      exact absurd rfl hu
    | i + 3, hi => simp at hi
  · rcases List.mem_cons.mp hw with rfl | hw
    · trivial
    · rcases List.mem_cons.mp hw with rfl | hw
      · trivial
      · rcases List.mem_cons.mp hw with rfl | hw
        · exact fun z => absurd z (by decide)
        · cases hw
theorem chk_at {K : Option mV → mH → Prop} {x y : Int} (hx : 0 ≤ x ∧ x < y) (hy : mInR y) (k : K (some (mI x)) h) : At (mPost K) MJ3_checkIndex_8e157 0 [mI x, mI y, mU] [] h := by
  refine mw_iload_n (dT dJ3_checkIndex_8e157 0 rfl) rfl ?_
  refine mw_if_lt 9 (dT dJ3_checkIndex_8e157 1 rfl) (by decide) (by omega) (fun z => by omega) (fun _ => ?_)
  refine mw_iload_n (dT dJ3_checkIndex_8e157 2 rfl) rfl ?_
  refine mw_iload_n (dT dJ3_checkIndex_8e157 3 rfl) rfl ?_
  refine mw_icmp_lt 16 (dT dJ3_checkIndex_8e157 4 rfl) (by decide) ⟨by omega, hy⟩ (fun _ => ?_) (fun z => absurd hx.2 z)
  refine mw_iload_n (dT dJ3_checkIndex_8e157 10 rfl) rfl ?_
  exact mw_iret rfl (dT dJ3_checkIndex_8e157 11 rfl) k
theorem chk_go {x y : Int} (hx : 0 ≤ x ∧ x < y) (hy : mInR y) (k : At F MJ0_checkIndex_df160 8 L [mI x] h) : At F MJ0_checkIndex_df160 2 L [mI y, mI x] h := by
  intro G hF V H locs ls hP hS hL v1 v2
  have go : ∀ v : Value, (lg_sl [.int (Int32.ofInt x), .int (Int32.ofInt y), v]).length = 3 → mGW G H locs (F0 G.2.1.1 5 ls [v, .int (Int32.ofInt y), .int (Int32.ofInt x)]) := by
    intro v hv
    have hgood : GoodIn mTbl (va_wsS MJ0_checkIndex_df160.1.cls 1059 MJ3_checkIndex_8e157.1 (mWs MJ3_checkIndex_8e157)) := mTbl_good (by
      intro w hw
      unfold va_wsS mWs at hw
      simp only [List.cons_append, List.nil_append, List.mem_cons] at hw
      rcases hw with rfl | rfl | rfl | rfl | hw
      · exact sl_pre
      · exact mt_J3_checkIndex_8e157.1
      · exact mt_J3_checkIndex_8e157.2.1
      · exact mt_J3_checkIndex_8e157.2.2.1
      · exact hw)
    refine mRun_go (K := fun r h2 => r = some (mI x) ∧ h2 = h) (st := []) (L := L) hF V (va_runS (As := [.int (Int32.ofInt x), .int (Int32.ofInt y), v]) (rest := []) V.1 (chk_met hv (chk_at hx hy ⟨rfl, rfl⟩) G.1.2.1 (mGD G) (mGc G) (mGad G) (mGids G) H.size V.2.2.2.1)
      (va_cwS 3 V.1.2.2.2.2 hgood rfl rfl rfl mt_J3_checkIndex_8e157.2.2.2.1 ⟨V.2.2.2.2.2.2.1, ?_⟩)
      ⟨mBlind, fun U hU hW => ⟨rfl, mFx_at V hP hS hU hW⟩⟩ rfl rfl hL.1 rfl (lv_room (by decide)) (dT dJ0_checkIndex_df160 3 rfl).1 ⟨V.2.2.2.2.2.2.2.2.1, V.2.2.2.2.2.2.2.2.2⟩) hS hL v1 (fun _ z => by cases z) ?_
    · have := V.2.2.2.2.2.2.2.1
      have e : MJ0_checkIndex_df160.2.2.2.2 = 1 := rfl
      rw [e] at this
      show 8 + (3 + 11) + 40 * 0 ≤ _
      omega
    · rintro r h2 ⟨rfl, rfl⟩
      exact k
  rcases V.2.2.1.2.2.2.2.2.2 with hZ | ⟨t, hZ⟩
  · exact va_gets V.1.1 V.1.2.1 (own := "java/lang/String") hZ hS V.1.2.2.2.1 (V.1.2.2.2.2 _ sf_siobe) (fun x hx => hx) (dT dJ0_checkIndex_df160 2 rfl).1 (go .null rfl)
  · exact va_gets V.1.1 V.1.2.1 (own := "java/lang/String") hZ hS V.1.2.2.2.1 (V.1.2.2.2.2 _ sf_siobe) (fun x hx => hx) (dT dJ0_checkIndex_df160 2 rfl).1 (go (.ref t) rfl)
theorem k_check {K : mH → Prop} {x y : Int} (hx : 0 ≤ x ∧ x < y) (hy : mInR y) (k : K h) : OkV MJ0_checkIndex_df160 [mI x, mI y] h K := by
  refine Ok.of rfl (n := 0) rfl ?_
  show At (mPV K) MJ0_checkIndex_df160 0 [mI x, mI y] [] h
  refine mw_iload_n (dT dJ0_checkIndex_df160 0 rfl) rfl ?_
  refine mw_iload_n (dT dJ0_checkIndex_df160 1 rfl) rfl ?_
  refine chk_go hx hy ?_
  refine mw_pop (dT dJ0_checkIndex_df160 4 rfl) (fun _ z => by cases z) ?_
  exact mw_vret rfl (dT dJ0_checkIndex_df160 5 rfl) ⟨rfl, k⟩
theorem k_coder {K : Int → mH → Prop} {i : Nat} (hi : i < 2) (k : K 0 h) : OkI MJ0_coder_7d493 [mR 60 (i : Int)] h K := by
  refine Ok.of rfl (n := 0) rfl ?_
  show At (mPI K) MJ0_coder_7d493 0 [mR 60 (i : Int)] [] h
  refine mw_scompact rfl (dT dJ0_coder_7d493 0 rfl) ?_
  refine mw_if_eq 13 (dT dJ0_coder_7d493 1 rfl) (by decide) (by decide) (fun z => absurd z (by decide)) (fun _ => ?_)
  refine mw_aload_n (dT dJ0_coder_7d493 2 rfl) rfl (by decide) ?_
  refine mw_scoder hi rfl (dT dJ0_coder_7d493 3 rfl) ?_
  refine mw_goto 14 (dT dJ0_coder_7d493 4 rfl) (by decide) ?_
  exact mw_nret rfl (by decide +kernel) (dT dJ0_coder_7d493 6 rfl) ⟨_, rfl, k⟩
theorem k_latin {K : Int → mH → Prop} {i : Nat} (hi : i < 2) (k : K 1 h) : OkI MJ0_isLatin1_aae02 [mR 60 (i : Int)] h K := by
  refine Ok.of rfl (n := 0) rfl ?_
  show At (mPI K) MJ0_isLatin1_aae02 0 [mR 60 (i : Int)] [] h
  refine mw_scompact rfl (dT dJ0_isLatin1_aae02 0 rfl) ?_
  refine mw_if_eq 17 (dT dJ0_isLatin1_aae02 1 rfl) (by decide) (by decide) (fun z => absurd z (by decide)) (fun _ => ?_)
  refine mw_aload_n (dT dJ0_isLatin1_aae02 2 rfl) rfl (by decide) ?_
  refine mw_scoder hi rfl (dT dJ0_isLatin1_aae02 3 rfl) ?_
  refine mw_if_ne 17 (dT dJ0_isLatin1_aae02 4 rfl) (by decide) (by decide) (fun z => absurd rfl z) (fun _ => ?_)
  refine mw_iconst (dT dJ0_isLatin1_aae02 5 rfl) ?_
  refine mw_goto 18 (dT dJ0_isLatin1_aae02 6 rfl) (by decide) ?_
  exact mw_nret rfl (by decide +kernel) (dT dJ0_isLatin1_aae02 8 rfl) ⟨_, rfl, k⟩
theorem k_strlen {K : Int → mH → Prop} {i : Nat} (hi : i < 2) (k : K 54 h) : OkI MJ0_length_8abf5 [mR 60 (i : Int)] h K := by
  refine Ok.of rfl (n := 0) rfl ?_
  show At (mPI K) MJ0_length_8abf5 0 [mR 60 (i : Int)] [] h
  refine mw_aload_n (dT dJ0_length_8abf5 0 rfl) rfl (by decide) ?_
  refine mw_sval hi rfl (dT dJ0_length_8abf5 1 rfl) ?_
  refine mw_slen hi (dT dJ0_length_8abf5 2 rfl) ?_
  refine mw_aload_n (dT dJ0_length_8abf5 3 rfl) rfl (by decide) ?_
  refine mw_callVS (as := []) hi ms_J0_coder_7d493 sl_coder (by decide) (dT dJ0_length_8abf5 4 rfl) rfl rfl (k_coder (K := fun x h2 => x = 0 ∧ h2 = h) hi ⟨rfl, rfl⟩) ?_
  rintro r h2 ⟨x, rfl, rfl, rfl⟩
  refine mw_ishr (dT dJ0_length_8abf5 5 rfl) ?_
  rw [show mShr 54 0 = 54 by decide +kernel]
  exact mw_iret rfl (dT dJ0_length_8abf5 6 rfl) ⟨_, rfl, k⟩
theorem mCh_fin : ∀ i : Fin 2, ∀ x : Fin 54, mAnd (mCh i.val (x.val : Int)) 255 = mCh i.val (x.val : Int) ∧ ((Int32.ofInt (mCh i.val (x.val : Int))).toUInt32 % 65536).toInt32 = Int32.ofInt (mCh i.val (x.val : Int)) ∧ narrow .char (.int (Int32.ofInt (mCh i.val (x.val : Int)))) = .int (Int32.ofInt (mCh i.val (x.val : Int))) := by decide +kernel
theorem mCh_f {i : Nat} (hi : i < 2) {x : Int} (hx : 0 ≤ x ∧ x < 54) : mAnd (mCh i x) 255 = mCh i x ∧ ((Int32.ofInt (mCh i x)).toUInt32 % 65536).toInt32 = Int32.ofInt (mCh i x) ∧ narrow .char (.int (Int32.ofInt (mCh i x))) = .int (Int32.ofInt (mCh i x)) := by
  have := mCh_fin ⟨i, hi⟩ ⟨x.toNat, by omega⟩
  simp only [Int.toNat_of_nonneg hx.1] at this
  exact this
theorem mw_i2c {x : Int} {pc' : Nat} (hd : mDc M pc (.i2c) 1 pc') (hx : ((Int32.ofInt x).toUInt32 % 65536).toInt32 = Int32.ofInt x) (k : At F M pc' L (mI x :: st) h) : At F M pc L (mI x :: st) h := by
  obtain ⟨hd, rfl⟩ := hd
  intro G hF V H locs ls hP hS hL v1 v2
  exact lv_i2c V.1.1 V.1.2.1 hd hx (k G hF V H locs ls hP hS hL v1 v2)
theorem k_lchar {K : Int → mH → Prop} {i : Nat} {x : Int} (hi : i < 2) (hx : 0 ≤ x ∧ x < 54) (k : K (mCh i x) h) : OkI MJ1_charAt_3b067 [mR 61 (i : Int), mI x] h K := by
  have hc := mCh_f hi hx
  refine Ok.of rfl (n := 0) rfl ?_
  show At (mPI K) MJ1_charAt_3b067 0 [mR 61 (i : Int), mI x] [] h
  refine mw_iload_n (dT dJ1_charAt_3b067 0 rfl) rfl ?_
  refine mw_aload_n (dT dJ1_charAt_3b067 1 rfl) rfl (by decide) ?_
  refine mw_slen hi (dT dJ1_charAt_3b067 2 rfl) ?_
  refine mw_callSV mt_J0_checkIndex_df160 sl_check (by decide) (dT dJ1_charAt_3b067 3 rfl) (as := [mI x, mI 54]) rfl rfl (k_check (K := fun h2 => h2 = h) hx (by decide) rfl) ?_
  rintro h2 rfl
  refine mw_aload_n (dT dJ1_charAt_3b067 4 rfl) rfl (by decide) ?_
  refine mw_iload_n (dT dJ1_charAt_3b067 5 rfl) rfl ?_
  refine mw_sbald hi (dT dJ1_charAt_3b067 6 rfl) hx ?_
  refine mw_sipush (by decide) (dT dJ1_charAt_3b067 7 rfl) ?_
  refine mw_iand (dT dJ1_charAt_3b067 8 rfl) ?_
  rw [hc.1]
  refine mw_i2c (dT dJ1_charAt_3b067 9 rfl) hc.2.1 ?_
  exact mw_nret rfl hc.2.2 (dT dJ1_charAt_3b067 10 rfl) ⟨_, rfl, k⟩
theorem k_charAt {K : Int → mH → Prop} {i : Nat} {x : Int} (hi : i < 2) (hx : 0 ≤ x ∧ x < 54) (k : K (mCh i x) h) : OkI MJ0_charAt_5068e [mR 60 (i : Int), mI x] h K := by
  have hc := mCh_f hi hx
  refine Ok.of rfl (n := 0) rfl ?_
  show At (mPI K) MJ0_charAt_5068e 0 [mR 60 (i : Int), mI x] [] h
  refine mw_aload_n (dT dJ0_charAt_5068e 0 rfl) rfl (by decide) ?_
  refine mw_callVS (as := []) hi ms_J0_isLatin1_aae02 sl_latin (by decide) (dT dJ0_charAt_5068e 1 rfl) rfl rfl (k_latin (K := fun x h2 => x = 1 ∧ h2 = h) hi ⟨rfl, rfl⟩) ?_
  rintro r h2 ⟨q, rfl, rfl, rfl⟩
  refine mw_if_eq 16 (dT dJ0_charAt_5068e 2 rfl) (by decide) (by decide) (fun z => absurd z (by decide)) (fun _ => ?_)
  refine mw_aload_n (dT dJ0_charAt_5068e 3 rfl) rfl (by decide) ?_
  refine mw_sval hi rfl (dT dJ0_charAt_5068e 4 rfl) ?_
  refine mw_iload_n (dT dJ0_charAt_5068e 5 rfl) rfl ?_
  refine mw_callSI mt_J1_charAt_3b067 sl_lchar (by decide) (dT dJ0_charAt_5068e 6 rfl) (as := [mR 61 (i : Int), mI _]) rfl rfl (k_lchar (K := fun y h9 => y = mCh i x ∧ h9 = h2) hi hx ⟨rfl, rfl⟩) ?_
  rintro y h3 ⟨rfl, rfl⟩
  exact mw_nret rfl hc.2.2 (dT dJ0_charAt_5068e 7 rfl) ⟨_, rfl, k⟩
end MSTR
theorem mw_strlen0 {F : mG → Prop} {pc pc' : Nat} {L st : List mV} {h : mH} (hd : mDc M5_wordNumber pc (.invokevirtual 65) 3 pc') (hst : Nat.ble (mCat st) 8 = true) (k : At F M5_wordNumber pc' L (mI 54 :: st) h) : At F M5_wordNumber pc L (mR 60 0 :: st) h := by
  refine mw_callVS (as := []) (i := 0) (by decide) ms_J0_length_8abf5 sl_5_length (by decide) hd rfl hst (k_strlen (i := 0) (K := fun x h2 => x = 54 ∧ h2 = h) (by decide) ⟨rfl, rfl⟩) ?_
  rintro r h2 ⟨x, rfl, rfl, rfl⟩
  exact k
theorem mw_strlen1 {F : mG → Prop} {pc pc' : Nat} {L st : List mV} {h : mH} (hd : mDc M7_wordHere pc (.invokevirtual 110) 3 pc') (hst : Nat.ble (mCat st) 8 = true) (k : At F M7_wordHere pc' L (mI 54 :: st) h) : At F M7_wordHere pc L (mR 60 1 :: st) h := by
  refine mw_callVS (as := []) (i := 1) (by decide) ms_J0_length_8abf5 sl_7_length (by decide) hd rfl hst (k_strlen (i := 1) (K := fun x h2 => x = 54 ∧ h2 = h) (by decide) ⟨rfl, rfl⟩) ?_
  rintro r h2 ⟨x, rfl, rfl, rfl⟩
  exact k
theorem mw_strat0 {F : mG → Prop} {pc pc' : Nat} {L st : List mV} {h : mH} {x : Int} (hd : mDc M5_wordNumber pc (.invokevirtual 71) 3 pc') (hst : Nat.ble (mCat st) 8 = true) (hx : 0 ≤ x ∧ x < 54) (k : At F M5_wordNumber pc' L (mI (mCh0 x) :: st) h) : At F M5_wordNumber pc L (mI x :: mR 60 0 :: st) h := by
  refine mw_callVS (as := [mI x]) (i := 0) (by decide) ms_J0_charAt_5068e sl_5_charAt (by decide) hd rfl hst (k_charAt (i := 0) (K := fun y h2 => y = mCh0 x ∧ h2 = h) (by decide) hx ⟨rfl, rfl⟩) ?_
  rintro r h2 ⟨x, rfl, rfl, rfl⟩
  exact k
theorem mw_strat1 {F : mG → Prop} {pc pc' : Nat} {L st : List mV} {h : mH} {x : Int} (hd : mDc M7_wordHere pc (.invokevirtual 115) 3 pc') (hst : Nat.ble (mCat st) 8 = true) (hx : 0 ≤ x ∧ x < 54) (k : At F M7_wordHere pc' L (mI (mCh1 x) :: st) h) : At F M7_wordHere pc L (mI x :: mR 60 1 :: st) h := by
  refine mw_callVS (as := [mI x]) (i := 1) (by decide) ms_J0_charAt_5068e sl_7_charAt (by decide) hd rfl hst (k_charAt (i := 1) (K := fun y h2 => y = mCh1 x ∧ h2 = h) (by decide) hx ⟨rfl, rfl⟩) ?_
  rintro r h2 ⟨x, rfl, rfl, rfl⟩
  exact k
