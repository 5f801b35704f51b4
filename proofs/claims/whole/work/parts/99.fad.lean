/-! RateOffice.factor: words, walk. By program (wip/whole/mk_fac.py). -/
def M6_factor : mMs := (yX6_factor, cX6_factor, 3, (some .int), 6)
set_option maxRecDepth 100000 in
theorem d6_factor : ∀ q ∈ ([(0, .aload_n 0, 1, 1), (1, .getfield 20, 3, 4), (4, .iload_n 1, 1, 5), (5, .invokevirtual 105, 3, 8), (8, .ifCond .ne 11, 3, 11), (11, .new 205, 3, 14), (14, .dup, 1, 15), (15, .invokespecial 207, 3, 18), (18, .athrow, 1, 19), (19, .iload_n 2, 1, 20), (20, .tableswitch 84 0 4 #[36, 46, 56, 66, 75], 36, 56), (56, .aload_n 0, 1, 57), (57, .getfield 20, 3, 60), (60, .getfield 177, 3, 63), (63, .iload_n 1, 1, 64), (64, .iaload, 1, 65), (65, .ireturn, 1, 66), (66, .aload_n 0, 1, 67), (67, .getfield 20, 3, 70), (70, .getfield 139, 3, 73), (73, .iload_n 1, 1, 74), (74, .iaload, 1, 75), (75, .ireturn, 1, 76), (76, .aload_n 0, 1, 77), (77, .getfield 20, 3, 80), (80, .getfield 143, 3, 83), (83, .iload_n 1, 1, 84), (84, .iaload, 1, 85), (85, .ireturn, 1, 86), (86, .aload_n 0, 1, 87), (87, .getfield 36, 3, 90), (90, .iload_n 1, 1, 91), (91, .invokevirtual 208, 3, 94), (94, .ireturn, 1, 95), (95, .aload_n 0, 1, 96), (96, .getfield 36, 3, 99), (99, .iload_n 1, 1, 100), (100, .invokevirtual 211, 3, 103), (103, .ireturn, 1, 104), (104, .new 214, 3, 107), (107, .dup, 1, 108), (108, .invokespecial 216, 3, 111), (111, .athrow, 1, 112)] : List (Nat × Instr × Nat × Nat)), mDq M6_factor q := by decide +kernel
theorem mv_6_factor : mMv M6_factor 25 2 := ⟨6, _, _, rfl, by decide, rfl, rfl, mTbl_of 1072 (by decide +kernel) rfl, mTbl_of 1073 (by decide +kernel) rfl, ki_X6, mTbl_of 1074 (by decide +kernel) rfl, by decide +kernel, by decide⟩
theorem ml_X6_208 : Cond.methodLink RX6 208 yX2_countClasses ∈ mTbl := mTbl_of 1137 (by decide +kernel) rfl
theorem ml_X6_211 : Cond.methodLink RX6 211 yX2_farthestOff ∈ mTbl := mTbl_of 1141 (by decide +kernel) rfl
set_option maxRecDepth 100000 in
theorem xc_xI : xCls 205 207 xI := ⟨by decide +kernel, mTbl_of 1075 (by decide +kernel) rfl, mTbl_of 91 (by decide +kernel) rfl, by decide +kernel, by decide +kernel⟩
set_option maxRecDepth 100000 in
theorem xc_xN : xCls 214 216 xN := ⟨by decide +kernel, mTbl_of 1145 (by decide +kernel) rfl, mTbl_of 92 (by decide +kernel) rfl, by decide +kernel, by decide +kernel⟩
theorem s6_factor {K : Int → mH → Prop} {KX : String → mH → Prop} {x1 x2 : Int} {h : mH} (T : OkI M3_hasFactor [mR 7 0, mI x1] h (fun v1 h1 => (mInR v1) ∧ (¬ v1 = 0 → (mInR x2 ∧ (x2 = 0 → ((0 ≤ x1 ∧ x1 < 4) ∧ (K (h1 9 0 x1) h1))) ∧ (x2 = 1 → ((0 ≤ x1 ∧ x1 < 4) ∧ (K (h1 10 0 x1) h1))) ∧ (x2 = 2 → ((0 ≤ x1 ∧ x1 < 4) ∧ (K (h1 11 0 x1) h1))) ∧ (x2 = 3 → (OkI M2_countClasses [mR 12 0, mI x1] h1 (fun v2 h2 => K v2 h2))) ∧ (x2 = 4 → (OkI M2_farthestOff [mR 12 0, mI x1] h1 (fun v3 h3 => K v3 h3))) ∧ (x2 < 0 ∨ 4 < x2 → (KX xN h1)))) ∧ (v1 = 0 → (KX xI h1)))) : OkX M6_factor [mR 25 0, mI x1, mI x2] h K KX := by
  refine OkX.of (by decide +kernel) (by decide) (n := 0) rfl ?_
  show At (xPost K KX) M6_factor 0 [mR 25 0, mI x1, mI x2] [] h
  refine mw_aload_n (dT d6_factor 0 rfl) rfl (by decide) ?_
  refine mw_getR fl_X6_20 (dT d6_factor 1 rfl) ?_
  refine mw_iload_n (dT d6_factor 2 rfl) rfl ?_
  refine mw_callVI mv_3_hasFactor ml_X6_105 (by decide) (dT d6_factor 3 rfl) (as := [mI _]) rfl rfl T (fun v1 h1 T => ?_)
  obtain ⟨z, T1, T2⟩ := T
  refine mw_if_ne 19 (dT d6_factor 4 rfl) (by decide) z (fun z => ?_) (fun z => ?_)
  · have T := T1 z
    refine mw_iload_n (dT d6_factor 9 rfl) rfl ?_
    obtain ⟨z, T0, T1, T2, T3, T4, Td⟩ := T
    by_cases y0 : x2 = 0
    · have T := T0 y0
      refine mw_tableIn 56 (dT d6_factor 10 rfl) z (by omega) (by omega) (by rw [y0]; rfl) (by decide) ?_
      refine mw_aload_n (dT d6_factor 11 rfl) rfl (by decide) ?_
      refine mw_getR fl_X6_20 (dT d6_factor 12 rfl) ?_
      refine mw_getR fl_X6_177 (dT d6_factor 13 rfl) ?_
      refine mw_iload_n (dT d6_factor 14 rfl) rfl ?_
      obtain ⟨z, T⟩ := T
      refine mw_iaload ro_9 (dT d6_factor 15 rfl) z ?_
      exact mw_iretX rfl (dT d6_factor 16 rfl) T
    by_cases y1 : x2 = 1
    · have T := T1 y1
      refine mw_tableIn 66 (dT d6_factor 10 rfl) z (by omega) (by omega) (by rw [y1]; rfl) (by decide) ?_
      refine mw_aload_n (dT d6_factor 17 rfl) rfl (by decide) ?_
      refine mw_getR fl_X6_20 (dT d6_factor 18 rfl) ?_
      refine mw_getR fl_X6_139 (dT d6_factor 19 rfl) ?_
      refine mw_iload_n (dT d6_factor 20 rfl) rfl ?_
      obtain ⟨z, T⟩ := T
      refine mw_iaload ro_10 (dT d6_factor 21 rfl) z ?_
      exact mw_iretX rfl (dT d6_factor 22 rfl) T
    by_cases y2 : x2 = 2
    · have T := T2 y2
      refine mw_tableIn 76 (dT d6_factor 10 rfl) z (by omega) (by omega) (by rw [y2]; rfl) (by decide) ?_
      refine mw_aload_n (dT d6_factor 23 rfl) rfl (by decide) ?_
      refine mw_getR fl_X6_20 (dT d6_factor 24 rfl) ?_
      refine mw_getR fl_X6_143 (dT d6_factor 25 rfl) ?_
      refine mw_iload_n (dT d6_factor 26 rfl) rfl ?_
      obtain ⟨z, T⟩ := T
      refine mw_iaload ro_11 (dT d6_factor 27 rfl) z ?_
      exact mw_iretX rfl (dT d6_factor 28 rfl) T
    by_cases y3 : x2 = 3
    · have T := T3 y3
      refine mw_tableIn 86 (dT d6_factor 10 rfl) z (by omega) (by omega) (by rw [y3]; rfl) (by decide) ?_
      refine mw_aload_n (dT d6_factor 29 rfl) rfl (by decide) ?_
      refine mw_getR fl_X6_36 (dT d6_factor 30 rfl) ?_
      refine mw_iload_n (dT d6_factor 31 rfl) rfl ?_
      refine mw_callVI mv_2_countClasses ml_X6_208 (by decide) (dT d6_factor 32 rfl) (as := [mI _]) rfl rfl T (fun v2 h2 T => ?_)
      exact mw_iretX rfl (dT d6_factor 33 rfl) T
    by_cases y4 : x2 = 4
    · have T := T4 y4
      refine mw_tableIn 95 (dT d6_factor 10 rfl) z (by omega) (by omega) (by rw [y4]; rfl) (by decide) ?_
      refine mw_aload_n (dT d6_factor 34 rfl) rfl (by decide) ?_
      refine mw_getR fl_X6_36 (dT d6_factor 35 rfl) ?_
      refine mw_iload_n (dT d6_factor 36 rfl) rfl ?_
      refine mw_callVI mv_2_farthestOff ml_X6_211 (by decide) (dT d6_factor 37 rfl) (as := [mI _]) rfl rfl T (fun v3 h3 T => ?_)
      exact mw_iretX rfl (dT d6_factor 38 rfl) T
    have yd : x2 < 0 ∨ 4 < x2 := by omega
    have T := Td yd
    refine mw_tableOut 104 (dT d6_factor 10 rfl) z yd (by decide) ?_
    exact mw_throwX rfl xc_xN (dT d6_factor 39 rfl) (dT d6_factor 40 rfl) (dT d6_factor 41 rfl) (dT d6_factor 42 rfl) rfl T
  · have T := T2 z
    exact mw_throwX rfl xc_xI (dT d6_factor 5 rfl) (dT d6_factor 6 rfl) (dT d6_factor 7 rfl) (dT d6_factor 8 rfl) rfl T
