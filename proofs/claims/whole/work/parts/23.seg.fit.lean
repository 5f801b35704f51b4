/-! walks, by program (wip/whole/seg.py) -/
abbrev A2_behindFactors_19 (K : Int → mH → Prop) (b : Int) (x1 x2 x3 x4 x6 x7 : Int) (h : mH) : Prop := At (mPJ K) M2_behindFactors 19 [mR 12 b, mI x1, mI x2, mI x3, mJ x4, mU, mI x6, mI x7] [] h
theorem s2_behindFactors_19 {K : Int → mH → Prop} {b : Int} {x1 x2 x3 x4 x6 x7 : Int} {h : mH} (T : (mInR x7 ∧ mInR x3) ∧ (x3 ≤ x7 → (K x4 h)) ∧ (¬ x3 ≤ x7 → ((mInR x7) ∧ (4 ≤ x7 → (K x4 h)) ∧ (¬ 4 ≤ x7 → ((0 ≤ (mOr (mShl x7 3) (mAnd x6 7)) ∧ (mOr (mShl x7 3) (mAnd x6 7)) < 32) ∧ ((mInR (h 6 b (mOr (mShl x7 3) (mAnd x6 7)))) ∧ ((mInL (x4 * (h 6 b (mOr (mShl x7 3) (mAnd x6 7))))) ∧ (A2_behindFactors_19 K b x1 x2 x3 (Int.tdiv (x4 * (h 6 b (mOr (mShl x7 3) (mAnd x6 7)))) 10000) (mShr x6 3) (x7 + 1) h)))))))) : A2_behindFactors_19 K b x1 x2 x3 x4 x6 x7 h := by
  refine mw_iload (dT d2_behindFactors 12 rfl) rfl ?_
  refine mw_iload_n (dT d2_behindFactors 13 rfl) rfl ?_
  obtain ⟨z, T1, T2⟩ := T
  refine mw_icmp_ge 71 (dT d2_behindFactors 14 rfl) (by decide) z (fun z => ?_) (fun z => ?_)
  · have T := T1 z
    refine mw_lload (dT d2_behindFactors 41 rfl) rfl ?_
    exact mw_lret rfl (dT d2_behindFactors 42 rfl) ⟨_, rfl, T⟩
  · have T := T2 z
    refine mw_iload (dT d2_behindFactors 15 rfl) rfl ?_
    refine mw_iconst (dT d2_behindFactors 16 rfl) ?_
    obtain ⟨z, T1, T2⟩ := T
    refine mw_icmp_ge 71 (dT d2_behindFactors 17 rfl) (by decide) ⟨z, by decide⟩ (fun z => ?_) (fun z => ?_)
    · have T := T1 z
      refine mw_lload (dT d2_behindFactors 41 rfl) rfl ?_
      exact mw_lret rfl (dT d2_behindFactors 42 rfl) ⟨_, rfl, T⟩
    · have T := T2 z
      refine mw_lload (dT d2_behindFactors 18 rfl) rfl ?_
      refine mw_aload_n (dT d2_behindFactors 19 rfl) rfl (by decide) ?_
      refine mw_getR fl_X2_32 (dT d2_behindFactors 20 rfl) ?_
      refine mw_getR fl_X2_42 (dT d2_behindFactors 21 rfl) ?_
      refine mw_iload (dT d2_behindFactors 22 rfl) rfl ?_
      refine mw_iconst (dT d2_behindFactors 23 rfl) ?_
      refine mw_ishl (dT d2_behindFactors 24 rfl) ?_
      refine mw_iload (dT d2_behindFactors 25 rfl) rfl ?_
      refine mw_bipush (by decide) (dT d2_behindFactors 26 rfl) ?_
      refine mw_iand (dT d2_behindFactors 27 rfl) ?_
      refine mw_ior (dT d2_behindFactors 28 rfl) ?_
      obtain ⟨z, T⟩ := T
      refine mw_iaload ro_6 (dT d2_behindFactors 29 rfl) z ?_
      obtain ⟨z, T⟩ := T
      refine mw_i2l (dT d2_behindFactors 30 rfl) z ?_
      refine mw_lmul (dT d2_behindFactors 31 rfl) ?_
      refine mw_ldc2 kl_X2_45 (dT d2_behindFactors 32 rfl) ?_
      obtain ⟨z, T⟩ := T
      refine mw_ldiv (dT d2_behindFactors 33 rfl) ⟨z, by decide, by decide⟩ ?_
      refine mw_lstore (dT d2_behindFactors 34 rfl) (by decide) ?_
      refine mw_iload (dT d2_behindFactors 35 rfl) rfl ?_
      refine mw_iconst (dT d2_behindFactors 36 rfl) ?_
      refine mw_ishr (dT d2_behindFactors 37 rfl) ?_
      refine mw_istore (dT d2_behindFactors 38 rfl) (by decide) ?_
      refine mw_iinc (dT d2_behindFactors 39 rfl) rfl (by decide) ?_
      refine mw_goto 19 (dT d2_behindFactors 40 rfl) (by decide) ?_
      exact T
theorem s2_behindFactors {K : Int → mH → Prop} {b : Int} {x1 : Int} {x2 : Int} {x3 : Int} {h : mH} (T : (mInR x1) ∧ ((mInR (h 1 b 1)) ∧ (A2_behindFactors_19 K b x1 x2 x3 (x1 * (h 1 b 1)) x2 0 h))) : OkJ M2_behindFactors [mR 12 b, mI x1, mI x2, mI x3] h K := by
  refine Ok.of rfl (n := 4) rfl ?_
  show At (mPJ K) M2_behindFactors 0 [mR 12 b, mI x1, mI x2, mI x3, mU, mU, mU, mU] [] h
  refine mw_iload_n (dT d2_behindFactors 0 rfl) rfl ?_
  obtain ⟨z, T⟩ := T
  refine mw_i2l (dT d2_behindFactors 1 rfl) z ?_
  refine mw_aload_n (dT d2_behindFactors 2 rfl) rfl (by decide) ?_
  refine mw_getR fl_X2_32 (dT d2_behindFactors 3 rfl) ?_
  refine mw_getI fl_X2_36 (dT d2_behindFactors 4 rfl) ?_
  obtain ⟨z, T⟩ := T
  refine mw_i2l (dT d2_behindFactors 5 rfl) z ?_
  refine mw_lmul (dT d2_behindFactors 6 rfl) ?_
  refine mw_lstore (dT d2_behindFactors 7 rfl) (by decide) ?_
  refine mw_iload_n (dT d2_behindFactors 8 rfl) rfl ?_
  refine mw_istore (dT d2_behindFactors 9 rfl) (by decide) ?_
  refine mw_iconst (dT d2_behindFactors 10 rfl) ?_
  refine mw_istore (dT d2_behindFactors 11 rfl) (by decide) ?_
  exact T
theorem s2_premiumFor {K : Int → mH → Prop} {b : Int} {x1 : Int} {x2 : Int} {h : mH} (T : OkJ M2_behindFactors [mR 12 b, mI x1, mI x2, mI (h 7 0 0)] h (fun v1 h1 => (mInR x1 ∧ mInR (h1 1 b 4)) ∧ (x1 < (h1 1 b 4) → (K v1 h1)) ∧ (¬ x1 < (h1 1 b 4) → ((mInR (h1 1 b 5)) ∧ ((mInL (v1 * (h1 1 b 5))) ∧ (K (v1 - (Int.tdiv (v1 * (h1 1 b 5)) 1000)) h1)))))) : OkJ M2_premiumFor [mR 12 b, mI x1, mI x2] h K := by
  refine Ok.of rfl (n := 2) rfl ?_
  show At (mPJ K) M2_premiumFor 0 [mR 12 b, mI x1, mI x2, mU, mU] [] h
  refine mw_aload_n (dT d2_premiumFor 0 rfl) rfl (by decide) ?_
  refine mw_iload_n (dT d2_premiumFor 1 rfl) rfl ?_
  refine mw_iload_n (dT d2_premiumFor 2 rfl) rfl ?_
  refine mw_aload_n (dT d2_premiumFor 3 rfl) rfl (by decide) ?_
  refine mw_getR fl_X2_28 (dT d2_premiumFor 4 rfl) ?_
  refine mw_getI fl_X2_47 (dT d2_premiumFor 5 rfl) ?_
  refine mw_callVJ mv_2_behindFactors ml_X2_52 (by decide) (dT d2_premiumFor 6 rfl) (as := [mI _, mI _, mI _]) rfl rfl T (fun v1 h1 T => ?_)
  refine mw_lstore_n (dT d2_premiumFor 7 rfl) (by decide) ?_
  refine mw_iload_n (dT d2_premiumFor 8 rfl) rfl ?_
  refine mw_aload_n (dT d2_premiumFor 9 rfl) rfl (by decide) ?_
  refine mw_getR fl_X2_32 (dT d2_premiumFor 10 rfl) ?_
  refine mw_getI fl_X2_56 (dT d2_premiumFor 11 rfl) ?_
  obtain ⟨z, T1, T2⟩ := T
  refine mw_icmp_lt 44 (dT d2_premiumFor 12 rfl) (by decide) z (fun z => ?_) (fun z => ?_)
  · have T := T1 z
    refine mw_lload_n (dT d2_premiumFor 24 rfl) rfl ?_
    exact mw_lret rfl (dT d2_premiumFor 25 rfl) ⟨_, rfl, T⟩
  · have T := T2 z
    refine mw_lload_n (dT d2_premiumFor 13 rfl) rfl ?_
    refine mw_lload_n (dT d2_premiumFor 14 rfl) rfl ?_
    refine mw_aload_n (dT d2_premiumFor 15 rfl) rfl (by decide) ?_
    refine mw_getR fl_X2_32 (dT d2_premiumFor 16 rfl) ?_
    refine mw_getI fl_X2_59 (dT d2_premiumFor 17 rfl) ?_
    obtain ⟨z, T⟩ := T
    refine mw_i2l (dT d2_premiumFor 18 rfl) z ?_
    refine mw_lmul (dT d2_premiumFor 19 rfl) ?_
    refine mw_ldc2 kl_X2_62 (dT d2_premiumFor 20 rfl) ?_
    obtain ⟨z, T⟩ := T
    refine mw_ldiv (dT d2_premiumFor 21 rfl) ⟨z, by decide, by decide⟩ ?_
    refine mw_lsub (dT d2_premiumFor 22 rfl) ?_
    refine mw_goto 45 (dT d2_premiumFor 23 rfl) (by decide) ?_
    exact mw_lret rfl (dT d2_premiumFor 25 rfl) ⟨_, rfl, T⟩
theorem s2_premiumOf {K : Int → mH → Prop} {b : Int} {x1 : Int} {h : mH} (T : OkI M0_hasRisk [mR 1 b, mI x1] h (fun v1 h1 => (mInR v1) ∧ (v1 = 0 → (K 0 h1)) ∧ (¬ v1 = 0 → ((0 ≤ x1 ∧ x1 < 40) ∧ ((0 ≤ x1 ∧ x1 < 40) ∧ (OkJ M2_premiumFor [mR 12 b, mI (h1 2 b x1), mI (h1 5 b x1)] h1 (fun v2 h2 => K v2 h2))))))) : OkJ M2_premiumOf [mR 12 b, mI x1] h K := by
  refine Ok.of rfl (n := 0) rfl ?_
  show At (mPJ K) M2_premiumOf 0 [mR 12 b, mI x1] [] h
  refine mw_aload_n (dT d2_premiumOf 0 rfl) rfl (by decide) ?_
  refine mw_getR fl_X2_32 (dT d2_premiumOf 1 rfl) ?_
  refine mw_iload_n (dT d2_premiumOf 2 rfl) rfl ?_
  refine mw_callVI mv_0_hasRisk ml_X2_64 (by decide) (dT d2_premiumOf 3 rfl) (as := [mI _]) rfl rfl T (fun v1 h1 T => ?_)
  obtain ⟨z, T1, T2⟩ := T
  refine mw_if_eq 36 (dT d2_premiumOf 4 rfl) (by decide) z (fun z => ?_) (fun z => ?_)
  · have T := T1 z
    refine mw_lconst (dT d2_premiumOf 18 rfl) ?_
    exact mw_lret rfl (dT d2_premiumOf 19 rfl) ⟨_, rfl, T⟩
  · have T := T2 z
    refine mw_aload_n (dT d2_premiumOf 5 rfl) rfl (by decide) ?_
    refine mw_aload_n (dT d2_premiumOf 6 rfl) rfl (by decide) ?_
    refine mw_getR fl_X2_32 (dT d2_premiumOf 7 rfl) ?_
    refine mw_getR fl_X2_68 (dT d2_premiumOf 8 rfl) ?_
    refine mw_iload_n (dT d2_premiumOf 9 rfl) rfl ?_
    obtain ⟨z, T⟩ := T
    refine mw_iaload ro_2 (dT d2_premiumOf 10 rfl) z ?_
    refine mw_aload_n (dT d2_premiumOf 11 rfl) rfl (by decide) ?_
    refine mw_getR fl_X2_32 (dT d2_premiumOf 12 rfl) ?_
    refine mw_getR fl_X2_71 (dT d2_premiumOf 13 rfl) ?_
    refine mw_iload_n (dT d2_premiumOf 14 rfl) rfl ?_
    obtain ⟨z, T⟩ := T
    refine mw_iaload ro_5 (dT d2_premiumOf 15 rfl) z ?_
    refine mw_callVJ mv_2_premiumFor ml_X2_74 (by decide) (dT d2_premiumOf 16 rfl) (as := [mI _, mI _]) rfl rfl T (fun v2 h2 T => ?_)
    refine mw_goto 37 (dT d2_premiumOf 17 rfl) (by decide) ?_
    exact mw_lret rfl (dT d2_premiumOf 19 rfl) ⟨_, rfl, T⟩
abbrev A2_price_2 (K : mH → Prop) (b : Int) (x1 : Int) (h : mH) : Prop := At (mPV K) M2_price 2 [mR 12 b, mI x1] [] h
theorem s2_price_2 {K : mH → Prop} {b : Int} {x1 : Int} {h : mH} (T : (mInR x1 ∧ mInR (h 1 b 0)) ∧ ((h 1 b 0) ≤ x1 → (K h)) ∧ (¬ (h 1 b 0) ≤ x1 → ((0 ≤ x1 ∧ x1 < 40) ∧ ((0 ≤ x1 ∧ x1 < 40) ∧ (OkJ M2_premiumFor [mR 12 b, mI (h 2 b x1), mI (h 5 b x1)] h (fun v1 h1 => (0 ≤ x1 ∧ x1 < 40) ∧ (∀ h2 : mH, h2 = mSet h1 13 b x1 v1 → (A2_price_2 K b (x1 + 1) h2)))))))) : A2_price_2 K b x1 h := by
  refine mw_iload_n (dT d2_price 2 rfl) rfl ?_
  refine mw_aload_n (dT d2_price 3 rfl) rfl (by decide) ?_
  refine mw_getR fl_X2_32 (dT d2_price 4 rfl) ?_
  refine mw_getI fl_X2_78 (dT d2_price 5 rfl) ?_
  obtain ⟨z, T1, T2⟩ := T
  refine mw_icmp_ge 47 (dT d2_price 6 rfl) (by decide) z (fun z => ?_) (fun z => ?_)
  · have T := T1 z
    exact mw_vret rfl (dT d2_price 25 rfl) ⟨rfl, T⟩
  · have T := T2 z
    refine mw_aload_n (dT d2_price 7 rfl) rfl (by decide) ?_
    refine mw_getR fl_X2_9 (dT d2_price 8 rfl) ?_
    refine mw_iload_n (dT d2_price 9 rfl) rfl ?_
    refine mw_aload_n (dT d2_price 10 rfl) rfl (by decide) ?_
    refine mw_aload_n (dT d2_price 11 rfl) rfl (by decide) ?_
    refine mw_getR fl_X2_32 (dT d2_price 12 rfl) ?_
    refine mw_getR fl_X2_68 (dT d2_price 13 rfl) ?_
    refine mw_iload_n (dT d2_price 14 rfl) rfl ?_
    obtain ⟨z, T⟩ := T
    refine mw_iaload ro_2 (dT d2_price 15 rfl) z ?_
    refine mw_aload_n (dT d2_price 16 rfl) rfl (by decide) ?_
    refine mw_getR fl_X2_32 (dT d2_price 17 rfl) ?_
    refine mw_getR fl_X2_71 (dT d2_price 18 rfl) ?_
    refine mw_iload_n (dT d2_price 19 rfl) rfl ?_
    obtain ⟨z, T⟩ := T
    refine mw_iaload ro_5 (dT d2_price 20 rfl) z ?_
    refine mw_callVJ mv_2_premiumFor ml_X2_74 (by decide) (dT d2_price 21 rfl) (as := [mI _, mI _]) rfl rfl T (fun v1 h1 T => ?_)
    obtain ⟨z, T⟩ := T
    have T := T _ rfl
    refine mw_lastore ro_13 (dT d2_price 22 rfl) z ?_
    refine mw_iinc (dT d2_price 23 rfl) rfl (by decide) ?_
    refine mw_goto 2 (dT d2_price 24 rfl) (by decide) ?_
    exact T
theorem s2_price {K : mH → Prop} {b : Int} {h : mH} (T : A2_price_2 K b 0 h) : OkV M2_price [mR 12 b] h K := by
  refine Ok.of rfl (n := 1) rfl ?_
  show At (mPV K) M2_price 0 [mR 12 b, mU] [] h
  refine mw_iconst (dT d2_price 0 rfl) ?_
  refine mw_istore_n (dT d2_price 1 rfl) (by decide) ?_
  exact T
abbrev A2_sumPaid_8 (K : Int → mH → Prop) (b : Int) (x1 x3 : Int) (h : mH) : Prop := At (mPJ K) M2_sumPaid 8 [mR 12 b, mJ x1, mU, mI x3] [] h
theorem s2_sumPaid_8 {K : Int → mH → Prop} {b : Int} {x1 x3 : Int} {h : mH} (T : (mInR x3 ∧ mInR (h 1 b 0)) ∧ ((h 1 b 0) ≤ x3 → (K x1 h)) ∧ (¬ (h 1 b 0) ≤ x3 → ((0 ≤ x3 ∧ x3 < 40) ∧ (A2_sumPaid_8 K b (x1 + (h 13 b x3)) (x3 + 1) h)))) : A2_sumPaid_8 K b x1 x3 h := by
  refine mw_iload_n (dT d2_sumPaid 6 rfl) rfl ?_
  refine mw_aload_n (dT d2_sumPaid 7 rfl) rfl (by decide) ?_
  refine mw_getR fl_X2_32 (dT d2_sumPaid 8 rfl) ?_
  refine mw_getI fl_X2_78 (dT d2_sumPaid 9 rfl) ?_
  obtain ⟨z, T1, T2⟩ := T
  refine mw_icmp_ge 34 (dT d2_sumPaid 10 rfl) (by decide) z (fun z => ?_) (fun z => ?_)
  · have T := T1 z
    refine mw_lload_n (dT d2_sumPaid 20 rfl) rfl ?_
    exact mw_lret rfl (dT d2_sumPaid 21 rfl) ⟨_, rfl, T⟩
  · have T := T2 z
    refine mw_lload_n (dT d2_sumPaid 11 rfl) rfl ?_
    refine mw_aload_n (dT d2_sumPaid 12 rfl) rfl (by decide) ?_
    refine mw_getR fl_X2_9 (dT d2_sumPaid 13 rfl) ?_
    refine mw_iload_n (dT d2_sumPaid 14 rfl) rfl ?_
    obtain ⟨z, T⟩ := T
    refine mw_laload ro_13 (dT d2_sumPaid 15 rfl) z ?_
    refine mw_ladd (dT d2_sumPaid 16 rfl) ?_
    refine mw_lstore_n (dT d2_sumPaid 17 rfl) (by decide) ?_
    refine mw_iinc (dT d2_sumPaid 18 rfl) rfl (by decide) ?_
    refine mw_goto 8 (dT d2_sumPaid 19 rfl) (by decide) ?_
    exact T
theorem s2_sumPaid {K : Int → mH → Prop} {b : Int} {h : mH} (T : OkV M2_price [mR 12 b] h (fun h1 => A2_sumPaid_8 K b 0 0 h1)) : OkJ M2_sumPaid [mR 12 b] h K := by
  refine Ok.of rfl (n := 3) rfl ?_
  show At (mPJ K) M2_sumPaid 0 [mR 12 b, mU, mU, mU] [] h
  refine mw_aload_n (dT d2_sumPaid 0 rfl) rfl (by decide) ?_
  refine mw_callVV mv_2_price ml_X2_81 (by decide) (dT d2_sumPaid 1 rfl) (as := []) rfl rfl T (fun h1 T => ?_)
  refine mw_lconst (dT d2_sumPaid 2 rfl) ?_
  refine mw_lstore_n (dT d2_sumPaid 3 rfl) (by decide) ?_
  refine mw_iconst (dT d2_sumPaid 4 rfl) ?_
  refine mw_istore_n (dT d2_sumPaid 5 rfl) (by decide) ?_
  exact T
theorem s2_measure {K : mH → Prop} {b : Int} {x1 : Int} {h : mH} (T : OkV M2_price [mR 12 b] h (fun h1 => OkV M2_gather [mR 12 b, mI x1] h1 (fun h2 => K h2))) : OkV M2_measure [mR 12 b, mI x1] h K := by
  refine Ok.of rfl (n := 0) rfl ?_
  show At (mPV K) M2_measure 0 [mR 12 b, mI x1] [] h
  refine mw_aload_n (dT d2_measure 0 rfl) rfl (by decide) ?_
  refine mw_callVV mv_2_price ml_X2_81 (by decide) (dT d2_measure 1 rfl) (as := []) rfl rfl T (fun h1 T => ?_)
  refine mw_aload_n (dT d2_measure 2 rfl) rfl (by decide) ?_
  refine mw_iload_n (dT d2_measure 3 rfl) rfl ?_
  refine mw_callVV mv_2_gather ml_X2_84 (by decide) (dT d2_measure 4 rfl) (as := [mI _]) rfl rfl T (fun h2 T => ?_)
  exact mw_vret rfl (dT d2_measure 5 rfl) ⟨rfl, T⟩
abbrev A2_gather_2 (K : mH → Prop) (b : Int) (x1 x2 : Int) (h : mH) : Prop := At (mPV K) M2_gather 2 [mR 12 b, mI x1, mI x2, mU] [] h
abbrev A2_gather_50 (K : mH → Prop) (b : Int) (x1 x2 : Int) (h : mH) : Prop := At (mPV K) M2_gather 50 [mR 12 b, mI x1, mI x2, mU] [] h
abbrev A2_gather_150 (K : mH → Prop) (b : Int) (x1 x2 : Int) (h : mH) : Prop := At (mPV K) M2_gather 150 [mR 12 b, mI x1, mI x2, mU] [] h
theorem s2_gather_2 {K : mH → Prop} {b : Int} {x1 x2 : Int} {h : mH} (T : (mInR x2) ∧ (7 < x2 → (A2_gather_50 K b x1 0 h)) ∧ (¬ 7 < x2 → (OkI M6_slot [mI x1, mI x2] h (fun v1 h1 => (0 ≤ v1 ∧ v1 < 32) ∧ (∀ h2 : mH, h2 = mSet h1 14 b v1 0 → ((0 ≤ v1 ∧ v1 < 32) ∧ (∀ h3 : mH, h3 = mSet h2 15 b v1 0 → ((0 ≤ v1 ∧ v1 < 32) ∧ (∀ h4 : mH, h4 = mSet h3 16 b v1 0 → ((0 ≤ v1 ∧ v1 < 32) ∧ (∀ h5 : mH, h5 = mSet h4 17 b v1 0 → (A2_gather_2 K b x1 (x2 + 1) h5)))))))))))) : A2_gather_2 K b x1 x2 h := by
  refine mw_iload_n (dT d2_gather 2 rfl) rfl ?_
  refine mw_bipush (by decide) (dT d2_gather 3 rfl) ?_
  obtain ⟨z, T1, T2⟩ := T
  refine mw_icmp_gt 48 (dT d2_gather 4 rfl) (by decide) ⟨z, by decide⟩ (fun z => ?_) (fun z => ?_)
  · have T := T1 z
    refine mw_iconst (dT d2_gather 31 rfl) ?_
    refine mw_istore_n (dT d2_gather 32 rfl) (by decide) ?_
    exact T
  · have T := T2 z
    refine mw_iload_n (dT d2_gather 5 rfl) rfl ?_
    refine mw_iload_n (dT d2_gather 6 rfl) rfl ?_
    refine mw_callNI mt_6_slot (host := "RateOffice") (by decide) (by decide) (dT d2_gather 7 rfl) (as := [mI _, mI _]) rfl rfl T (fun v1 h1 T => ?_)
    refine mw_istore_n (dT d2_gather 8 rfl) (by decide) ?_
    refine mw_aload_n (dT d2_gather 9 rfl) rfl (by decide) ?_
    refine mw_getR fl_X2_15 (dT d2_gather 10 rfl) ?_
    refine mw_iload_n (dT d2_gather 11 rfl) rfl ?_
    refine mw_lconst (dT d2_gather 12 rfl) ?_
    obtain ⟨z, T⟩ := T
    have T := T _ rfl
    refine mw_lastore ro_14 (dT d2_gather 13 rfl) z ?_
    refine mw_aload_n (dT d2_gather 14 rfl) rfl (by decide) ?_
    refine mw_getR fl_X2_18 (dT d2_gather 15 rfl) ?_
    refine mw_iload_n (dT d2_gather 16 rfl) rfl ?_
    refine mw_lconst (dT d2_gather 17 rfl) ?_
    obtain ⟨z, T⟩ := T
    have T := T _ rfl
    refine mw_lastore ro_15 (dT d2_gather 18 rfl) z ?_
    refine mw_aload_n (dT d2_gather 19 rfl) rfl (by decide) ?_
    refine mw_getR fl_X2_21 (dT d2_gather 20 rfl) ?_
    refine mw_iload_n (dT d2_gather 21 rfl) rfl ?_
    refine mw_lconst (dT d2_gather 22 rfl) ?_
    obtain ⟨z, T⟩ := T
    have T := T _ rfl
    refine mw_lastore ro_16 (dT d2_gather 23 rfl) z ?_
    refine mw_aload_n (dT d2_gather 24 rfl) rfl (by decide) ?_
    refine mw_getR fl_X2_24 (dT d2_gather 25 rfl) ?_
    refine mw_iload_n (dT d2_gather 26 rfl) rfl ?_
    refine mw_iconst (dT d2_gather 27 rfl) ?_
    obtain ⟨z, T⟩ := T
    have T := T _ rfl
    refine mw_iastore ro_17 (dT d2_gather 28 rfl) z ?_
    refine mw_iinc (dT d2_gather 29 rfl) rfl (by decide) ?_
    refine mw_goto 2 (dT d2_gather 30 rfl) (by decide) ?_
    exact At.forget [3] T
theorem s2_gather_50 {K : mH → Prop} {b : Int} {x1 x2 : Int} {h : mH} (T : (mInR x2 ∧ mInR (h 1 b 0)) ∧ ((h 1 b 0) ≤ x2 → (A2_gather_150 K b x1 5 h)) ∧ (¬ (h 1 b 0) ≤ x2 → ((0 ≤ x2 ∧ x2 < 40) ∧ (OkI M6_levelIn [mI (h 5 b x2), mI x1] h (fun v1 h1 => OkI M6_slot [mI x1, mI v1] h1 (fun v2 h2 => (0 ≤ v2 ∧ v2 < 32) ∧ ((0 ≤ x2 ∧ x2 < 40) ∧ ((mInR (h2 3 b x2)) ∧ ((0 ≤ v2 ∧ v2 < 32) ∧ (∀ h3 : mH, h3 = mSet h2 14 b v2 ((h2 14 b v2) + (h2 3 b x2)) → ((0 ≤ v2 ∧ v2 < 32) ∧ ((0 ≤ x2 ∧ x2 < 40) ∧ ((0 ≤ v2 ∧ v2 < 32) ∧ (∀ h4 : mH, h4 = mSet h3 15 b v2 ((h3 15 b v2) + (h3 13 b x2)) → ((0 ≤ v2 ∧ v2 < 32) ∧ ((0 ≤ x2 ∧ x2 < 40) ∧ ((mInR (h4 2 b x2)) ∧ ((0 ≤ v2 ∧ v2 < 32) ∧ (∀ h5 : mH, h5 = mSet h4 16 b v2 ((h4 16 b v2) + (h4 2 b x2)) → ((0 ≤ v2 ∧ v2 < 32) ∧ ((0 ≤ v2 ∧ v2 < 32) ∧ (∀ h6 : mH, h6 = mSet h5 17 b v2 ((h5 17 b v2) + 1) → (A2_gather_50 K b x1 (x2 + 1) h6))))))))))))))))))))))) : A2_gather_50 K b x1 x2 h := by
  refine mw_iload_n (dT d2_gather 33 rfl) rfl ?_
  refine mw_aload_n (dT d2_gather 34 rfl) rfl (by decide) ?_
  refine mw_getR fl_X2_32 (dT d2_gather 35 rfl) ?_
  refine mw_getI fl_X2_78 (dT d2_gather 36 rfl) ?_
  obtain ⟨z, T1, T2⟩ := T
  refine mw_icmp_ge 148 (dT d2_gather 37 rfl) (by decide) z (fun z => ?_) (fun z => ?_)
  · have T := T1 z
    refine mw_iconst (dT d2_gather 95 rfl) ?_
    refine mw_istore_n (dT d2_gather 96 rfl) (by decide) ?_
    exact T
  · have T := T2 z
    refine mw_iload_n (dT d2_gather 38 rfl) rfl ?_
    refine mw_aload_n (dT d2_gather 39 rfl) rfl (by decide) ?_
    refine mw_getR fl_X2_32 (dT d2_gather 40 rfl) ?_
    refine mw_getR fl_X2_71 (dT d2_gather 41 rfl) ?_
    refine mw_iload_n (dT d2_gather 42 rfl) rfl ?_
    obtain ⟨z, T⟩ := T
    refine mw_iaload ro_5 (dT d2_gather 43 rfl) z ?_
    refine mw_iload_n (dT d2_gather 44 rfl) rfl ?_
    refine mw_callNI mt_6_levelIn (host := "RateOffice") (by decide) (by decide) (dT d2_gather 45 rfl) (as := [mI _, mI _]) rfl rfl T (fun v1 h1 T => ?_)
    refine mw_callNI mt_6_slot (host := "RateOffice") (by decide) (by decide) (dT d2_gather 46 rfl) (as := [mI _, mI _]) rfl rfl T (fun v2 h2 T => ?_)
    refine mw_istore_n (dT d2_gather 47 rfl) (by decide) ?_
    refine mw_aload_n (dT d2_gather 48 rfl) rfl (by decide) ?_
    refine mw_getR fl_X2_15 (dT d2_gather 49 rfl) ?_
    refine mw_iload_n (dT d2_gather 50 rfl) rfl ?_
    refine mw_dup2 (dT d2_gather 51 rfl) (fun _ z => by cases z) (fun _ z => by cases z) ?_
    obtain ⟨z, T⟩ := T
    refine mw_laload ro_14 (dT d2_gather 52 rfl) z ?_
    refine mw_aload_n (dT d2_gather 53 rfl) rfl (by decide) ?_
    refine mw_getR fl_X2_32 (dT d2_gather 54 rfl) ?_
    refine mw_getR fl_X2_95 (dT d2_gather 55 rfl) ?_
    refine mw_iload_n (dT d2_gather 56 rfl) rfl ?_
    obtain ⟨z, T⟩ := T
    refine mw_iaload ro_3 (dT d2_gather 57 rfl) z ?_
    obtain ⟨z, T⟩ := T
    refine mw_i2l (dT d2_gather 58 rfl) z ?_
    refine mw_ladd (dT d2_gather 59 rfl) ?_
    obtain ⟨z, T⟩ := T
    have T := T _ rfl
    refine mw_lastore ro_14 (dT d2_gather 60 rfl) z ?_
    refine mw_aload_n (dT d2_gather 61 rfl) rfl (by decide) ?_
    refine mw_getR fl_X2_18 (dT d2_gather 62 rfl) ?_
    refine mw_iload_n (dT d2_gather 63 rfl) rfl ?_
    refine mw_dup2 (dT d2_gather 64 rfl) (fun _ z => by cases z) (fun _ z => by cases z) ?_
    obtain ⟨z, T⟩ := T
    refine mw_laload ro_15 (dT d2_gather 65 rfl) z ?_
    refine mw_aload_n (dT d2_gather 66 rfl) rfl (by decide) ?_
    refine mw_getR fl_X2_9 (dT d2_gather 67 rfl) ?_
    refine mw_iload_n (dT d2_gather 68 rfl) rfl ?_
    obtain ⟨z, T⟩ := T
    refine mw_laload ro_13 (dT d2_gather 69 rfl) z ?_
    refine mw_ladd (dT d2_gather 70 rfl) ?_
    obtain ⟨z, T⟩ := T
    have T := T _ rfl
    refine mw_lastore ro_15 (dT d2_gather 71 rfl) z ?_
    refine mw_aload_n (dT d2_gather 72 rfl) rfl (by decide) ?_
    refine mw_getR fl_X2_21 (dT d2_gather 73 rfl) ?_
    refine mw_iload_n (dT d2_gather 74 rfl) rfl ?_
    refine mw_dup2 (dT d2_gather 75 rfl) (fun _ z => by cases z) (fun _ z => by cases z) ?_
    obtain ⟨z, T⟩ := T
    refine mw_laload ro_16 (dT d2_gather 76 rfl) z ?_
    refine mw_aload_n (dT d2_gather 77 rfl) rfl (by decide) ?_
    refine mw_getR fl_X2_32 (dT d2_gather 78 rfl) ?_
    refine mw_getR fl_X2_68 (dT d2_gather 79 rfl) ?_
    refine mw_iload_n (dT d2_gather 80 rfl) rfl ?_
    obtain ⟨z, T⟩ := T
    refine mw_iaload ro_2 (dT d2_gather 81 rfl) z ?_
    obtain ⟨z, T⟩ := T
    refine mw_i2l (dT d2_gather 82 rfl) z ?_
    refine mw_ladd (dT d2_gather 83 rfl) ?_
    obtain ⟨z, T⟩ := T
    have T := T _ rfl
    refine mw_lastore ro_16 (dT d2_gather 84 rfl) z ?_
    refine mw_aload_n (dT d2_gather 85 rfl) rfl (by decide) ?_
    refine mw_getR fl_X2_24 (dT d2_gather 86 rfl) ?_
    refine mw_iload_n (dT d2_gather 87 rfl) rfl ?_
    refine mw_dup2 (dT d2_gather 88 rfl) (fun _ z => by cases z) (fun _ z => by cases z) ?_
    obtain ⟨z, T⟩ := T
    refine mw_iaload ro_17 (dT d2_gather 89 rfl) z ?_
    refine mw_iconst (dT d2_gather 90 rfl) ?_
    refine mw_iadd (dT d2_gather 91 rfl) ?_
    obtain ⟨z, T⟩ := T
    have T := T _ rfl
    refine mw_iastore ro_17 (dT d2_gather 92 rfl) z ?_
    refine mw_iinc (dT d2_gather 93 rfl) rfl (by decide) ?_
    refine mw_goto 50 (dT d2_gather 94 rfl) (by decide) ?_
    exact At.forget [3] T
theorem s2_gather_150 {K : mH → Prop} {b : Int} {x1 x2 : Int} {h : mH} (T : (mInR x2) ∧ (x2 ≤ 0 → (K h)) ∧ (¬ x2 ≤ 0 → (OkI M0_isJoined [mR 1 b, mI x1, mI (x2 - 1)] h (fun v1 h1 => (mInR v1) ∧ (v1 = 0 → (A2_gather_150 K b x1 (x2 + (-1)) h1)) ∧ (¬ v1 = 0 → (OkI M6_slot [mI x1, mI x2] h1 (fun v2 h2 => OkV M2_addToLower [mR 12 b, mI v2] h2 (fun h3 => A2_gather_150 K b x1 (x2 + (-1)) h3)))))))) : A2_gather_150 K b x1 x2 h := by
  refine mw_iload_n (dT d2_gather 97 rfl) rfl ?_
  obtain ⟨z, T1, T2⟩ := T
  refine mw_if_le 183 (dT d2_gather 98 rfl) (by decide) z (fun z => ?_) (fun z => ?_)
  · have T := T1 z
    exact mw_vret rfl (dT d2_gather 114 rfl) ⟨rfl, T⟩
  · have T := T2 z
    refine mw_aload_n (dT d2_gather 99 rfl) rfl (by decide) ?_
    refine mw_getR fl_X2_32 (dT d2_gather 100 rfl) ?_
    refine mw_iload_n (dT d2_gather 101 rfl) rfl ?_
    refine mw_iload_n (dT d2_gather 102 rfl) rfl ?_
    refine mw_iconst (dT d2_gather 103 rfl) ?_
    refine mw_isub (dT d2_gather 104 rfl) ?_
    refine mw_callVI mv_0_isJoined ml_X2_98 (by decide) (dT d2_gather 105 rfl) (as := [mI _, mI _]) rfl rfl T (fun v1 h1 T => ?_)
    obtain ⟨z, T1, T2⟩ := T
    refine mw_if_eq 177 (dT d2_gather 106 rfl) (by decide) z (fun z => ?_) (fun z => ?_)
    · have T := T1 z
      refine mw_iinc (dT d2_gather 112 rfl) rfl (by decide) ?_
      refine mw_goto 150 (dT d2_gather 113 rfl) (by decide) ?_
      exact T
    · have T := T2 z
      refine mw_aload_n (dT d2_gather 107 rfl) rfl (by decide) ?_
      refine mw_iload_n (dT d2_gather 108 rfl) rfl ?_
      refine mw_iload_n (dT d2_gather 109 rfl) rfl ?_
      refine mw_callNI mt_6_slot (host := "RateOffice") (by decide) (by decide) (dT d2_gather 110 rfl) (as := [mI _, mI _]) rfl rfl T (fun v2 h2 T => ?_)
      refine mw_callVV mv_2_addToLower ml_X2_102 (by decide) (dT d2_gather 111 rfl) (as := [mI _]) rfl rfl T (fun h3 T => ?_)
      refine mw_iinc (dT d2_gather 112 rfl) rfl (by decide) ?_
      refine mw_goto 150 (dT d2_gather 113 rfl) (by decide) ?_
      exact T
theorem s2_gather {K : mH → Prop} {b : Int} {x1 : Int} {h : mH} (T : A2_gather_2 K b x1 0 h) : OkV M2_gather [mR 12 b, mI x1] h K := by
  refine Ok.of rfl (n := 2) rfl ?_
  show At (mPV K) M2_gather 0 [mR 12 b, mI x1, mU, mU] [] h
  refine mw_iconst (dT d2_gather 0 rfl) ?_
  refine mw_istore_n (dT d2_gather 1 rfl) (by decide) ?_
  exact T
theorem s2_addToLower {K : mH → Prop} {b : Int} {x1 : Int} {h : mH} (T : (mInR x1) ∧ (x1 ≤ 0 → (K h)) ∧ (¬ x1 ≤ 0 → ((0 ≤ (x1 - 1) ∧ (x1 - 1) < 32) ∧ ((0 ≤ x1 ∧ x1 < 32) ∧ ((0 ≤ (x1 - 1) ∧ (x1 - 1) < 32) ∧ (∀ h1 : mH, h1 = mSet h 14 b (x1 - 1) ((h 14 b (x1 - 1)) + (h 14 b x1)) → ((0 ≤ (x1 - 1) ∧ (x1 - 1) < 32) ∧ ((0 ≤ x1 ∧ x1 < 32) ∧ ((0 ≤ (x1 - 1) ∧ (x1 - 1) < 32) ∧ (∀ h2 : mH, h2 = mSet h1 15 b (x1 - 1) ((h1 15 b (x1 - 1)) + (h1 15 b x1)) → ((0 ≤ (x1 - 1) ∧ (x1 - 1) < 32) ∧ ((0 ≤ x1 ∧ x1 < 32) ∧ ((0 ≤ (x1 - 1) ∧ (x1 - 1) < 32) ∧ (∀ h3 : mH, h3 = mSet h2 16 b (x1 - 1) ((h2 16 b (x1 - 1)) + (h2 16 b x1)) → ((0 ≤ (x1 - 1) ∧ (x1 - 1) < 32) ∧ ((0 ≤ x1 ∧ x1 < 32) ∧ ((0 ≤ (x1 - 1) ∧ (x1 - 1) < 32) ∧ (∀ h4 : mH, h4 = mSet h3 17 b (x1 - 1) ((h3 17 b (x1 - 1)) + (h3 17 b x1)) → (K h4))))))))))))))))))) : OkV M2_addToLower [mR 12 b, mI x1] h K := by
  refine Ok.of rfl (n := 0) rfl ?_
  show At (mPV K) M2_addToLower 0 [mR 12 b, mI x1] [] h
  refine mw_iload_n (dT d2_addToLower 0 rfl) rfl ?_
  obtain ⟨z, T1, T2⟩ := T
  refine mw_if_le 72 (dT d2_addToLower 1 rfl) (by decide) z (fun z => ?_) (fun z => ?_)
  · have T := T1 z
    exact mw_vret rfl (dT d2_addToLower 54 rfl) ⟨rfl, T⟩
  · have T := T2 z
    refine mw_aload_n (dT d2_addToLower 2 rfl) rfl (by decide) ?_
    refine mw_getR fl_X2_15 (dT d2_addToLower 3 rfl) ?_
    refine mw_iload_n (dT d2_addToLower 4 rfl) rfl ?_
    refine mw_iconst (dT d2_addToLower 5 rfl) ?_
    refine mw_isub (dT d2_addToLower 6 rfl) ?_
    refine mw_dup2 (dT d2_addToLower 7 rfl) (fun _ z => by cases z) (fun _ z => by cases z) ?_
    obtain ⟨z, T⟩ := T
    refine mw_laload ro_14 (dT d2_addToLower 8 rfl) z ?_
    refine mw_aload_n (dT d2_addToLower 9 rfl) rfl (by decide) ?_
    refine mw_getR fl_X2_15 (dT d2_addToLower 10 rfl) ?_
    refine mw_iload_n (dT d2_addToLower 11 rfl) rfl ?_
    obtain ⟨z, T⟩ := T
    refine mw_laload ro_14 (dT d2_addToLower 12 rfl) z ?_
    refine mw_ladd (dT d2_addToLower 13 rfl) ?_
    obtain ⟨z, T⟩ := T
    have T := T _ rfl
    refine mw_lastore ro_14 (dT d2_addToLower 14 rfl) z ?_
    refine mw_aload_n (dT d2_addToLower 15 rfl) rfl (by decide) ?_
    refine mw_getR fl_X2_18 (dT d2_addToLower 16 rfl) ?_
    refine mw_iload_n (dT d2_addToLower 17 rfl) rfl ?_
    refine mw_iconst (dT d2_addToLower 18 rfl) ?_
    refine mw_isub (dT d2_addToLower 19 rfl) ?_
    refine mw_dup2 (dT d2_addToLower 20 rfl) (fun _ z => by cases z) (fun _ z => by cases z) ?_
    obtain ⟨z, T⟩ := T
    refine mw_laload ro_15 (dT d2_addToLower 21 rfl) z ?_
    refine mw_aload_n (dT d2_addToLower 22 rfl) rfl (by decide) ?_
    refine mw_getR fl_X2_18 (dT d2_addToLower 23 rfl) ?_
    refine mw_iload_n (dT d2_addToLower 24 rfl) rfl ?_
    obtain ⟨z, T⟩ := T
    refine mw_laload ro_15 (dT d2_addToLower 25 rfl) z ?_
    refine mw_ladd (dT d2_addToLower 26 rfl) ?_
    obtain ⟨z, T⟩ := T
    have T := T _ rfl
    refine mw_lastore ro_15 (dT d2_addToLower 27 rfl) z ?_
    refine mw_aload_n (dT d2_addToLower 28 rfl) rfl (by decide) ?_
    refine mw_getR fl_X2_21 (dT d2_addToLower 29 rfl) ?_
    refine mw_iload_n (dT d2_addToLower 30 rfl) rfl ?_
    refine mw_iconst (dT d2_addToLower 31 rfl) ?_
    refine mw_isub (dT d2_addToLower 32 rfl) ?_
    refine mw_dup2 (dT d2_addToLower 33 rfl) (fun _ z => by cases z) (fun _ z => by cases z) ?_
    obtain ⟨z, T⟩ := T
    refine mw_laload ro_16 (dT d2_addToLower 34 rfl) z ?_
    refine mw_aload_n (dT d2_addToLower 35 rfl) rfl (by decide) ?_
    refine mw_getR fl_X2_21 (dT d2_addToLower 36 rfl) ?_
    refine mw_iload_n (dT d2_addToLower 37 rfl) rfl ?_
    obtain ⟨z, T⟩ := T
    refine mw_laload ro_16 (dT d2_addToLower 38 rfl) z ?_
    refine mw_ladd (dT d2_addToLower 39 rfl) ?_
    obtain ⟨z, T⟩ := T
    have T := T _ rfl
    refine mw_lastore ro_16 (dT d2_addToLower 40 rfl) z ?_
    refine mw_aload_n (dT d2_addToLower 41 rfl) rfl (by decide) ?_
    refine mw_getR fl_X2_24 (dT d2_addToLower 42 rfl) ?_
    refine mw_iload_n (dT d2_addToLower 43 rfl) rfl ?_
    refine mw_iconst (dT d2_addToLower 44 rfl) ?_
    refine mw_isub (dT d2_addToLower 45 rfl) ?_
    refine mw_dup2 (dT d2_addToLower 46 rfl) (fun _ z => by cases z) (fun _ z => by cases z) ?_
    obtain ⟨z, T⟩ := T
    refine mw_iaload ro_17 (dT d2_addToLower 47 rfl) z ?_
    refine mw_aload_n (dT d2_addToLower 48 rfl) rfl (by decide) ?_
    refine mw_getR fl_X2_24 (dT d2_addToLower 49 rfl) ?_
    refine mw_iload_n (dT d2_addToLower 50 rfl) rfl ?_
    obtain ⟨z, T⟩ := T
    refine mw_iaload ro_17 (dT d2_addToLower 51 rfl) z ?_
    refine mw_iadd (dT d2_addToLower 52 rfl) ?_
    obtain ⟨z, T⟩ := T
    have T := T _ rfl
    refine mw_iastore ro_17 (dT d2_addToLower 53 rfl) z ?_
    exact mw_vret rfl (dT d2_addToLower 54 rfl) ⟨rfl, T⟩
theorem s2_differsBy {K : Int → mH → Prop} {b : Int} {x1 : Int} {h : mH} (T : (0 ≤ x1 ∧ x1 < 32) ∧ ((0 ≤ x1 ∧ x1 < 32) ∧ ((mInL ((h 14 b x1) - (h 15 b x1))) ∧ (K (mAbs ((h 14 b x1) - (h 15 b x1))) h)))) : OkJ M2_differsBy [mR 12 b, mI x1] h K := by
  refine Ok.of rfl (n := 0) rfl ?_
  show At (mPJ K) M2_differsBy 0 [mR 12 b, mI x1] [] h
  refine mw_aload_n (dT d2_differsBy 0 rfl) rfl (by decide) ?_
  refine mw_getR fl_X2_15 (dT d2_differsBy 1 rfl) ?_
  refine mw_iload_n (dT d2_differsBy 2 rfl) rfl ?_
  obtain ⟨z, T⟩ := T
  refine mw_laload ro_14 (dT d2_differsBy 3 rfl) z ?_
  refine mw_aload_n (dT d2_differsBy 4 rfl) rfl (by decide) ?_
  refine mw_getR fl_X2_18 (dT d2_differsBy 5 rfl) ?_
  refine mw_iload_n (dT d2_differsBy 6 rfl) rfl ?_
  obtain ⟨z, T⟩ := T
  refine mw_laload ro_15 (dT d2_differsBy 7 rfl) z ?_
  refine mw_lsub (dT d2_differsBy 8 rfl) ?_
  obtain ⟨z, T⟩ := T
  refine mw_absL mm_X2_105 (by decide) (dT d2_differsBy 9 rfl) rfl z ?_
  exact mw_lret rfl (dT d2_differsBy 10 rfl) ⟨_, rfl, T⟩
abbrev A2_balances_86 (K : Int → mH → Prop) (b : Int) (x1 x2 x3 x4 : Int) (h : mH) : Prop := At (mPI K) M2_balances 86 [mR 12 b, mI x1, mI x2, mI x3, mI x4] [] h
theorem s2_balances_86 {K : Int → mH → Prop} {b : Int} {x1 x2 x3 x4 : Int} {h : mH} (T : (0 ≤ x1 ∧ x1 < 4) ∧ ((mInR x4 ∧ mInR (h 11 0 x1)) ∧ (¬ x4 = (h 11 0 x1) → (K 0 h)) ∧ (x4 = (h 11 0 x1) → ((0 ≤ x3 ∧ x3 < 32) ∧ ((0 ≤ x3 ∧ x3 < 32) ∧ ((mInL (h 15 b x3) ∧ mInL (h 14 b x3)) ∧ ((h 14 b x3) ≤ (h 15 b x3) → (K 0 h)) ∧ (¬ (h 14 b x3) ≤ (h 15 b x3) → (K 1 h)))))))) : A2_balances_86 K b x1 x2 x3 x4 h := by
  refine mw_iload (dT d2_balances 50 rfl) rfl ?_
  refine mw_aload_n (dT d2_balances 51 rfl) rfl (by decide) ?_
  refine mw_getR fl_X2_28 (dT d2_balances 52 rfl) ?_
  refine mw_getR fl_X2_121 (dT d2_balances 53 rfl) ?_
  refine mw_iload_n (dT d2_balances 54 rfl) rfl ?_
  obtain ⟨z, T⟩ := T
  refine mw_iaload ro_11 (dT d2_balances 55 rfl) z ?_
  obtain ⟨z, T1, T2⟩ := T
  refine mw_icmp_ne 120 (dT d2_balances 56 rfl) (by decide) z (fun z => ?_) (fun z => ?_)
  · have T := T1 z
    refine mw_iconst (dT d2_balances 69 rfl) ?_
    exact mw_zret rfl (dT d2_balances 70 rfl) (Or.inl rfl) ⟨_, rfl, T⟩
  · have T := T2 z
    refine mw_aload_n (dT d2_balances 57 rfl) rfl (by decide) ?_
    refine mw_getR fl_X2_18 (dT d2_balances 58 rfl) ?_
    refine mw_iload_n (dT d2_balances 59 rfl) rfl ?_
    obtain ⟨z, T⟩ := T
    refine mw_laload ro_15 (dT d2_balances 60 rfl) z ?_
    refine mw_aload_n (dT d2_balances 61 rfl) rfl (by decide) ?_
    refine mw_getR fl_X2_15 (dT d2_balances 62 rfl) ?_
    refine mw_iload_n (dT d2_balances 63 rfl) rfl ?_
    obtain ⟨z, T⟩ := T
    refine mw_laload ro_14 (dT d2_balances 64 rfl) z ?_
    obtain ⟨z, T1, T2⟩ := T
    refine mw_lif_ge 120 (dT d2_balances 65 rfl) (dT d2_balances 66 rfl) (by decide) z (fun z => ?_) (fun z => ?_)
    · have T := T1 z
      refine mw_iconst (dT d2_balances 69 rfl) ?_
      exact mw_zret rfl (dT d2_balances 70 rfl) (Or.inl rfl) ⟨_, rfl, T⟩
    · have T := T2 z
      refine mw_iconst (dT d2_balances 67 rfl) ?_
      refine mw_goto 121 (dT d2_balances 68 rfl) (by decide) ?_
      exact mw_zret rfl (dT d2_balances 70 rfl) (Or.inr rfl) ⟨_, rfl, T⟩
theorem s2_balances {K : Int → mH → Prop} {b : Int} {x1 : Int} {x2 : Int} {h : mH} (T : OkI M6_slot [mI x1, mI x2] h (fun v1 h1 => (0 ≤ v1 ∧ v1 < 32) ∧ ((mInR (h1 17 b v1)) ∧ ((h1 17 b v1) = 0 → (K 1 h1)) ∧ (¬ (h1 17 b v1) = 0 → (OkJ M2_differsBy [mR 12 b, mI v1] h1 (fun v2 h2 => (mInR (h2 7 0 1)) ∧ ((0 ≤ v1 ∧ v1 < 32) ∧ ((mInL (v2 * 1000) ∧ mInL ((h2 7 0 1) * (h2 14 b v1))) ∧ (((h2 7 0 1) * (h2 14 b v1)) < (v2 * 1000) → ((0 ≤ v1 ∧ v1 < 32) ∧ ((0 ≤ x1 ∧ x1 < 4) ∧ ((mInR (h2 6 b v1) ∧ mInR (h2 10 0 x1)) ∧ (¬ (h2 6 b v1) = (h2 10 0 x1) → (A2_balances_86 K b x1 x2 v1 (h2 6 b v1) h2)) ∧ ((h2 6 b v1) = (h2 10 0 x1) → ((0 ≤ v1 ∧ v1 < 32) ∧ ((0 ≤ v1 ∧ v1 < 32) ∧ ((mInL (h2 15 b v1) ∧ mInL (h2 14 b v1)) ∧ ((h2 14 b v1) < (h2 15 b v1) → (K 1 h2)) ∧ (¬ (h2 14 b v1) < (h2 15 b v1) → (A2_balances_86 K b x1 x2 v1 (h2 6 b v1) h2)))))))))) ∧ (¬ ((h2 7 0 1) * (h2 14 b v1)) < (v2 * 1000) → (K 1 h2)))))))))) : OkI M2_balances [mR 12 b, mI x1, mI x2] h K := by
  refine Ok.of rfl (n := 2) rfl ?_
  show At (mPI K) M2_balances 0 [mR 12 b, mI x1, mI x2, mU, mU] [] h
  refine mw_iload_n (dT d2_balances 0 rfl) rfl ?_
  refine mw_iload_n (dT d2_balances 1 rfl) rfl ?_
  refine mw_callNI mt_6_slot (host := "RateOffice") (by decide) (by decide) (dT d2_balances 2 rfl) (as := [mI _, mI _]) rfl rfl T (fun v1 h1 T => ?_)
  refine mw_istore_n (dT d2_balances 3 rfl) (by decide) ?_
  refine mw_aload_n (dT d2_balances 4 rfl) rfl (by decide) ?_
  refine mw_getR fl_X2_24 (dT d2_balances 5 rfl) ?_
  refine mw_iload_n (dT d2_balances 6 rfl) rfl ?_
  obtain ⟨z, T⟩ := T
  refine mw_iaload ro_17 (dT d2_balances 7 rfl) z ?_
  obtain ⟨z, T1, T2⟩ := T
  refine mw_if_eq 43 (dT d2_balances 8 rfl) (by decide) z (fun z => ?_) (fun z => ?_)
  · have T := T1 z
    refine mw_iconst (dT d2_balances 25 rfl) ?_
    exact mw_zret rfl (dT d2_balances 26 rfl) (Or.inr rfl) ⟨_, rfl, T⟩
  · have T := T2 z
    refine mw_aload_n (dT d2_balances 9 rfl) rfl (by decide) ?_
    refine mw_iload_n (dT d2_balances 10 rfl) rfl ?_
    refine mw_callVJ mv_2_differsBy ml_X2_111 (by decide) (dT d2_balances 11 rfl) (as := [mI _]) rfl rfl T (fun v2 h2 T => ?_)
    refine mw_ldc2 kl_X2_62 (dT d2_balances 12 rfl) ?_
    refine mw_lmul (dT d2_balances 13 rfl) ?_
    refine mw_aload_n (dT d2_balances 14 rfl) rfl (by decide) ?_
    refine mw_getR fl_X2_28 (dT d2_balances 15 rfl) ?_
    refine mw_getI fl_X2_115 (dT d2_balances 16 rfl) ?_
    obtain ⟨z, T⟩ := T
    refine mw_i2l (dT d2_balances 17 rfl) z ?_
    refine mw_aload_n (dT d2_balances 18 rfl) rfl (by decide) ?_
    refine mw_getR fl_X2_15 (dT d2_balances 19 rfl) ?_
    refine mw_iload_n (dT d2_balances 20 rfl) rfl ?_
    obtain ⟨z, T⟩ := T
    refine mw_laload ro_14 (dT d2_balances 21 rfl) z ?_
    refine mw_lmul (dT d2_balances 22 rfl) ?_
    obtain ⟨z, T1, T2⟩ := T
    refine mw_lif_gt 45 (dT d2_balances 23 rfl) (dT d2_balances 24 rfl) (by decide) z (fun z => ?_) (fun z => ?_)
    · have T := T1 z
      refine mw_aload_n (dT d2_balances 27 rfl) rfl (by decide) ?_
      refine mw_getR fl_X2_32 (dT d2_balances 28 rfl) ?_
      refine mw_getR fl_X2_42 (dT d2_balances 29 rfl) ?_
      refine mw_iload_n (dT d2_balances 30 rfl) rfl ?_
      obtain ⟨z, T⟩ := T
      refine mw_iaload ro_6 (dT d2_balances 31 rfl) z ?_
      refine mw_istore (dT d2_balances 32 rfl) (by decide) ?_
      refine mw_iload (dT d2_balances 33 rfl) rfl ?_
      refine mw_aload_n (dT d2_balances 34 rfl) rfl (by decide) ?_
      refine mw_getR fl_X2_28 (dT d2_balances 35 rfl) ?_
      refine mw_getR fl_X2_118 (dT d2_balances 36 rfl) ?_
      refine mw_iload_n (dT d2_balances 37 rfl) rfl ?_
      obtain ⟨z, T⟩ := T
      refine mw_iaload ro_10 (dT d2_balances 38 rfl) z ?_
      obtain ⟨z, T1, T2⟩ := T
      refine mw_icmp_ne 86 (dT d2_balances 39 rfl) (by decide) z (fun z => ?_) (fun z => ?_)
      · have T := T1 z
        exact T
      · have T := T2 z
        refine mw_aload_n (dT d2_balances 40 rfl) rfl (by decide) ?_
        refine mw_getR fl_X2_18 (dT d2_balances 41 rfl) ?_
        refine mw_iload_n (dT d2_balances 42 rfl) rfl ?_
        obtain ⟨z, T⟩ := T
        refine mw_laload ro_15 (dT d2_balances 43 rfl) z ?_
        refine mw_aload_n (dT d2_balances 44 rfl) rfl (by decide) ?_
        refine mw_getR fl_X2_15 (dT d2_balances 45 rfl) ?_
        refine mw_iload_n (dT d2_balances 46 rfl) rfl ?_
        obtain ⟨z, T⟩ := T
        refine mw_laload ro_14 (dT d2_balances 47 rfl) z ?_
        obtain ⟨z, T1, T2⟩ := T
        refine mw_lif_gt 116 (dT d2_balances 48 rfl) (dT d2_balances 49 rfl) (by decide) z (fun z => ?_) (fun z => ?_)
        · have T := T1 z
          refine mw_iconst (dT d2_balances 67 rfl) ?_
          refine mw_goto 121 (dT d2_balances 68 rfl) (by decide) ?_
          exact mw_zret rfl (dT d2_balances 70 rfl) (Or.inr rfl) ⟨_, rfl, T⟩
        · have T := T2 z
          exact T
    · have T := T2 z
      refine mw_iconst (dT d2_balances 25 rfl) ?_
      exact mw_zret rfl (dT d2_balances 26 rfl) (Or.inr rfl) ⟨_, rfl, T⟩
theorem s2_isOff {K : Int → mH → Prop} {b : Int} {x1 : Int} {x2 : Int} {h : mH} (T : OkI M0_startsClass [mR 1 b, mI x1, mI x2] h (fun v1 h1 => (mInR v1) ∧ (v1 = 0 → (K 0 h1)) ∧ (¬ v1 = 0 → (OkI M2_balances [mR 12 b, mI x1, mI x2] h1 (fun v2 h2 => (mInR v2) ∧ (¬ v2 = 0 → (K 0 h2)) ∧ (v2 = 0 → (K 1 h2))))))) : OkI M2_isOff [mR 12 b, mI x1, mI x2] h K := by
  refine Ok.of rfl (n := 0) rfl ?_
  show At (mPI K) M2_isOff 0 [mR 12 b, mI x1, mI x2] [] h
  refine mw_aload_n (dT d2_isOff 0 rfl) rfl (by decide) ?_
  refine mw_getR fl_X2_32 (dT d2_isOff 1 rfl) ?_
  refine mw_iload_n (dT d2_isOff 2 rfl) rfl ?_
  refine mw_iload_n (dT d2_isOff 3 rfl) rfl ?_
  refine mw_callVI mv_0_startsClass ml_X2_124 (by decide) (dT d2_isOff 4 rfl) (as := [mI _, mI _]) rfl rfl T (fun v1 h1 T => ?_)
  obtain ⟨z, T1, T2⟩ := T
  refine mw_if_eq 25 (dT d2_isOff 5 rfl) (by decide) z (fun z => ?_) (fun z => ?_)
  · have T := T1 z
    refine mw_iconst (dT d2_isOff 13 rfl) ?_
    exact mw_zret rfl (dT d2_isOff 14 rfl) (Or.inl rfl) ⟨_, rfl, T⟩
  · have T := T2 z
    refine mw_aload_n (dT d2_isOff 6 rfl) rfl (by decide) ?_
    refine mw_iload_n (dT d2_isOff 7 rfl) rfl ?_
    refine mw_iload_n (dT d2_isOff 8 rfl) rfl ?_
    refine mw_callVI mv_2_balances ml_X2_127 (by decide) (dT d2_isOff 9 rfl) (as := [mI _, mI _]) rfl rfl T (fun v2 h2 T => ?_)
    obtain ⟨z, T1, T2⟩ := T
    refine mw_if_ne 25 (dT d2_isOff 10 rfl) (by decide) z (fun z => ?_) (fun z => ?_)
    · have T := T1 z
      refine mw_iconst (dT d2_isOff 13 rfl) ?_
      exact mw_zret rfl (dT d2_isOff 14 rfl) (Or.inl rfl) ⟨_, rfl, T⟩
    · have T := T2 z
      refine mw_iconst (dT d2_isOff 11 rfl) ?_
      refine mw_goto 26 (dT d2_isOff 12 rfl) (by decide) ?_
      exact mw_zret rfl (dT d2_isOff 14 rfl) (Or.inr rfl) ⟨_, rfl, T⟩
theorem s2_isFilledClass {K : Int → mH → Prop} {b : Int} {x1 : Int} {x2 : Int} {h : mH} (T : OkI M0_startsClass [mR 1 b, mI x1, mI x2] h (fun v1 h1 => (mInR v1) ∧ (v1 = 0 → (K 0 h1)) ∧ (¬ v1 = 0 → (OkI M6_slot [mI x1, mI x2] h1 (fun v2 h2 => (0 ≤ v2 ∧ v2 < 32) ∧ ((mInR (h2 17 b v2)) ∧ ((h2 17 b v2) ≤ 0 → (K 0 h2)) ∧ (¬ (h2 17 b v2) ≤ 0 → (K 1 h2)))))))) : OkI M2_isFilledClass [mR 12 b, mI x1, mI x2] h K := by
  refine Ok.of rfl (n := 0) rfl ?_
  show At (mPI K) M2_isFilledClass 0 [mR 12 b, mI x1, mI x2] [] h
  refine mw_aload_n (dT d2_isFilledClass 0 rfl) rfl (by decide) ?_
  refine mw_getR fl_X2_32 (dT d2_isFilledClass 1 rfl) ?_
  refine mw_iload_n (dT d2_isFilledClass 2 rfl) rfl ?_
  refine mw_iload_n (dT d2_isFilledClass 3 rfl) rfl ?_
  refine mw_callVI mv_0_startsClass ml_X2_124 (by decide) (dT d2_isFilledClass 4 rfl) (as := [mI _, mI _]) rfl rfl T (fun v1 h1 T => ?_)
  obtain ⟨z, T1, T2⟩ := T
  refine mw_if_eq 29 (dT d2_isFilledClass 5 rfl) (by decide) z (fun z => ?_) (fun z => ?_)
  · have T := T1 z
    refine mw_iconst (dT d2_isFilledClass 15 rfl) ?_
    exact mw_zret rfl (dT d2_isFilledClass 16 rfl) (Or.inl rfl) ⟨_, rfl, T⟩
  · have T := T2 z
    refine mw_aload_n (dT d2_isFilledClass 6 rfl) rfl (by decide) ?_
    refine mw_getR fl_X2_24 (dT d2_isFilledClass 7 rfl) ?_
    refine mw_iload_n (dT d2_isFilledClass 8 rfl) rfl ?_
    refine mw_iload_n (dT d2_isFilledClass 9 rfl) rfl ?_
    refine mw_callNI mt_6_slot (host := "RateOffice") (by decide) (by decide) (dT d2_isFilledClass 10 rfl) (as := [mI _, mI _]) rfl rfl T (fun v2 h2 T => ?_)
    obtain ⟨z, T⟩ := T
    refine mw_iaload ro_17 (dT d2_isFilledClass 11 rfl) z ?_
    obtain ⟨z, T1, T2⟩ := T
    refine mw_if_le 29 (dT d2_isFilledClass 12 rfl) (by decide) z (fun z => ?_) (fun z => ?_)
    · have T := T1 z
      refine mw_iconst (dT d2_isFilledClass 15 rfl) ?_
      exact mw_zret rfl (dT d2_isFilledClass 16 rfl) (Or.inl rfl) ⟨_, rfl, T⟩
    · have T := T2 z
      refine mw_iconst (dT d2_isFilledClass 13 rfl) ?_
      refine mw_goto 30 (dT d2_isFilledClass 14 rfl) (by decide) ?_
      exact mw_zret rfl (dT d2_isFilledClass 16 rfl) (Or.inr rfl) ⟨_, rfl, T⟩
abbrev A2_countUnbalanced_8 (K : Int → mH → Prop) (b : Int) (x1 x2 : Int) (h : mH) : Prop := At (mPI K) M2_countUnbalanced 8 [mR 12 b, mI x1, mI x2, mU] [] h
abbrev A2_countUnbalanced_26 (K : Int → mH → Prop) (b : Int) (x1 x2 x3 : Int) (h : mH) : Prop := At (mPI K) M2_countUnbalanced 26 [mR 12 b, mI x1, mI x2, mI x3] [] h
theorem s2_countUnbalanced_8 {K : Int → mH → Prop} {b : Int} {x1 x2 : Int} {h : mH} (T : (mInR x2 ∧ mInR (h 7 0 0)) ∧ ((h 7 0 0) ≤ x2 → (K x1 h)) ∧ (¬ (h 7 0 0) ≤ x2 → (OkV M2_gather [mR 12 b, mI x2] h (fun h1 => A2_countUnbalanced_26 K b x1 x2 0 h1)))) : A2_countUnbalanced_8 K b x1 x2 h := by
  refine mw_iload_n (dT d2_countUnbalanced 6 rfl) rfl ?_
  refine mw_aload_n (dT d2_countUnbalanced 7 rfl) rfl (by decide) ?_
  refine mw_getR fl_X2_28 (dT d2_countUnbalanced 8 rfl) ?_
  refine mw_getI fl_X2_47 (dT d2_countUnbalanced 9 rfl) ?_
  obtain ⟨z, T1, T2⟩ := T
  refine mw_icmp_ge 63 (dT d2_countUnbalanced 10 rfl) (by decide) z (fun z => ?_) (fun z => ?_)
  · have T := T1 z
    refine mw_iload_n (dT d2_countUnbalanced 33 rfl) rfl ?_
    exact mw_iret rfl (dT d2_countUnbalanced 34 rfl) ⟨_, rfl, T⟩
  · have T := T2 z
    refine mw_aload_n (dT d2_countUnbalanced 11 rfl) rfl (by decide) ?_
    refine mw_iload_n (dT d2_countUnbalanced 12 rfl) rfl ?_
    refine mw_callVV mv_2_gather ml_X2_84 (by decide) (dT d2_countUnbalanced 13 rfl) (as := [mI _]) rfl rfl T (fun h1 T => ?_)
    refine mw_iconst (dT d2_countUnbalanced 14 rfl) ?_
    refine mw_istore_n (dT d2_countUnbalanced 15 rfl) (by decide) ?_
    exact T
theorem s2_countUnbalanced_26 {K : Int → mH → Prop} {b : Int} {x1 x2 x3 : Int} {h : mH} (T : (0 ≤ x2 ∧ x2 < 4) ∧ ((mInR x3 ∧ mInR (h 9 0 x2)) ∧ ((h 9 0 x2) ≤ x3 → (A2_countUnbalanced_8 K b x1 (x2 + 1) h)) ∧ (¬ (h 9 0 x2) ≤ x3 → (OkI M2_isOff [mR 12 b, mI x2, mI x3] h (fun v1 h1 => (mInR v1) ∧ (v1 = 0 → (A2_countUnbalanced_26 K b x1 x2 (x3 + 1) h1)) ∧ (¬ v1 = 0 → (A2_countUnbalanced_26 K b (x1 + 1) x2 (x3 + 1) h1))))))) : A2_countUnbalanced_26 K b x1 x2 x3 h := by
  refine mw_iload_n (dT d2_countUnbalanced 16 rfl) rfl ?_
  refine mw_aload_n (dT d2_countUnbalanced 17 rfl) rfl (by decide) ?_
  refine mw_getR fl_X2_28 (dT d2_countUnbalanced 18 rfl) ?_
  refine mw_getR fl_X2_130 (dT d2_countUnbalanced 19 rfl) ?_
  refine mw_iload_n (dT d2_countUnbalanced 20 rfl) rfl ?_
  obtain ⟨z, T⟩ := T
  refine mw_iaload ro_9 (dT d2_countUnbalanced 21 rfl) z ?_
  obtain ⟨z, T1, T2⟩ := T
  refine mw_icmp_ge 57 (dT d2_countUnbalanced 22 rfl) (by decide) z (fun z => ?_) (fun z => ?_)
  · have T := T1 z
    refine mw_iinc (dT d2_countUnbalanced 31 rfl) rfl (by decide) ?_
    refine mw_goto 8 (dT d2_countUnbalanced 32 rfl) (by decide) ?_
    exact At.forget [3] T
  · have T := T2 z
    refine mw_aload_n (dT d2_countUnbalanced 23 rfl) rfl (by decide) ?_
    refine mw_iload_n (dT d2_countUnbalanced 24 rfl) rfl ?_
    refine mw_iload_n (dT d2_countUnbalanced 25 rfl) rfl ?_
    refine mw_callVI mv_2_isOff ml_X2_133 (by decide) (dT d2_countUnbalanced 26 rfl) (as := [mI _, mI _]) rfl rfl T (fun v1 h1 T => ?_)
    obtain ⟨z, T1, T2⟩ := T
    refine mw_if_eq 51 (dT d2_countUnbalanced 27 rfl) (by decide) z (fun z => ?_) (fun z => ?_)
    · have T := T1 z
      refine mw_iinc (dT d2_countUnbalanced 29 rfl) rfl (by decide) ?_
      refine mw_goto 26 (dT d2_countUnbalanced 30 rfl) (by decide) ?_
      exact T
    · have T := T2 z
      refine mw_iinc (dT d2_countUnbalanced 28 rfl) rfl (by decide) ?_
      refine mw_iinc (dT d2_countUnbalanced 29 rfl) rfl (by decide) ?_
      refine mw_goto 26 (dT d2_countUnbalanced 30 rfl) (by decide) ?_
      exact T
theorem s2_countUnbalanced {K : Int → mH → Prop} {b : Int} {h : mH} (T : OkV M2_price [mR 12 b] h (fun h1 => A2_countUnbalanced_8 K b 0 0 h1)) : OkI M2_countUnbalanced [mR 12 b] h K := by
  refine Ok.of rfl (n := 3) rfl ?_
  show At (mPI K) M2_countUnbalanced 0 [mR 12 b, mU, mU, mU] [] h
  refine mw_aload_n (dT d2_countUnbalanced 0 rfl) rfl (by decide) ?_
  refine mw_callVV mv_2_price ml_X2_81 (by decide) (dT d2_countUnbalanced 1 rfl) (as := []) rfl rfl T (fun h1 T => ?_)
  refine mw_iconst (dT d2_countUnbalanced 2 rfl) ?_
  refine mw_istore_n (dT d2_countUnbalanced 3 rfl) (by decide) ?_
  refine mw_iconst (dT d2_countUnbalanced 4 rfl) ?_
  refine mw_istore_n (dT d2_countUnbalanced 5 rfl) (by decide) ?_
  exact T
abbrev A2_sumMisfit_8 (K : Int → mH → Prop) (b : Int) (x1 x3 : Int) (h : mH) : Prop := At (mPJ K) M2_sumMisfit 8 [mR 12 b, mJ x1, mU, mI x3, mU] [] h
abbrev A2_sumMisfit_27 (K : Int → mH → Prop) (b : Int) (x1 x3 x4 : Int) (h : mH) : Prop := At (mPJ K) M2_sumMisfit 27 [mR 12 b, mJ x1, mU, mI x3, mI x4] [] h
theorem s2_sumMisfit_8 {K : Int → mH → Prop} {b : Int} {x1 x3 : Int} {h : mH} (T : (mInR x3 ∧ mInR (h 7 0 0)) ∧ ((h 7 0 0) ≤ x3 → (K x1 h)) ∧ (¬ (h 7 0 0) ≤ x3 → (OkV M2_gather [mR 12 b, mI x3] h (fun h1 => A2_sumMisfit_27 K b x1 x3 0 h1)))) : A2_sumMisfit_8 K b x1 x3 h := by
  refine mw_iload_n (dT d2_sumMisfit 6 rfl) rfl ?_
  refine mw_aload_n (dT d2_sumMisfit 7 rfl) rfl (by decide) ?_
  refine mw_getR fl_X2_28 (dT d2_sumMisfit 8 rfl) ?_
  refine mw_getI fl_X2_47 (dT d2_sumMisfit 9 rfl) ?_
  obtain ⟨z, T1, T2⟩ := T
  refine mw_icmp_ge 76 (dT d2_sumMisfit 10 rfl) (by decide) z (fun z => ?_) (fun z => ?_)
  · have T := T1 z
    refine mw_lload_n (dT d2_sumMisfit 40 rfl) rfl ?_
    exact mw_lret rfl (dT d2_sumMisfit 41 rfl) ⟨_, rfl, T⟩
  · have T := T2 z
    refine mw_aload_n (dT d2_sumMisfit 11 rfl) rfl (by decide) ?_
    refine mw_iload_n (dT d2_sumMisfit 12 rfl) rfl ?_
    refine mw_callVV mv_2_gather ml_X2_84 (by decide) (dT d2_sumMisfit 13 rfl) (as := [mI _]) rfl rfl T (fun h1 T => ?_)
    refine mw_iconst (dT d2_sumMisfit 14 rfl) ?_
    refine mw_istore (dT d2_sumMisfit 15 rfl) (by decide) ?_
    exact T
theorem s2_sumMisfit_27 {K : Int → mH → Prop} {b : Int} {x1 x3 x4 : Int} {h : mH} (T : (0 ≤ x3 ∧ x3 < 4) ∧ ((mInR x4 ∧ mInR (h 9 0 x3)) ∧ ((h 9 0 x3) ≤ x4 → (A2_sumMisfit_8 K b x1 (x3 + 1) h)) ∧ (¬ (h 9 0 x3) ≤ x4 → (OkI M2_isFilledClass [mR 12 b, mI x3, mI x4] h (fun v1 h1 => (mInR v1) ∧ (v1 = 0 → (A2_sumMisfit_27 K b x1 x3 (x4 + 1) h1)) ∧ (¬ v1 = 0 → (OkI M6_slot [mI x3, mI x4] h1 (fun v2 h2 => OkJ M2_differsBy [mR 12 b, mI v2] h2 (fun v3 h3 => A2_sumMisfit_27 K b (x1 + v3) x3 (x4 + 1) h3))))))))) : A2_sumMisfit_27 K b x1 x3 x4 h := by
  refine mw_iload (dT d2_sumMisfit 16 rfl) rfl ?_
  refine mw_aload_n (dT d2_sumMisfit 17 rfl) rfl (by decide) ?_
  refine mw_getR fl_X2_28 (dT d2_sumMisfit 18 rfl) ?_
  refine mw_getR fl_X2_130 (dT d2_sumMisfit 19 rfl) ?_
  refine mw_iload_n (dT d2_sumMisfit 20 rfl) rfl ?_
  obtain ⟨z, T⟩ := T
  refine mw_iaload ro_9 (dT d2_sumMisfit 21 rfl) z ?_
  obtain ⟨z, T1, T2⟩ := T
  refine mw_icmp_ge 70 (dT d2_sumMisfit 22 rfl) (by decide) z (fun z => ?_) (fun z => ?_)
  · have T := T1 z
    refine mw_iinc (dT d2_sumMisfit 38 rfl) rfl (by decide) ?_
    refine mw_goto 8 (dT d2_sumMisfit 39 rfl) (by decide) ?_
    exact At.forget [4] T
  · have T := T2 z
    refine mw_aload_n (dT d2_sumMisfit 23 rfl) rfl (by decide) ?_
    refine mw_iload_n (dT d2_sumMisfit 24 rfl) rfl ?_
    refine mw_iload (dT d2_sumMisfit 25 rfl) rfl ?_
    refine mw_callVI mv_2_isFilledClass ml_X2_136 (by decide) (dT d2_sumMisfit 26 rfl) (as := [mI _, mI _]) rfl rfl T (fun v1 h1 T => ?_)
    obtain ⟨z, T1, T2⟩ := T
    refine mw_if_eq 64 (dT d2_sumMisfit 27 rfl) (by decide) z (fun z => ?_) (fun z => ?_)
    · have T := T1 z
      refine mw_iinc (dT d2_sumMisfit 36 rfl) rfl (by decide) ?_
      refine mw_goto 27 (dT d2_sumMisfit 37 rfl) (by decide) ?_
      exact T
    · have T := T2 z
      refine mw_lload_n (dT d2_sumMisfit 28 rfl) rfl ?_
      refine mw_aload_n (dT d2_sumMisfit 29 rfl) rfl (by decide) ?_
      refine mw_iload_n (dT d2_sumMisfit 30 rfl) rfl ?_
      refine mw_iload (dT d2_sumMisfit 31 rfl) rfl ?_
      refine mw_callNI mt_6_slot (host := "RateOffice") (by decide) (by decide) (dT d2_sumMisfit 32 rfl) (as := [mI _, mI _]) rfl rfl T (fun v2 h2 T => ?_)
      refine mw_callVJ mv_2_differsBy ml_X2_111 (by decide) (dT d2_sumMisfit 33 rfl) (as := [mI _]) rfl rfl T (fun v3 h3 T => ?_)
      refine mw_ladd (dT d2_sumMisfit 34 rfl) ?_
      refine mw_lstore_n (dT d2_sumMisfit 35 rfl) (by decide) ?_
      refine mw_iinc (dT d2_sumMisfit 36 rfl) rfl (by decide) ?_
      refine mw_goto 27 (dT d2_sumMisfit 37 rfl) (by decide) ?_
      exact T
theorem s2_sumMisfit {K : Int → mH → Prop} {b : Int} {h : mH} (T : OkV M2_price [mR 12 b] h (fun h1 => A2_sumMisfit_8 K b 0 0 h1)) : OkJ M2_sumMisfit [mR 12 b] h K := by
  refine Ok.of rfl (n := 4) rfl ?_
  show At (mPJ K) M2_sumMisfit 0 [mR 12 b, mU, mU, mU, mU] [] h
  refine mw_aload_n (dT d2_sumMisfit 0 rfl) rfl (by decide) ?_
  refine mw_callVV mv_2_price ml_X2_81 (by decide) (dT d2_sumMisfit 1 rfl) (as := []) rfl rfl T (fun h1 T => ?_)
  refine mw_lconst (dT d2_sumMisfit 2 rfl) ?_
  refine mw_lstore_n (dT d2_sumMisfit 3 rfl) (by decide) ?_
  refine mw_iconst (dT d2_sumMisfit 4 rfl) ?_
  refine mw_istore_n (dT d2_sumMisfit 5 rfl) (by decide) ?_
  exact T
abbrev A2_worstSlot_12 (K : Int → mH → Prop) (b : Int) (x1 x2 x4 : Int) (h : mH) : Prop := At (mPI K) M2_worstSlot 12 [mR 12 b, mI x1, mJ x2, mU, mI x4, mU, mU] [] h
abbrev A2_worstSlot_33 (K : Int → mH → Prop) (b : Int) (x1 x2 x4 x5 : Int) (h : mH) : Prop := At (mPI K) M2_worstSlot 33 [mR 12 b, mI x1, mJ x2, mU, mI x4, mI x5, mU] [] h
theorem s2_worstSlot_12 {K : Int → mH → Prop} {b : Int} {x1 x2 x4 : Int} {h : mH} (T : (mInR x4 ∧ mInR (h 7 0 0)) ∧ ((h 7 0 0) ≤ x4 → (K x1 h)) ∧ (¬ (h 7 0 0) ≤ x4 → (OkV M2_gather [mR 12 b, mI x4] h (fun h1 => A2_worstSlot_33 K b x1 x2 x4 0 h1)))) : A2_worstSlot_12 K b x1 x2 x4 h := by
  refine mw_iload (dT d2_worstSlot 8 rfl) rfl ?_
  refine mw_aload_n (dT d2_worstSlot 9 rfl) rfl (by decide) ?_
  refine mw_getR fl_X2_28 (dT d2_worstSlot 10 rfl) ?_
  refine mw_getI fl_X2_47 (dT d2_worstSlot 11 rfl) ?_
  obtain ⟨z, T1, T2⟩ := T
  refine mw_icmp_ge 107 (dT d2_worstSlot 12 rfl) (by decide) z (fun z => ?_) (fun z => ?_)
  · have T := T1 z
    refine mw_iload_n (dT d2_worstSlot 53 rfl) rfl ?_
    exact mw_iret rfl (dT d2_worstSlot 54 rfl) ⟨_, rfl, T⟩
  · have T := T2 z
    refine mw_aload_n (dT d2_worstSlot 13 rfl) rfl (by decide) ?_
    refine mw_iload (dT d2_worstSlot 14 rfl) rfl ?_
    refine mw_callVV mv_2_gather ml_X2_84 (by decide) (dT d2_worstSlot 15 rfl) (as := [mI _]) rfl rfl T (fun h1 T => ?_)
    refine mw_iconst (dT d2_worstSlot 16 rfl) ?_
    refine mw_istore (dT d2_worstSlot 17 rfl) (by decide) ?_
    exact T
theorem s2_worstSlot_33 {K : Int → mH → Prop} {b : Int} {x1 x2 x4 x5 : Int} {h : mH} (T : (0 ≤ x4 ∧ x4 < 4) ∧ ((mInR x5 ∧ mInR (h 9 0 x4)) ∧ ((h 9 0 x4) ≤ x5 → (A2_worstSlot_12 K b x1 x2 (x4 + 1) h)) ∧ (¬ (h 9 0 x4) ≤ x5 → (OkI M6_slot [mI x4, mI x5] h (fun v1 h1 => OkI M2_isOff [mR 12 b, mI x4, mI x5] h1 (fun v2 h2 => (mInR v2) ∧ (v2 = 0 → (A2_worstSlot_33 K b x1 x2 x4 (x5 + 1) h2)) ∧ (¬ v2 = 0 → ((mInR x1) ∧ (x1 = ((-2)) → (OkJ M2_differsBy [mR 12 b, mI v1] h2 (fun v3 h3 => A2_worstSlot_33 K b v1 v3 x4 (x5 + 1) h3))) ∧ (¬ x1 = ((-2)) → (OkJ M2_differsBy [mR 12 b, mI v1] h2 (fun v4 h4 => (mInL v4 ∧ mInL x2) ∧ (v4 ≤ x2 → (A2_worstSlot_33 K b x1 x2 x4 (x5 + 1) h4)) ∧ (¬ v4 ≤ x2 → (OkJ M2_differsBy [mR 12 b, mI v1] h4 (fun v5 h5 => A2_worstSlot_33 K b v1 v5 x4 (x5 + 1) h5)))))))))))))) : A2_worstSlot_33 K b x1 x2 x4 x5 h := by
  refine mw_iload (dT d2_worstSlot 18 rfl) rfl ?_
  refine mw_aload_n (dT d2_worstSlot 19 rfl) rfl (by decide) ?_
  refine mw_getR fl_X2_28 (dT d2_worstSlot 20 rfl) ?_
  refine mw_getR fl_X2_130 (dT d2_worstSlot 21 rfl) ?_
  refine mw_iload (dT d2_worstSlot 22 rfl) rfl ?_
  obtain ⟨z, T⟩ := T
  refine mw_iaload ro_9 (dT d2_worstSlot 23 rfl) z ?_
  obtain ⟨z, T1, T2⟩ := T
  refine mw_icmp_ge 101 (dT d2_worstSlot 24 rfl) (by decide) z (fun z => ?_) (fun z => ?_)
  · have T := T1 z
    refine mw_iinc (dT d2_worstSlot 51 rfl) rfl (by decide) ?_
    refine mw_goto 12 (dT d2_worstSlot 52 rfl) (by decide) ?_
    exact At.forget [5] T
  · have T := T2 z
    refine mw_iload (dT d2_worstSlot 25 rfl) rfl ?_
    refine mw_iload (dT d2_worstSlot 26 rfl) rfl ?_
    refine mw_callNI mt_6_slot (host := "RateOffice") (by decide) (by decide) (dT d2_worstSlot 27 rfl) (as := [mI _, mI _]) rfl rfl T (fun v1 h1 T => ?_)
    refine mw_istore (dT d2_worstSlot 28 rfl) (by decide) ?_
    refine mw_aload_n (dT d2_worstSlot 29 rfl) rfl (by decide) ?_
    refine mw_iload (dT d2_worstSlot 30 rfl) rfl ?_
    refine mw_iload (dT d2_worstSlot 31 rfl) rfl ?_
    refine mw_callVI mv_2_isOff ml_X2_133 (by decide) (dT d2_worstSlot 32 rfl) (as := [mI _, mI _]) rfl rfl T (fun v2 h2 T => ?_)
    obtain ⟨z, T1, T2⟩ := T
    refine mw_if_eq 95 (dT d2_worstSlot 33 rfl) (by decide) z (fun z => ?_) (fun z => ?_)
    · have T := T1 z
      refine mw_iinc (dT d2_worstSlot 49 rfl) rfl (by decide) ?_
      refine mw_goto 33 (dT d2_worstSlot 50 rfl) (by decide) ?_
      exact At.forget [6] T
    · have T := T2 z
      refine mw_iload_n (dT d2_worstSlot 34 rfl) rfl ?_
      refine mw_bipush (by decide) (dT d2_worstSlot 35 rfl) ?_
      obtain ⟨z, T1, T2⟩ := T
      refine mw_icmp_eq 85 (dT d2_worstSlot 36 rfl) (by decide) ⟨z, by decide⟩ (fun z => ?_) (fun z => ?_)
      · have T := T1 z
        refine mw_aload_n (dT d2_worstSlot 43 rfl) rfl (by decide) ?_
        refine mw_iload (dT d2_worstSlot 44 rfl) rfl ?_
        refine mw_callVJ mv_2_differsBy ml_X2_111 (by decide) (dT d2_worstSlot 45 rfl) (as := [mI _]) rfl rfl T (fun v3 h3 T => ?_)
        refine mw_lstore_n (dT d2_worstSlot 46 rfl) (by decide) ?_
        refine mw_iload (dT d2_worstSlot 47 rfl) rfl ?_
        refine mw_istore_n (dT d2_worstSlot 48 rfl) (by decide) ?_
        refine mw_iinc (dT d2_worstSlot 49 rfl) rfl (by decide) ?_
        refine mw_goto 33 (dT d2_worstSlot 50 rfl) (by decide) ?_
        exact At.forget [6] T
      · have T := T2 z
        refine mw_aload_n (dT d2_worstSlot 37 rfl) rfl (by decide) ?_
        refine mw_iload (dT d2_worstSlot 38 rfl) rfl ?_
        refine mw_callVJ mv_2_differsBy ml_X2_111 (by decide) (dT d2_worstSlot 39 rfl) (as := [mI _]) rfl rfl T (fun v4 h4 T => ?_)
        refine mw_lload_n (dT d2_worstSlot 40 rfl) rfl ?_
        obtain ⟨z, T1, T2⟩ := T
        refine mw_lif_le 95 (dT d2_worstSlot 41 rfl) (dT d2_worstSlot 42 rfl) (by decide) z (fun z => ?_) (fun z => ?_)
        · have T := T1 z
          refine mw_iinc (dT d2_worstSlot 49 rfl) rfl (by decide) ?_
          refine mw_goto 33 (dT d2_worstSlot 50 rfl) (by decide) ?_
          exact At.forget [6] T
        · have T := T2 z
          refine mw_aload_n (dT d2_worstSlot 43 rfl) rfl (by decide) ?_
          refine mw_iload (dT d2_worstSlot 44 rfl) rfl ?_
          refine mw_callVJ mv_2_differsBy ml_X2_111 (by decide) (dT d2_worstSlot 45 rfl) (as := [mI _]) rfl rfl T (fun v5 h5 T => ?_)
          refine mw_lstore_n (dT d2_worstSlot 46 rfl) (by decide) ?_
          refine mw_iload (dT d2_worstSlot 47 rfl) rfl ?_
          refine mw_istore_n (dT d2_worstSlot 48 rfl) (by decide) ?_
          refine mw_iinc (dT d2_worstSlot 49 rfl) rfl (by decide) ?_
          refine mw_goto 33 (dT d2_worstSlot 50 rfl) (by decide) ?_
          exact At.forget [6] T
theorem s2_worstSlot {K : Int → mH → Prop} {b : Int} {h : mH} (T : OkV M2_price [mR 12 b] h (fun h1 => A2_worstSlot_12 K b ((-2)) 0 0 h1)) : OkI M2_worstSlot [mR 12 b] h K := by
  refine Ok.of rfl (n := 6) rfl ?_
  show At (mPI K) M2_worstSlot 0 [mR 12 b, mU, mU, mU, mU, mU, mU] [] h
  refine mw_aload_n (dT d2_worstSlot 0 rfl) rfl (by decide) ?_
  refine mw_callVV mv_2_price ml_X2_81 (by decide) (dT d2_worstSlot 1 rfl) (as := []) rfl rfl T (fun h1 T => ?_)
  refine mw_bipush (by decide) (dT d2_worstSlot 2 rfl) ?_
  refine mw_istore_n (dT d2_worstSlot 3 rfl) (by decide) ?_
  refine mw_lconst (dT d2_worstSlot 4 rfl) ?_
  refine mw_lstore_n (dT d2_worstSlot 5 rfl) (by decide) ?_
  refine mw_iconst (dT d2_worstSlot 6 rfl) ?_
  refine mw_istore (dT d2_worstSlot 7 rfl) (by decide) ?_
  exact T
abbrev A2_farthestOff_13 (K : Int → mH → Prop) (b : Int) (x1 x2 x3 x5 : Int) (h : mH) : Prop := At (mPI K) M2_farthestOff 13 [mR 12 b, mI x1, mI x2, mJ x3, mU, mI x5, mU] [] h
theorem s2_farthestOff_13 {K : Int → mH → Prop} {b : Int} {x1 x2 x3 x5 : Int} {h : mH} (T : (0 ≤ x1 ∧ x1 < 4) ∧ ((mInR x5 ∧ mInR (h 9 0 x1)) ∧ ((h 9 0 x1) ≤ x5 → (K x2 h)) ∧ (¬ (h 9 0 x1) ≤ x5 → (OkI M6_slot [mI x1, mI x5] h (fun v1 h1 => OkI M2_isFilledClass [mR 12 b, mI x1, mI x5] h1 (fun v2 h2 => (mInR v2) ∧ (v2 = 0 → (A2_farthestOff_13 K b x1 x2 x3 (x5 + 1) h2)) ∧ (¬ v2 = 0 → ((mInR x2) ∧ (x2 = ((-2)) → (OkJ M2_differsBy [mR 12 b, mI v1] h2 (fun v3 h3 => A2_farthestOff_13 K b x1 x5 v3 (x5 + 1) h3))) ∧ (¬ x2 = ((-2)) → (OkJ M2_differsBy [mR 12 b, mI v1] h2 (fun v4 h4 => (mInL v4 ∧ mInL x3) ∧ (v4 ≤ x3 → (A2_farthestOff_13 K b x1 x2 x3 (x5 + 1) h4)) ∧ (¬ v4 ≤ x3 → (OkJ M2_differsBy [mR 12 b, mI v1] h4 (fun v5 h5 => A2_farthestOff_13 K b x1 x5 v5 (x5 + 1) h5)))))))))))))) : A2_farthestOff_13 K b x1 x2 x3 x5 h := by
  refine mw_iload (dT d2_farthestOff 9 rfl) rfl ?_
  refine mw_aload_n (dT d2_farthestOff 10 rfl) rfl (by decide) ?_
  refine mw_getR fl_X2_28 (dT d2_farthestOff 11 rfl) ?_
  refine mw_getR fl_X2_130 (dT d2_farthestOff 12 rfl) ?_
  refine mw_iload_n (dT d2_farthestOff 13 rfl) rfl ?_
  obtain ⟨z, T⟩ := T
  refine mw_iaload ro_9 (dT d2_farthestOff 14 rfl) z ?_
  obtain ⟨z, T1, T2⟩ := T
  refine mw_icmp_ge 78 (dT d2_farthestOff 15 rfl) (by decide) z (fun z => ?_) (fun z => ?_)
  · have T := T1 z
    refine mw_iload_n (dT d2_farthestOff 42 rfl) rfl ?_
    exact mw_iret rfl (dT d2_farthestOff 43 rfl) ⟨_, rfl, T⟩
  · have T := T2 z
    refine mw_iload_n (dT d2_farthestOff 16 rfl) rfl ?_
    refine mw_iload (dT d2_farthestOff 17 rfl) rfl ?_
    refine mw_callNI mt_6_slot (host := "RateOffice") (by decide) (by decide) (dT d2_farthestOff 18 rfl) (as := [mI _, mI _]) rfl rfl T (fun v1 h1 T => ?_)
    refine mw_istore (dT d2_farthestOff 19 rfl) (by decide) ?_
    refine mw_aload_n (dT d2_farthestOff 20 rfl) rfl (by decide) ?_
    refine mw_iload_n (dT d2_farthestOff 21 rfl) rfl ?_
    refine mw_iload (dT d2_farthestOff 22 rfl) rfl ?_
    refine mw_callVI mv_2_isFilledClass ml_X2_136 (by decide) (dT d2_farthestOff 23 rfl) (as := [mI _, mI _]) rfl rfl T (fun v2 h2 T => ?_)
    obtain ⟨z, T1, T2⟩ := T
    refine mw_if_eq 72 (dT d2_farthestOff 24 rfl) (by decide) z (fun z => ?_) (fun z => ?_)
    · have T := T1 z
      refine mw_iinc (dT d2_farthestOff 40 rfl) rfl (by decide) ?_
      refine mw_goto 13 (dT d2_farthestOff 41 rfl) (by decide) ?_
      exact At.forget [6] T
    · have T := T2 z
      refine mw_iload_n (dT d2_farthestOff 25 rfl) rfl ?_
      refine mw_bipush (by decide) (dT d2_farthestOff 26 rfl) ?_
      obtain ⟨z, T1, T2⟩ := T
      refine mw_icmp_eq 62 (dT d2_farthestOff 27 rfl) (by decide) ⟨z, by decide⟩ (fun z => ?_) (fun z => ?_)
      · have T := T1 z
        refine mw_aload_n (dT d2_farthestOff 34 rfl) rfl (by decide) ?_
        refine mw_iload (dT d2_farthestOff 35 rfl) rfl ?_
        refine mw_callVJ mv_2_differsBy ml_X2_111 (by decide) (dT d2_farthestOff 36 rfl) (as := [mI _]) rfl rfl T (fun v3 h3 T => ?_)
        refine mw_lstore_n (dT d2_farthestOff 37 rfl) (by decide) ?_
        refine mw_iload (dT d2_farthestOff 38 rfl) rfl ?_
        refine mw_istore_n (dT d2_farthestOff 39 rfl) (by decide) ?_
        refine mw_iinc (dT d2_farthestOff 40 rfl) rfl (by decide) ?_
        refine mw_goto 13 (dT d2_farthestOff 41 rfl) (by decide) ?_
        exact At.forget [6] T
      · have T := T2 z
        refine mw_aload_n (dT d2_farthestOff 28 rfl) rfl (by decide) ?_
        refine mw_iload (dT d2_farthestOff 29 rfl) rfl ?_
        refine mw_callVJ mv_2_differsBy ml_X2_111 (by decide) (dT d2_farthestOff 30 rfl) (as := [mI _]) rfl rfl T (fun v4 h4 T => ?_)
        refine mw_lload_n (dT d2_farthestOff 31 rfl) rfl ?_
        obtain ⟨z, T1, T2⟩ := T
        refine mw_lif_le 72 (dT d2_farthestOff 32 rfl) (dT d2_farthestOff 33 rfl) (by decide) z (fun z => ?_) (fun z => ?_)
        · have T := T1 z
          refine mw_iinc (dT d2_farthestOff 40 rfl) rfl (by decide) ?_
          refine mw_goto 13 (dT d2_farthestOff 41 rfl) (by decide) ?_
          exact At.forget [6] T
        · have T := T2 z
          refine mw_aload_n (dT d2_farthestOff 34 rfl) rfl (by decide) ?_
          refine mw_iload (dT d2_farthestOff 35 rfl) rfl ?_
          refine mw_callVJ mv_2_differsBy ml_X2_111 (by decide) (dT d2_farthestOff 36 rfl) (as := [mI _]) rfl rfl T (fun v5 h5 T => ?_)
          refine mw_lstore_n (dT d2_farthestOff 37 rfl) (by decide) ?_
          refine mw_iload (dT d2_farthestOff 38 rfl) rfl ?_
          refine mw_istore_n (dT d2_farthestOff 39 rfl) (by decide) ?_
          refine mw_iinc (dT d2_farthestOff 40 rfl) rfl (by decide) ?_
          refine mw_goto 13 (dT d2_farthestOff 41 rfl) (by decide) ?_
          exact At.forget [6] T
theorem s2_farthestOff {K : Int → mH → Prop} {b : Int} {x1 : Int} {h : mH} (T : OkV M2_measure [mR 12 b, mI x1] h (fun h1 => A2_farthestOff_13 K b x1 ((-2)) 0 0 h1)) : OkI M2_farthestOff [mR 12 b, mI x1] h K := by
  refine Ok.of rfl (n := 5) rfl ?_
  show At (mPI K) M2_farthestOff 0 [mR 12 b, mI x1, mU, mU, mU, mU, mU] [] h
  refine mw_aload_n (dT d2_farthestOff 0 rfl) rfl (by decide) ?_
  refine mw_iload_n (dT d2_farthestOff 1 rfl) rfl ?_
  refine mw_callVV mv_2_measure ml_X2_139 (by decide) (dT d2_farthestOff 2 rfl) (as := [mI _]) rfl rfl T (fun h1 T => ?_)
  refine mw_bipush (by decide) (dT d2_farthestOff 3 rfl) ?_
  refine mw_istore_n (dT d2_farthestOff 4 rfl) (by decide) ?_
  refine mw_lconst (dT d2_farthestOff 5 rfl) ?_
  refine mw_lstore_n (dT d2_farthestOff 6 rfl) (by decide) ?_
  refine mw_iconst (dT d2_farthestOff 7 rfl) ?_
  refine mw_istore (dT d2_farthestOff 8 rfl) (by decide) ?_
  exact T
abbrev A2_countClasses_4 (K : Int → mH → Prop) (b : Int) (x1 x2 x3 : Int) (h : mH) : Prop := At (mPI K) M2_countClasses 4 [mR 12 b, mI x1, mI x2, mI x3] [] h
theorem s2_countClasses_4 {K : Int → mH → Prop} {b : Int} {x1 x2 x3 : Int} {h : mH} (T : (0 ≤ x1 ∧ x1 < 4) ∧ ((mInR x3 ∧ mInR (h 9 0 x1)) ∧ ((h 9 0 x1) ≤ x3 → (K x2 h)) ∧ (¬ (h 9 0 x1) ≤ x3 → (OkI M0_startsClass [mR 1 b, mI x1, mI x3] h (fun v1 h1 => (mInR v1) ∧ (v1 = 0 → (A2_countClasses_4 K b x1 x2 (x3 + 1) h1)) ∧ (¬ v1 = 0 → (A2_countClasses_4 K b x1 (x2 + 1) (x3 + 1) h1))))))) : A2_countClasses_4 K b x1 x2 x3 h := by
  refine mw_iload_n (dT d2_countClasses 4 rfl) rfl ?_
  refine mw_aload_n (dT d2_countClasses 5 rfl) rfl (by decide) ?_
  refine mw_getR fl_X2_28 (dT d2_countClasses 6 rfl) ?_
  refine mw_getR fl_X2_130 (dT d2_countClasses 7 rfl) ?_
  refine mw_iload_n (dT d2_countClasses 8 rfl) rfl ?_
  obtain ⟨z, T⟩ := T
  refine mw_iaload ro_9 (dT d2_countClasses 9 rfl) z ?_
  obtain ⟨z, T1, T2⟩ := T
  refine mw_icmp_ge 38 (dT d2_countClasses 10 rfl) (by decide) z (fun z => ?_) (fun z => ?_)
  · have T := T1 z
    refine mw_iload_n (dT d2_countClasses 20 rfl) rfl ?_
    exact mw_iret rfl (dT d2_countClasses 21 rfl) ⟨_, rfl, T⟩
  · have T := T2 z
    refine mw_aload_n (dT d2_countClasses 11 rfl) rfl (by decide) ?_
    refine mw_getR fl_X2_32 (dT d2_countClasses 12 rfl) ?_
    refine mw_iload_n (dT d2_countClasses 13 rfl) rfl ?_
    refine mw_iload_n (dT d2_countClasses 14 rfl) rfl ?_
    refine mw_callVI mv_0_startsClass ml_X2_124 (by decide) (dT d2_countClasses 15 rfl) (as := [mI _, mI _]) rfl rfl T (fun v1 h1 T => ?_)
    obtain ⟨z, T1, T2⟩ := T
    refine mw_if_eq 32 (dT d2_countClasses 16 rfl) (by decide) z (fun z => ?_) (fun z => ?_)
    · have T := T1 z
      refine mw_iinc (dT d2_countClasses 18 rfl) rfl (by decide) ?_
      refine mw_goto 4 (dT d2_countClasses 19 rfl) (by decide) ?_
      exact T
    · have T := T2 z
      refine mw_iinc (dT d2_countClasses 17 rfl) rfl (by decide) ?_
      refine mw_iinc (dT d2_countClasses 18 rfl) rfl (by decide) ?_
      refine mw_goto 4 (dT d2_countClasses 19 rfl) (by decide) ?_
      exact T
theorem s2_countClasses {K : Int → mH → Prop} {b : Int} {x1 : Int} {h : mH} (T : A2_countClasses_4 K b x1 0 0 h) : OkI M2_countClasses [mR 12 b, mI x1] h K := by
  refine Ok.of rfl (n := 2) rfl ?_
  show At (mPI K) M2_countClasses 0 [mR 12 b, mI x1, mU, mU] [] h
  refine mw_iconst (dT d2_countClasses 0 rfl) ?_
  refine mw_istore_n (dT d2_countClasses 1 rfl) (by decide) ?_
  refine mw_iconst (dT d2_countClasses 2 rfl) ?_
  refine mw_istore_n (dT d2_countClasses 3 rfl) (by decide) ?_
  exact T
abbrev A2_countAllClasses_8 (K : Int → mH → Prop) (b : Int) (x1 x2 x3 : Int) (h : mH) : Prop := At (mPI K) M2_countAllClasses 8 [mR 12 b, mI x1, mI x2, mI x3, mU] [] h
abbrev A2_countAllClasses_27 (K : Int → mH → Prop) (b : Int) (x1 x2 x3 x4 : Int) (h : mH) : Prop := At (mPI K) M2_countAllClasses 27 [mR 12 b, mI x1, mI x2, mI x3, mI x4] [] h
theorem s2_countAllClasses_8 {K : Int → mH → Prop} {b : Int} {x1 x2 x3 : Int} {h : mH} (T : (mInR x3 ∧ mInR (h 7 0 0)) ∧ ((h 7 0 0) ≤ x3 → (K x2 h)) ∧ (¬ (h 7 0 0) ≤ x3 → (OkV M2_gather [mR 12 b, mI x3] h (fun h1 => A2_countAllClasses_27 K b x1 x2 x3 0 h1)))) : A2_countAllClasses_8 K b x1 x2 x3 h := by
  refine mw_iload_n (dT d2_countAllClasses 6 rfl) rfl ?_
  refine mw_aload_n (dT d2_countAllClasses 7 rfl) rfl (by decide) ?_
  refine mw_getR fl_X2_28 (dT d2_countAllClasses 8 rfl) ?_
  refine mw_getI fl_X2_47 (dT d2_countAllClasses 9 rfl) ?_
  obtain ⟨z, T1, T2⟩ := T
  refine mw_icmp_ge 83 (dT d2_countAllClasses 10 rfl) (by decide) z (fun z => ?_) (fun z => ?_)
  · have T := T1 z
    refine mw_iload_n (dT d2_countAllClasses 41 rfl) rfl ?_
    exact mw_iret rfl (dT d2_countAllClasses 42 rfl) ⟨_, rfl, T⟩
  · have T := T2 z
    refine mw_aload_n (dT d2_countAllClasses 11 rfl) rfl (by decide) ?_
    refine mw_iload_n (dT d2_countAllClasses 12 rfl) rfl ?_
    refine mw_callVV mv_2_gather ml_X2_84 (by decide) (dT d2_countAllClasses 13 rfl) (as := [mI _]) rfl rfl T (fun h1 T => ?_)
    refine mw_iconst (dT d2_countAllClasses 14 rfl) ?_
    refine mw_istore (dT d2_countAllClasses 15 rfl) (by decide) ?_
    exact T
theorem s2_countAllClasses_27 {K : Int → mH → Prop} {b : Int} {x1 x2 x3 x4 : Int} {h : mH} (T : (0 ≤ x3 ∧ x3 < 4) ∧ ((mInR x4 ∧ mInR (h 9 0 x3)) ∧ ((h 9 0 x3) ≤ x4 → (A2_countAllClasses_8 K b x1 x2 (x3 + 1) h)) ∧ (¬ (h 9 0 x3) ≤ x4 → (OkI M0_startsClass [mR 1 b, mI x3, mI x4] h (fun v1 h1 => (mInR v1) ∧ (v1 = 0 → (A2_countAllClasses_27 K b x1 x2 x3 (x4 + 1) h1)) ∧ (¬ v1 = 0 → ((mInR x1) ∧ (x1 = 0 → (A2_countAllClasses_27 K b x1 (x2 + 1) x3 (x4 + 1) h1)) ∧ (¬ x1 = 0 → (OkI M2_isFilledClass [mR 12 b, mI x3, mI x4] h1 (fun v2 h2 => (mInR v2) ∧ (¬ v2 = 0 → (A2_countAllClasses_27 K b x1 x2 x3 (x4 + 1) h2)) ∧ (v2 = 0 → (A2_countAllClasses_27 K b x1 (x2 + 1) x3 (x4 + 1) h2)))))))))))) : A2_countAllClasses_27 K b x1 x2 x3 x4 h := by
  refine mw_iload (dT d2_countAllClasses 16 rfl) rfl ?_
  refine mw_aload_n (dT d2_countAllClasses 17 rfl) rfl (by decide) ?_
  refine mw_getR fl_X2_28 (dT d2_countAllClasses 18 rfl) ?_
  refine mw_getR fl_X2_130 (dT d2_countAllClasses 19 rfl) ?_
  refine mw_iload_n (dT d2_countAllClasses 20 rfl) rfl ?_
  obtain ⟨z, T⟩ := T
  refine mw_iaload ro_9 (dT d2_countAllClasses 21 rfl) z ?_
  obtain ⟨z, T1, T2⟩ := T
  refine mw_icmp_ge 77 (dT d2_countAllClasses 22 rfl) (by decide) z (fun z => ?_) (fun z => ?_)
  · have T := T1 z
    refine mw_iinc (dT d2_countAllClasses 39 rfl) rfl (by decide) ?_
    refine mw_goto 8 (dT d2_countAllClasses 40 rfl) (by decide) ?_
    exact At.forget [4] T
  · have T := T2 z
    refine mw_aload_n (dT d2_countAllClasses 23 rfl) rfl (by decide) ?_
    refine mw_getR fl_X2_32 (dT d2_countAllClasses 24 rfl) ?_
    refine mw_iload_n (dT d2_countAllClasses 25 rfl) rfl ?_
    refine mw_iload (dT d2_countAllClasses 26 rfl) rfl ?_
    refine mw_callVI mv_0_startsClass ml_X2_124 (by decide) (dT d2_countAllClasses 27 rfl) (as := [mI _, mI _]) rfl rfl T (fun v1 h1 T => ?_)
    obtain ⟨z, T1, T2⟩ := T
    refine mw_if_eq 71 (dT d2_countAllClasses 28 rfl) (by decide) z (fun z => ?_) (fun z => ?_)
    · have T := T1 z
      refine mw_iinc (dT d2_countAllClasses 37 rfl) rfl (by decide) ?_
      refine mw_goto 27 (dT d2_countAllClasses 38 rfl) (by decide) ?_
      exact T
    · have T := T2 z
      refine mw_iload_n (dT d2_countAllClasses 29 rfl) rfl ?_
      obtain ⟨z, T1, T2⟩ := T
      refine mw_if_eq 68 (dT d2_countAllClasses 30 rfl) (by decide) z (fun z => ?_) (fun z => ?_)
      · have T := T1 z
        refine mw_iinc (dT d2_countAllClasses 36 rfl) rfl (by decide) ?_
        refine mw_iinc (dT d2_countAllClasses 37 rfl) rfl (by decide) ?_
        refine mw_goto 27 (dT d2_countAllClasses 38 rfl) (by decide) ?_
        exact T
      · have T := T2 z
        refine mw_aload_n (dT d2_countAllClasses 31 rfl) rfl (by decide) ?_
        refine mw_iload_n (dT d2_countAllClasses 32 rfl) rfl ?_
        refine mw_iload (dT d2_countAllClasses 33 rfl) rfl ?_
        refine mw_callVI mv_2_isFilledClass ml_X2_136 (by decide) (dT d2_countAllClasses 34 rfl) (as := [mI _, mI _]) rfl rfl T (fun v2 h2 T => ?_)
        obtain ⟨z, T1, T2⟩ := T
        refine mw_if_ne 71 (dT d2_countAllClasses 35 rfl) (by decide) z (fun z => ?_) (fun z => ?_)
        · have T := T1 z
          refine mw_iinc (dT d2_countAllClasses 37 rfl) rfl (by decide) ?_
          refine mw_goto 27 (dT d2_countAllClasses 38 rfl) (by decide) ?_
          exact T
        · have T := T2 z
          refine mw_iinc (dT d2_countAllClasses 36 rfl) rfl (by decide) ?_
          refine mw_iinc (dT d2_countAllClasses 37 rfl) rfl (by decide) ?_
          refine mw_goto 27 (dT d2_countAllClasses 38 rfl) (by decide) ?_
          exact T
theorem s2_countAllClasses {K : Int → mH → Prop} {b : Int} {x1 : Int} {h : mH} (T : OkV M2_price [mR 12 b] h (fun h1 => A2_countAllClasses_8 K b x1 0 0 h1)) : OkI M2_countAllClasses [mR 12 b, mI x1] h K := by
  refine Ok.of rfl (n := 3) rfl ?_
  show At (mPI K) M2_countAllClasses 0 [mR 12 b, mI x1, mU, mU, mU] [] h
  refine mw_aload_n (dT d2_countAllClasses 0 rfl) rfl (by decide) ?_
  refine mw_callVV mv_2_price ml_X2_81 (by decide) (dT d2_countAllClasses 1 rfl) (as := []) rfl rfl T (fun h1 T => ?_)
  refine mw_iconst (dT d2_countAllClasses 2 rfl) ?_
  refine mw_istore_n (dT d2_countAllClasses 3 rfl) (by decide) ?_
  refine mw_iconst (dT d2_countAllClasses 4 rfl) ?_
  refine mw_istore_n (dT d2_countAllClasses 5 rfl) (by decide) ?_
  exact T
abbrev A2_countAt_5 (K : Int → mH → Prop) (b : Int) (x1 x2 x3 x4 : Int) (h : mH) : Prop := At (mPI K) M2_countAt 5 [mR 12 b, mI x1, mI x2, mI x3, mI x4] [] h
theorem s2_countAt_5 {K : Int → mH → Prop} {b : Int} {x1 x2 x3 x4 : Int} {h : mH} (T : (0 ≤ x1 ∧ x1 < 4) ∧ ((mInR x4 ∧ mInR (h 9 0 x1)) ∧ ((h 9 0 x1) ≤ x4 → (K x3 h)) ∧ (¬ (h 9 0 x1) ≤ x4 → (OkI M0_startsClass [mR 1 b, mI x1, mI x4] h (fun v1 h1 => (mInR v1) ∧ (v1 = 0 → (A2_countAt_5 K b x1 x2 x3 (x4 + 1) h1)) ∧ (¬ v1 = 0 → (OkI M6_slot [mI x1, mI x4] h1 (fun v2 h2 => (0 ≤ v2 ∧ v2 < 32) ∧ ((mInR (h2 6 b v2) ∧ mInR x2) ∧ (¬ (h2 6 b v2) = x2 → (A2_countAt_5 K b x1 x2 x3 (x4 + 1) h2)) ∧ ((h2 6 b v2) = x2 → (A2_countAt_5 K b x1 x2 (x3 + 1) (x4 + 1) h2))))))))))) : A2_countAt_5 K b x1 x2 x3 x4 h := by
  refine mw_iload (dT d2_countAt 4 rfl) rfl ?_
  refine mw_aload_n (dT d2_countAt 5 rfl) rfl (by decide) ?_
  refine mw_getR fl_X2_28 (dT d2_countAt 6 rfl) ?_
  refine mw_getR fl_X2_130 (dT d2_countAt 7 rfl) ?_
  refine mw_iload_n (dT d2_countAt 8 rfl) rfl ?_
  obtain ⟨z, T⟩ := T
  refine mw_iaload ro_9 (dT d2_countAt 9 rfl) z ?_
  obtain ⟨z, T1, T2⟩ := T
  refine mw_icmp_ge 59 (dT d2_countAt 10 rfl) (by decide) z (fun z => ?_) (fun z => ?_)
  · have T := T1 z
    refine mw_iload_n (dT d2_countAt 29 rfl) rfl ?_
    exact mw_iret rfl (dT d2_countAt 30 rfl) ⟨_, rfl, T⟩
  · have T := T2 z
    refine mw_aload_n (dT d2_countAt 11 rfl) rfl (by decide) ?_
    refine mw_getR fl_X2_32 (dT d2_countAt 12 rfl) ?_
    refine mw_iload_n (dT d2_countAt 13 rfl) rfl ?_
    refine mw_iload (dT d2_countAt 14 rfl) rfl ?_
    refine mw_callVI mv_0_startsClass ml_X2_124 (by decide) (dT d2_countAt 15 rfl) (as := [mI _, mI _]) rfl rfl T (fun v1 h1 T => ?_)
    obtain ⟨z, T1, T2⟩ := T
    refine mw_if_eq 53 (dT d2_countAt 16 rfl) (by decide) z (fun z => ?_) (fun z => ?_)
    · have T := T1 z
      refine mw_iinc (dT d2_countAt 27 rfl) rfl (by decide) ?_
      refine mw_goto 5 (dT d2_countAt 28 rfl) (by decide) ?_
      exact T
    · have T := T2 z
      refine mw_aload_n (dT d2_countAt 17 rfl) rfl (by decide) ?_
      refine mw_getR fl_X2_32 (dT d2_countAt 18 rfl) ?_
      refine mw_getR fl_X2_42 (dT d2_countAt 19 rfl) ?_
      refine mw_iload_n (dT d2_countAt 20 rfl) rfl ?_
      refine mw_iload (dT d2_countAt 21 rfl) rfl ?_
      refine mw_callNI mt_6_slot (host := "RateOffice") (by decide) (by decide) (dT d2_countAt 22 rfl) (as := [mI _, mI _]) rfl rfl T (fun v2 h2 T => ?_)
      obtain ⟨z, T⟩ := T
      refine mw_iaload ro_6 (dT d2_countAt 23 rfl) z ?_
      refine mw_iload_n (dT d2_countAt 24 rfl) rfl ?_
      obtain ⟨z, T1, T2⟩ := T
      refine mw_icmp_ne 53 (dT d2_countAt 25 rfl) (by decide) z (fun z => ?_) (fun z => ?_)
      · have T := T1 z
        refine mw_iinc (dT d2_countAt 27 rfl) rfl (by decide) ?_
        refine mw_goto 5 (dT d2_countAt 28 rfl) (by decide) ?_
        exact T
      · have T := T2 z
        refine mw_iinc (dT d2_countAt 26 rfl) rfl (by decide) ?_
        refine mw_iinc (dT d2_countAt 27 rfl) rfl (by decide) ?_
        refine mw_goto 5 (dT d2_countAt 28 rfl) (by decide) ?_
        exact T
theorem s2_countAt {K : Int → mH → Prop} {b : Int} {x1 : Int} {x2 : Int} {h : mH} (T : A2_countAt_5 K b x1 x2 0 0 h) : OkI M2_countAt [mR 12 b, mI x1, mI x2] h K := by
  refine Ok.of rfl (n := 2) rfl ?_
  show At (mPI K) M2_countAt 0 [mR 12 b, mI x1, mI x2, mU, mU] [] h
  refine mw_iconst (dT d2_countAt 0 rfl) ?_
  refine mw_istore_n (dT d2_countAt 1 rfl) (by decide) ?_
  refine mw_iconst (dT d2_countAt 2 rfl) ?_
  refine mw_istore (dT d2_countAt 3 rfl) (by decide) ?_
  exact T
abbrev A2_turnOnce_18 (K : Int → mH → Prop) (b : Int) (x1 x2 x3 x4 : Int) (h : mH) : Prop := At (mPI K) M2_turnOnce 18 [mR 12 b, mI x1, mI x2, mI x3, mI x4, mU] [] h
theorem s2_turnOnce_18 {K : Int → mH → Prop} {b : Int} {x1 x2 x3 x4 : Int} {h : mH} (T : (0 ≤ x1 ∧ x1 < 4) ∧ ((mInR x4 ∧ mInR (h 9 0 x1)) ∧ ((h 9 0 x1) ≤ x4 → (K x2 h)) ∧ (¬ (h 9 0 x1) ≤ x4 → (OkI M6_slot [mI x1, mI x4] h (fun v1 h1 => OkI M0_startsClass [mR 1 b, mI x1, mI x4] h1 (fun v2 h2 => (mInR v2) ∧ (v2 = 0 → ((0 ≤ v1 ∧ v1 < 32) ∧ (∀ h3 : mH, h3 = mSet h2 6 b v1 x3 → (A2_turnOnce_18 K b x1 x2 x3 (x4 + 1) h3)))) ∧ (¬ v2 = 0 → (OkI M2_turned [mR 12 b, mI x1, mI v1] h2 (fun v3 h4 => (0 ≤ v1 ∧ v1 < 32) ∧ ((mInR v3 ∧ mInR (h4 6 b v1)) ∧ (¬ v3 = (h4 6 b v1) → ((0 ≤ v1 ∧ v1 < 32) ∧ (∀ h5 : mH, h5 = mSet h4 6 b v1 v3 → (A2_turnOnce_18 K b x1 (x2 + 1) v3 (x4 + 1) h5)))) ∧ (v3 = (h4 6 b v1) → ((0 ≤ v1 ∧ v1 < 32) ∧ (∀ h6 : mH, h6 = mSet h4 6 b v1 v3 → (A2_turnOnce_18 K b x1 (x2 + 0) v3 (x4 + 1) h6)))))))))))))) : A2_turnOnce_18 K b x1 x2 x3 x4 h := by
  refine mw_iload (dT d2_turnOnce 11 rfl) rfl ?_
  refine mw_aload_n (dT d2_turnOnce 12 rfl) rfl (by decide) ?_
  refine mw_getR fl_X2_28 (dT d2_turnOnce 13 rfl) ?_
  refine mw_getR fl_X2_130 (dT d2_turnOnce 14 rfl) ?_
  refine mw_iload_n (dT d2_turnOnce 15 rfl) rfl ?_
  obtain ⟨z, T⟩ := T
  refine mw_iaload ro_9 (dT d2_turnOnce 16 rfl) z ?_
  obtain ⟨z, T1, T2⟩ := T
  refine mw_icmp_ge 100 (dT d2_turnOnce 17 rfl) (by decide) z (fun z => ?_) (fun z => ?_)
  · have T := T1 z
    refine mw_iload_n (dT d2_turnOnce 54 rfl) rfl ?_
    exact mw_iret rfl (dT d2_turnOnce 55 rfl) ⟨_, rfl, T⟩
  · have T := T2 z
    refine mw_iload_n (dT d2_turnOnce 18 rfl) rfl ?_
    refine mw_iload (dT d2_turnOnce 19 rfl) rfl ?_
    refine mw_callNI mt_6_slot (host := "RateOffice") (by decide) (by decide) (dT d2_turnOnce 20 rfl) (as := [mI _, mI _]) rfl rfl T (fun v1 h1 T => ?_)
    refine mw_istore (dT d2_turnOnce 21 rfl) (by decide) ?_
    refine mw_aload_n (dT d2_turnOnce 22 rfl) rfl (by decide) ?_
    refine mw_getR fl_X2_32 (dT d2_turnOnce 23 rfl) ?_
    refine mw_iload_n (dT d2_turnOnce 24 rfl) rfl ?_
    refine mw_iload (dT d2_turnOnce 25 rfl) rfl ?_
    refine mw_callVI mv_0_startsClass ml_X2_124 (by decide) (dT d2_turnOnce 26 rfl) (as := [mI _, mI _]) rfl rfl T (fun v2 h2 T => ?_)
    obtain ⟨z, T1, T2⟩ := T
    refine mw_if_eq 83 (dT d2_turnOnce 27 rfl) (by decide) z (fun z => ?_) (fun z => ?_)
    · have T := T1 z
      refine mw_aload_n (dT d2_turnOnce 46 rfl) rfl (by decide) ?_
      refine mw_getR fl_X2_32 (dT d2_turnOnce 47 rfl) ?_
      refine mw_getR fl_X2_42 (dT d2_turnOnce 48 rfl) ?_
      refine mw_iload (dT d2_turnOnce 49 rfl) rfl ?_
      refine mw_iload_n (dT d2_turnOnce 50 rfl) rfl ?_
      obtain ⟨z, T⟩ := T
      have T := T _ rfl
      refine mw_iastore ro_6 (dT d2_turnOnce 51 rfl) z ?_
      refine mw_iinc (dT d2_turnOnce 52 rfl) rfl (by decide) ?_
      refine mw_goto 18 (dT d2_turnOnce 53 rfl) (by decide) ?_
      exact At.forget [5] T
    · have T := T2 z
      refine mw_aload_n (dT d2_turnOnce 28 rfl) rfl (by decide) ?_
      refine mw_iload_n (dT d2_turnOnce 29 rfl) rfl ?_
      refine mw_iload (dT d2_turnOnce 30 rfl) rfl ?_
      refine mw_callVI mv_2_turned ml_X2_142 (by decide) (dT d2_turnOnce 31 rfl) (as := [mI _, mI _]) rfl rfl T (fun v3 h4 T => ?_)
      refine mw_istore_n (dT d2_turnOnce 32 rfl) (by decide) ?_
      refine mw_iload_n (dT d2_turnOnce 33 rfl) rfl ?_
      refine mw_iload_n (dT d2_turnOnce 34 rfl) rfl ?_
      refine mw_aload_n (dT d2_turnOnce 35 rfl) rfl (by decide) ?_
      refine mw_getR fl_X2_32 (dT d2_turnOnce 36 rfl) ?_
      refine mw_getR fl_X2_42 (dT d2_turnOnce 37 rfl) ?_
      refine mw_iload (dT d2_turnOnce 38 rfl) rfl ?_
      obtain ⟨z, T⟩ := T
      refine mw_iaload ro_6 (dT d2_turnOnce 39 rfl) z ?_
      obtain ⟨z, T1, T2⟩ := T
      refine mw_icmp_ne 80 (dT d2_turnOnce 40 rfl) (by decide) z (fun z => ?_) (fun z => ?_)
      · have T := T1 z
        refine mw_iconst (dT d2_turnOnce 43 rfl) ?_
        refine mw_iadd (dT d2_turnOnce 44 rfl) ?_
        refine mw_istore_n (dT d2_turnOnce 45 rfl) (by decide) ?_
        refine mw_aload_n (dT d2_turnOnce 46 rfl) rfl (by decide) ?_
        refine mw_getR fl_X2_32 (dT d2_turnOnce 47 rfl) ?_
        refine mw_getR fl_X2_42 (dT d2_turnOnce 48 rfl) ?_
        refine mw_iload (dT d2_turnOnce 49 rfl) rfl ?_
        refine mw_iload_n (dT d2_turnOnce 50 rfl) rfl ?_
        obtain ⟨z, T⟩ := T
        have T := T _ rfl
        refine mw_iastore ro_6 (dT d2_turnOnce 51 rfl) z ?_
        refine mw_iinc (dT d2_turnOnce 52 rfl) rfl (by decide) ?_
        refine mw_goto 18 (dT d2_turnOnce 53 rfl) (by decide) ?_
        exact At.forget [5] T
      · have T := T2 z
        refine mw_iconst (dT d2_turnOnce 41 rfl) ?_
        refine mw_goto 81 (dT d2_turnOnce 42 rfl) (by decide) ?_
        refine mw_iadd (dT d2_turnOnce 44 rfl) ?_
        refine mw_istore_n (dT d2_turnOnce 45 rfl) (by decide) ?_
        refine mw_aload_n (dT d2_turnOnce 46 rfl) rfl (by decide) ?_
        refine mw_getR fl_X2_32 (dT d2_turnOnce 47 rfl) ?_
        refine mw_getR fl_X2_42 (dT d2_turnOnce 48 rfl) ?_
        refine mw_iload (dT d2_turnOnce 49 rfl) rfl ?_
        refine mw_iload_n (dT d2_turnOnce 50 rfl) rfl ?_
        obtain ⟨z, T⟩ := T
        have T := T _ rfl
        refine mw_iastore ro_6 (dT d2_turnOnce 51 rfl) z ?_
        refine mw_iinc (dT d2_turnOnce 52 rfl) rfl (by decide) ?_
        refine mw_goto 18 (dT d2_turnOnce 53 rfl) (by decide) ?_
        exact At.forget [5] T
theorem s2_turnOnce {K : Int → mH → Prop} {b : Int} {x1 : Int} {h : mH} (T : OkV M2_price [mR 12 b] h (fun h1 => OkV M2_gather [mR 12 b, mI x1] h1 (fun h2 => A2_turnOnce_18 K b x1 0 10000 0 h2))) : OkI M2_turnOnce [mR 12 b, mI x1] h K := by
  refine Ok.of rfl (n := 4) rfl ?_
  show At (mPI K) M2_turnOnce 0 [mR 12 b, mI x1, mU, mU, mU, mU] [] h
  refine mw_aload_n (dT d2_turnOnce 0 rfl) rfl (by decide) ?_
  refine mw_callVV mv_2_price ml_X2_81 (by decide) (dT d2_turnOnce 1 rfl) (as := []) rfl rfl T (fun h1 T => ?_)
  refine mw_aload_n (dT d2_turnOnce 2 rfl) rfl (by decide) ?_
  refine mw_iload_n (dT d2_turnOnce 3 rfl) rfl ?_
  refine mw_callVV mv_2_gather ml_X2_84 (by decide) (dT d2_turnOnce 4 rfl) (as := [mI _]) rfl rfl T (fun h2 T => ?_)
  refine mw_iconst (dT d2_turnOnce 5 rfl) ?_
  refine mw_istore_n (dT d2_turnOnce 6 rfl) (by decide) ?_
  refine mw_sipush (by decide) (dT d2_turnOnce 7 rfl) ?_
  refine mw_istore_n (dT d2_turnOnce 8 rfl) (by decide) ?_
  refine mw_iconst (dT d2_turnOnce 9 rfl) ?_
  refine mw_istore (dT d2_turnOnce 10 rfl) (by decide) ?_
  exact T
theorem s2_turned {K : Int → mH → Prop} {b : Int} {x1 : Int} {x2 : Int} {h : mH} (T : (0 ≤ x2 ∧ x2 < 32) ∧ ((0 ≤ x2 ∧ x2 < 32) ∧ ((mInL (h 15 b x2)) ∧ (0 < (h 15 b x2) → ((mInR (h 6 b x2)) ∧ ((0 ≤ x2 ∧ x2 < 32) ∧ ((mInL ((h 6 b x2) * (h 14 b x2)) ∧ mInL (h 15 b x2) ∧ (h 15 b x2) ≠ 0) ∧ ((0 ≤ x1 ∧ x1 < 4) ∧ ((0 ≤ x1 ∧ x1 < 4) ∧ (OkI M6_clamp [mJ (Int.tdiv ((h 6 b x2) * (h 14 b x2)) (h 15 b x2)), mI (h 10 0 x1), mI (h 11 0 x1)] h (fun v1 h1 => (0 ≤ x2 ∧ x2 < 32) ∧ ((mInR (h1 1 b 3)) ∧ ((mInR (h1 1 b 3)) ∧ ((h1 1 b 3) ≤ 0 → (K v1 h1)) ∧ (¬ (h1 1 b 3) ≤ 0 → ((mInL ((h1 16 b x2) + (h1 1 b 3))) ∧ (0 < ((h1 16 b x2) + (h1 1 b 3)) → ((mInR (h 6 b x2)) ∧ ((mInR (v1 - (h 6 b x2))) ∧ ((0 ≤ x2 ∧ x2 < 32) ∧ (OkJ MJ9_floorDiv_f86c9 [mJ ((v1 - (h 6 b x2)) * (h1 16 b x2)), mJ ((h1 16 b x2) + (h1 1 b 3))] h1 (fun v2 h2 => K ((h 6 b x2) + v2) h2)))))) ∧ (¬ 0 < ((h1 16 b x2) + (h1 1 b 3)) → (K v1 h1)))))))))))))) ∧ (¬ 0 < (h 15 b x2) → (K (h 6 b x2) h))))) : OkI M2_turned [mR 12 b, mI x1, mI x2] h K := by
  refine Ok.of rfl (n := 6) rfl ?_
  show At (mPI K) M2_turned 0 [mR 12 b, mI x1, mI x2, mU, mU, mU, mU, mU, mU] [] h
  refine mw_aload_n (dT d2_turned 0 rfl) rfl (by decide) ?_
  refine mw_getR fl_X2_32 (dT d2_turned 1 rfl) ?_
  refine mw_getR fl_X2_42 (dT d2_turned 2 rfl) ?_
  refine mw_iload_n (dT d2_turned 3 rfl) rfl ?_
  obtain ⟨z, T⟩ := T
  refine mw_iaload ro_6 (dT d2_turned 4 rfl) z ?_
  refine mw_istore_n (dT d2_turned 5 rfl) (by decide) ?_
  refine mw_aload_n (dT d2_turned 6 rfl) rfl (by decide) ?_
  refine mw_getR fl_X2_18 (dT d2_turned 7 rfl) ?_
  refine mw_iload_n (dT d2_turned 8 rfl) rfl ?_
  obtain ⟨z, T⟩ := T
  refine mw_laload ro_15 (dT d2_turned 9 rfl) z ?_
  refine mw_lstore (dT d2_turned 10 rfl) (by decide) ?_
  refine mw_lload (dT d2_turned 11 rfl) rfl ?_
  refine mw_lconst (dT d2_turned 12 rfl) ?_
  obtain ⟨z, T1, T2⟩ := T
  refine mw_lif_gt 27 (dT d2_turned 13 rfl) (dT d2_turned 14 rfl) (by decide) ⟨z, by decide⟩ (fun z => ?_) (fun z => ?_)
  · have T := T1 z
    refine mw_iload_n (dT d2_turned 17 rfl) rfl ?_
    obtain ⟨z, T⟩ := T
    refine mw_i2l (dT d2_turned 18 rfl) z ?_
    refine mw_aload_n (dT d2_turned 19 rfl) rfl (by decide) ?_
    refine mw_getR fl_X2_15 (dT d2_turned 20 rfl) ?_
    refine mw_iload_n (dT d2_turned 21 rfl) rfl ?_
    obtain ⟨z, T⟩ := T
    refine mw_laload ro_14 (dT d2_turned 22 rfl) z ?_
    refine mw_lmul (dT d2_turned 23 rfl) ?_
    refine mw_lload (dT d2_turned 24 rfl) rfl ?_
    obtain ⟨z, T⟩ := T
    refine mw_ldiv (dT d2_turned 25 rfl) z ?_
    refine mw_aload_n (dT d2_turned 26 rfl) rfl (by decide) ?_
    refine mw_getR fl_X2_28 (dT d2_turned 27 rfl) ?_
    refine mw_getR fl_X2_118 (dT d2_turned 28 rfl) ?_
    refine mw_iload_n (dT d2_turned 29 rfl) rfl ?_
    obtain ⟨z, T⟩ := T
    refine mw_iaload ro_10 (dT d2_turned 30 rfl) z ?_
    refine mw_aload_n (dT d2_turned 31 rfl) rfl (by decide) ?_
    refine mw_getR fl_X2_28 (dT d2_turned 32 rfl) ?_
    refine mw_getR fl_X2_121 (dT d2_turned 33 rfl) ?_
    refine mw_iload_n (dT d2_turned 34 rfl) rfl ?_
    obtain ⟨z, T⟩ := T
    refine mw_iaload ro_11 (dT d2_turned 35 rfl) z ?_
    refine mw_callNI mt_6_clamp (host := "RateOffice") (by decide) (by decide) (dT d2_turned 36 rfl) (as := [mJ _, mI _, mI _]) rfl rfl T (fun v1 h1 T => ?_)
    refine mw_istore (dT d2_turned 37 rfl) (by decide) ?_
    refine mw_aload_n (dT d2_turned 38 rfl) rfl (by decide) ?_
    refine mw_getR fl_X2_21 (dT d2_turned 39 rfl) ?_
    refine mw_iload_n (dT d2_turned 40 rfl) rfl ?_
    obtain ⟨z, T⟩ := T
    refine mw_laload ro_16 (dT d2_turned 41 rfl) z ?_
    refine mw_aload_n (dT d2_turned 42 rfl) rfl (by decide) ?_
    refine mw_getR fl_X2_32 (dT d2_turned 43 rfl) ?_
    refine mw_getI fl_X2_149 (dT d2_turned 44 rfl) ?_
    obtain ⟨z, T⟩ := T
    refine mw_i2l (dT d2_turned 45 rfl) z ?_
    refine mw_ladd (dT d2_turned 46 rfl) ?_
    refine mw_lstore (dT d2_turned 47 rfl) (by decide) ?_
    refine mw_aload_n (dT d2_turned 48 rfl) rfl (by decide) ?_
    refine mw_getR fl_X2_32 (dT d2_turned 49 rfl) ?_
    refine mw_getI fl_X2_149 (dT d2_turned 50 rfl) ?_
    obtain ⟨z, T1, T2⟩ := T
    refine mw_if_le 96 (dT d2_turned 51 rfl) (by decide) z (fun z => ?_) (fun z => ?_)
    · have T := T1 z
      refine mw_iload (dT d2_turned 56 rfl) rfl ?_
      exact mw_iret rfl (dT d2_turned 57 rfl) ⟨_, rfl, T⟩
    · have T := T2 z
      refine mw_lload (dT d2_turned 52 rfl) rfl ?_
      refine mw_lconst (dT d2_turned 53 rfl) ?_
      obtain ⟨z, T1, T2⟩ := T
      refine mw_lif_gt 99 (dT d2_turned 54 rfl) (dT d2_turned 55 rfl) (by decide) ⟨z, by decide⟩ (fun z => ?_) (fun z => ?_)
      · have T := T1 z
        refine mw_iload_n (dT d2_turned 58 rfl) rfl ?_
        obtain ⟨z, T⟩ := T
        refine mw_i2l (dT d2_turned 59 rfl) z ?_
        refine mw_iload (dT d2_turned 60 rfl) rfl ?_
        refine mw_iload_n (dT d2_turned 61 rfl) rfl ?_
        refine mw_isub (dT d2_turned 62 rfl) ?_
        obtain ⟨z, T⟩ := T
        refine mw_i2l (dT d2_turned 63 rfl) z ?_
        refine mw_aload_n (dT d2_turned 64 rfl) rfl (by decide) ?_
        refine mw_getR fl_X2_21 (dT d2_turned 65 rfl) ?_
        refine mw_iload_n (dT d2_turned 66 rfl) rfl ?_
        obtain ⟨z, T⟩ := T
        refine mw_laload ro_16 (dT d2_turned 67 rfl) z ?_
        refine mw_lmul (dT d2_turned 68 rfl) ?_
        refine mw_lload (dT d2_turned 69 rfl) rfl ?_
        refine mw_callSJ mt_J9_floorDiv_f86c9 ml_X2_152 (by decide) (dT d2_turned 70 rfl) (as := [mJ _, mJ _]) rfl rfl T (fun v2 h2 T => ?_)
        refine mw_ladd (dT d2_turned 71 rfl) ?_
        refine mw_l2i (dT d2_turned 72 rfl) ?_
        exact mw_iret rfl (dT d2_turned 73 rfl) ⟨_, rfl, T⟩
      · have T := T2 z
        refine mw_iload (dT d2_turned 56 rfl) rfl ?_
        exact mw_iret rfl (dT d2_turned 57 rfl) ⟨_, rfl, T⟩
  · have T := T2 z
    refine mw_iload_n (dT d2_turned 15 rfl) rfl ?_
    exact mw_iret rfl (dT d2_turned 16 rfl) ⟨_, rfl, T⟩
abbrev A2_playRounds_5 (K : Int → mH → Prop) (b : Int) (x1 x2 x3 x4 : Int) (h : mH) : Prop := At (mPI K) M2_playRounds 5 [mR 12 b, mI x1, mI x2, mI x3, mI x4, mU] [] h
abbrev A2_playRounds_20 (K : Int → mH → Prop) (b : Int) (x1 x2 x3 x4 x5 : Int) (h : mH) : Prop := At (mPI K) M2_playRounds 20 [mR 12 b, mI x1, mI x2, mI x3, mI x4, mI x5] [] h
theorem s2_playRounds_5 {K : Int → mH → Prop} {b : Int} {x1 x2 x3 x4 : Int} {h : mH} (T : (mInR x4 ∧ mInR x1) ∧ (x1 ≤ x4 → ((x3 = 0 ∨ x3 = 1) ∧ K x3 h)) ∧ (¬ x1 ≤ x4 → ((mInR x3) ∧ (x3 = 0 → ((x3 = 0 ∨ x3 = 1) ∧ K x3 h)) ∧ (¬ x3 = 0 → (A2_playRounds_20 K b x1 x2 0 x4 0 h))))) : A2_playRounds_5 K b x1 x2 x3 x4 h := by
  refine mw_iload (dT d2_playRounds 4 rfl) rfl ?_
  refine mw_iload_n (dT d2_playRounds 5 rfl) rfl ?_
  obtain ⟨z, T1, T2⟩ := T
  refine mw_icmp_ge 61 (dT d2_playRounds 6 rfl) (by decide) z (fun z => ?_) (fun z => ?_)
  · have T := T1 z
    refine mw_iload_n (dT d2_playRounds 31 rfl) rfl ?_
    obtain ⟨z, T⟩ := T
    exact mw_zret rfl (dT d2_playRounds 32 rfl) z ⟨_, rfl, T⟩
  · have T := T2 z
    refine mw_iload_n (dT d2_playRounds 7 rfl) rfl ?_
    obtain ⟨z, T1, T2⟩ := T
    refine mw_if_eq 61 (dT d2_playRounds 8 rfl) (by decide) z (fun z => ?_) (fun z => ?_)
    · have T := T1 z
      refine mw_iload_n (dT d2_playRounds 31 rfl) rfl ?_
      obtain ⟨z, T⟩ := T
      exact mw_zret rfl (dT d2_playRounds 32 rfl) z ⟨_, rfl, T⟩
    · have T := T2 z
      refine mw_iconst (dT d2_playRounds 9 rfl) ?_
      refine mw_istore_n (dT d2_playRounds 10 rfl) (by decide) ?_
      refine mw_iconst (dT d2_playRounds 11 rfl) ?_
      refine mw_istore (dT d2_playRounds 12 rfl) (by decide) ?_
      exact T
theorem s2_playRounds_20 {K : Int → mH → Prop} {b : Int} {x1 x2 x3 x4 x5 : Int} {h : mH} (T : (mInR x5 ∧ mInR (h 7 0 0)) ∧ ((h 7 0 0) ≤ x5 → (A2_playRounds_5 K b x1 x2 x3 (x4 + 1) h)) ∧ (¬ (h 7 0 0) ≤ x5 → ((mInR x5 ∧ mInR x2) ∧ (x5 = x2 → (A2_playRounds_20 K b x1 x2 x3 x4 (x5 + 1) h)) ∧ (¬ x5 = x2 → (OkI M2_turnOnce [mR 12 b, mI x5] h (fun v1 h1 => (mInR v1) ∧ (v1 ≤ 0 → (A2_playRounds_20 K b x1 x2 x3 x4 (x5 + 1) h1)) ∧ (¬ v1 ≤ 0 → (A2_playRounds_20 K b x1 x2 1 x4 (x5 + 1) h1)))))))) : A2_playRounds_20 K b x1 x2 x3 x4 x5 h := by
  refine mw_iload (dT d2_playRounds 13 rfl) rfl ?_
  refine mw_aload_n (dT d2_playRounds 14 rfl) rfl (by decide) ?_
  refine mw_getR fl_X2_28 (dT d2_playRounds 15 rfl) ?_
  refine mw_getI fl_X2_47 (dT d2_playRounds 16 rfl) ?_
  obtain ⟨z, T1, T2⟩ := T
  refine mw_icmp_ge 55 (dT d2_playRounds 17 rfl) (by decide) z (fun z => ?_) (fun z => ?_)
  · have T := T1 z
    refine mw_iinc (dT d2_playRounds 29 rfl) rfl (by decide) ?_
    refine mw_goto 5 (dT d2_playRounds 30 rfl) (by decide) ?_
    exact At.forget [5] T
  · have T := T2 z
    refine mw_iload (dT d2_playRounds 18 rfl) rfl ?_
    refine mw_iload_n (dT d2_playRounds 19 rfl) rfl ?_
    obtain ⟨z, T1, T2⟩ := T
    refine mw_icmp_eq 49 (dT d2_playRounds 20 rfl) (by decide) z (fun z => ?_) (fun z => ?_)
    · have T := T1 z
      refine mw_iinc (dT d2_playRounds 27 rfl) rfl (by decide) ?_
      refine mw_goto 20 (dT d2_playRounds 28 rfl) (by decide) ?_
      exact T
    · have T := T2 z
      refine mw_aload_n (dT d2_playRounds 21 rfl) rfl (by decide) ?_
      refine mw_iload (dT d2_playRounds 22 rfl) rfl ?_
      refine mw_callVI mv_2_turnOnce ml_X2_156 (by decide) (dT d2_playRounds 23 rfl) (as := [mI _]) rfl rfl T (fun v1 h1 T => ?_)
      obtain ⟨z, T1, T2⟩ := T
      refine mw_if_le 49 (dT d2_playRounds 24 rfl) (by decide) z (fun z => ?_) (fun z => ?_)
      · have T := T1 z
        refine mw_iinc (dT d2_playRounds 27 rfl) rfl (by decide) ?_
        refine mw_goto 20 (dT d2_playRounds 28 rfl) (by decide) ?_
        exact T
      · have T := T2 z
        refine mw_iconst (dT d2_playRounds 25 rfl) ?_
        refine mw_istore_n (dT d2_playRounds 26 rfl) (by decide) ?_
        refine mw_iinc (dT d2_playRounds 27 rfl) rfl (by decide) ?_
        refine mw_goto 20 (dT d2_playRounds 28 rfl) (by decide) ?_
        exact T
theorem s2_playRounds {K : Int → mH → Prop} {b : Int} {x1 : Int} {x2 : Int} {h : mH} (T : A2_playRounds_5 K b x1 x2 1 0 h) : OkI M2_playRounds [mR 12 b, mI x1, mI x2] h K := by
  refine Ok.of rfl (n := 3) rfl ?_
  show At (mPI K) M2_playRounds 0 [mR 12 b, mI x1, mI x2, mU, mU, mU] [] h
  refine mw_iconst (dT d2_playRounds 0 rfl) ?_
  refine mw_istore_n (dT d2_playRounds 1 rfl) (by decide) ?_
  refine mw_iconst (dT d2_playRounds 2 rfl) ?_
  refine mw_istore (dT d2_playRounds 3 rfl) (by decide) ?_
  exact T
abbrev A2_roundsTillBalance_4 (K : Int → mH → Prop) (b : Int) (x1 x2 x3 : Int) (h : mH) : Prop := At (mPI K) M2_roundsTillBalance 4 [mR 12 b, mI x1, mI x2, mI x3] [] h
theorem s2_roundsTillBalance_4 {K : Int → mH → Prop} {b : Int} {x1 x2 x3 : Int} {h : mH} (T : (mInR x3 ∧ mInR x1) ∧ (x1 < x3 → (K ((-2)) h)) ∧ (¬ x1 < x3 → ((mInR x2) ∧ (x2 = 0 → (K ((-2)) h)) ∧ (¬ x2 = 0 → (OkI M2_countUnbalanced [mR 12 b] h (fun v1 h1 => (mInR v1) ∧ (¬ v1 = 0 → (OkI M2_playRounds [mR 12 b, mI 1, mI ((-1))] h1 (fun v2 h2 => A2_roundsTillBalance_4 K b x1 v2 (x3 + 1) h2))) ∧ (v1 = 0 → (K x3 h1)))))))) : A2_roundsTillBalance_4 K b x1 x2 x3 h := by
  refine mw_iload_n (dT d2_roundsTillBalance 4 rfl) rfl ?_
  refine mw_iload_n (dT d2_roundsTillBalance 5 rfl) rfl ?_
  obtain ⟨z, T1, T2⟩ := T
  refine mw_icmp_gt 35 (dT d2_roundsTillBalance 6 rfl) (by decide) z (fun z => ?_) (fun z => ?_)
  · have T := T1 z
    refine mw_bipush (by decide) (dT d2_roundsTillBalance 21 rfl) ?_
    exact mw_iret rfl (dT d2_roundsTillBalance 22 rfl) ⟨_, rfl, T⟩
  · have T := T2 z
    refine mw_iload_n (dT d2_roundsTillBalance 7 rfl) rfl ?_
    obtain ⟨z, T1, T2⟩ := T
    refine mw_if_eq 35 (dT d2_roundsTillBalance 8 rfl) (by decide) z (fun z => ?_) (fun z => ?_)
    · have T := T1 z
      refine mw_bipush (by decide) (dT d2_roundsTillBalance 21 rfl) ?_
      exact mw_iret rfl (dT d2_roundsTillBalance 22 rfl) ⟨_, rfl, T⟩
    · have T := T2 z
      refine mw_aload_n (dT d2_roundsTillBalance 9 rfl) rfl (by decide) ?_
      refine mw_callVI mv_2_countUnbalanced ml_X2_160 (by decide) (dT d2_roundsTillBalance 10 rfl) (as := []) rfl rfl T (fun v1 h1 T => ?_)
      obtain ⟨z, T1, T2⟩ := T
      refine mw_if_ne 22 (dT d2_roundsTillBalance 11 rfl) (by decide) z (fun z => ?_) (fun z => ?_)
      · have T := T1 z
        refine mw_aload_n (dT d2_roundsTillBalance 14 rfl) rfl (by decide) ?_
        refine mw_iconst (dT d2_roundsTillBalance 15 rfl) ?_
        refine mw_iconst (dT d2_roundsTillBalance 16 rfl) ?_
        refine mw_callVI mv_2_playRounds ml_X2_164 (by decide) (dT d2_roundsTillBalance 17 rfl) (as := [mI _, mI _]) rfl rfl T (fun v2 h2 T => ?_)
        refine mw_istore_n (dT d2_roundsTillBalance 18 rfl) (by decide) ?_
        refine mw_iinc (dT d2_roundsTillBalance 19 rfl) rfl (by decide) ?_
        refine mw_goto 4 (dT d2_roundsTillBalance 20 rfl) (by decide) ?_
        exact T
      · have T := T2 z
        refine mw_iload_n (dT d2_roundsTillBalance 12 rfl) rfl ?_
        exact mw_iret rfl (dT d2_roundsTillBalance 13 rfl) ⟨_, rfl, T⟩
theorem s2_roundsTillBalance {K : Int → mH → Prop} {b : Int} {x1 : Int} {h : mH} (T : A2_roundsTillBalance_4 K b x1 1 0 h) : OkI M2_roundsTillBalance [mR 12 b, mI x1] h K := by
  refine Ok.of rfl (n := 2) rfl ?_
  show At (mPI K) M2_roundsTillBalance 0 [mR 12 b, mI x1, mU, mU] [] h
  refine mw_iconst (dT d2_roundsTillBalance 0 rfl) ?_
  refine mw_istore_n (dT d2_roundsTillBalance 1 rfl) (by decide) ?_
  refine mw_iconst (dT d2_roundsTillBalance 2 rfl) ?_
  refine mw_istore_n (dT d2_roundsTillBalance 3 rfl) (by decide) ?_
  exact T
theorem s2_rebaseBook {K : mH → Prop} {b : Int} {h : mH} (T : OkJ M2_sumPaid [mR 12 b] h (fun v1 h1 => (mInL v1) ∧ (v1 ≤ 0 → (K h1)) ∧ (¬ v1 ≤ 0 → ((mInR (h1 1 b 1)) ∧ (OkJ M0_sumOf [mR 1 b, mR 3 b] h1 (fun v2 h2 => (mInL ((h1 1 b 1) * v2) ∧ mInL v1 ∧ v1 ≠ 0) ∧ (OkI M6_clamp [mJ (Int.tdiv ((h1 1 b 1) * v2) v1), mI 1, mI 99999] h2 (fun v3 h3 => ∀ h4 : mH, h4 = mSet h3 1 b 1 v3 → (K h4))))))))) : OkV M2_rebaseBook [mR 12 b] h K := by
  refine Ok.of rfl (n := 2) rfl ?_
  show At (mPV K) M2_rebaseBook 0 [mR 12 b, mU, mU] [] h
  refine mw_aload_n (dT d2_rebaseBook 0 rfl) rfl (by decide) ?_
  refine mw_callVJ mv_2_sumPaid ml_X2_167 (by decide) (dT d2_rebaseBook 1 rfl) (as := []) rfl rfl T (fun v1 h1 T => ?_)
  refine mw_lstore_n (dT d2_rebaseBook 2 rfl) (by decide) ?_
  refine mw_lload_n (dT d2_rebaseBook 3 rfl) rfl ?_
  refine mw_lconst (dT d2_rebaseBook 4 rfl) ?_
  obtain ⟨z, T1, T2⟩ := T
  refine mw_lif_le 49 (dT d2_rebaseBook 5 rfl) (dT d2_rebaseBook 6 rfl) (by decide) ⟨z, by decide⟩ (fun z => ?_) (fun z => ?_)
  · have T := T1 z
    exact mw_vret rfl (dT d2_rebaseBook 26 rfl) ⟨rfl, T⟩
  · have T := T2 z
    refine mw_aload_n (dT d2_rebaseBook 7 rfl) rfl (by decide) ?_
    refine mw_getR fl_X2_32 (dT d2_rebaseBook 8 rfl) ?_
    refine mw_aload_n (dT d2_rebaseBook 9 rfl) rfl (by decide) ?_
    refine mw_getR fl_X2_32 (dT d2_rebaseBook 10 rfl) ?_
    refine mw_getI fl_X2_36 (dT d2_rebaseBook 11 rfl) ?_
    obtain ⟨z, T⟩ := T
    refine mw_i2l (dT d2_rebaseBook 12 rfl) z ?_
    refine mw_aload_n (dT d2_rebaseBook 13 rfl) rfl (by decide) ?_
    refine mw_getR fl_X2_32 (dT d2_rebaseBook 14 rfl) ?_
    refine mw_aload_n (dT d2_rebaseBook 15 rfl) rfl (by decide) ?_
    refine mw_getR fl_X2_32 (dT d2_rebaseBook 16 rfl) ?_
    refine mw_getR fl_X2_95 (dT d2_rebaseBook 17 rfl) ?_
    refine mw_callVJ mv_0_sumOf ml_X2_171 (by decide) (dT d2_rebaseBook 18 rfl) (as := [mR 3 _]) rfl rfl T (fun v2 h2 T => ?_)
    refine mw_lmul (dT d2_rebaseBook 19 rfl) ?_
    refine mw_lload_n (dT d2_rebaseBook 20 rfl) rfl ?_
    obtain ⟨z, T⟩ := T
    refine mw_ldiv (dT d2_rebaseBook 21 rfl) z ?_
    refine mw_iconst (dT d2_rebaseBook 22 rfl) ?_
    refine mw_ldc kc_X2_175 (dT d2_rebaseBook 23 rfl) ?_
    refine mw_callNI mt_6_clamp (host := "RateOffice") (by decide) (by decide) (dT d2_rebaseBook 24 rfl) (as := [mJ _, mI _, mI _]) rfl rfl T (fun v3 h3 T => ?_)
    have T := T _ rfl
    refine mw_putI fp_X2_36 (dT d2_rebaseBook 25 rfl) ?_
    exact mw_vret rfl (dT d2_rebaseBook 26 rfl) ⟨rfl, T⟩
abbrev A2_levelBook_13 (K : mH → Prop) (b : Int) (x1 : Int) (h : mH) : Prop := At (mPV K) M2_levelBook 13 [mR 12 b, mI x1, mU] [] h
theorem s2_levelBook_13 {K : mH → Prop} {b : Int} {x1 : Int} {h : mH} (T : (mInR x1 ∧ mInR (h 7 0 0)) ∧ ((h 7 0 0) ≤ x1 → (K h)) ∧ (¬ (h 7 0 0) ≤ x1 → (OkV M2_measure [mR 12 b, mI x1] h (fun h1 => OkI M2_widestClass [mR 12 b, mI x1] h1 (fun v1 h2 => (0 ≤ v1 ∧ v1 < 32) ∧ ((mInR (h2 6 b v1)) ∧ ((h2 6 b v1) ≤ 0 → (A2_levelBook_13 K b (x1 + 1) h2)) ∧ (¬ (h2 6 b v1) ≤ 0 → ((mInR (h2 1 b 1)) ∧ ((mInR (h2 6 b v1)) ∧ ((mInL ((h2 1 b 1) * (h2 6 b v1))) ∧ (OkI M6_clamp [mJ (Int.tdiv ((h2 1 b 1) * (h2 6 b v1)) 10000), mI 1, mI 99999] h2 (fun v2 h3 => ∀ h4 : mH, h4 = mSet h3 1 b 1 v2 → (OkV M2_divideRelativities [mR 12 b, mI x1, mI (h2 6 b v1)] h4 (fun h5 => A2_levelBook_13 K b (x1 + 1) h5)))))))))))))) : A2_levelBook_13 K b x1 h := by
  refine mw_iload_n (dT d2_levelBook 7 rfl) rfl ?_
  refine mw_aload_n (dT d2_levelBook 8 rfl) rfl (by decide) ?_
  refine mw_getR fl_X2_28 (dT d2_levelBook 9 rfl) ?_
  refine mw_getI fl_X2_47 (dT d2_levelBook 10 rfl) ?_
  obtain ⟨z, T1, T2⟩ := T
  refine mw_icmp_ge 87 (dT d2_levelBook 11 rfl) (by decide) z (fun z => ?_) (fun z => ?_)
  · have T := T1 z
    exact mw_vret rfl (dT d2_levelBook 46 rfl) ⟨rfl, T⟩
  · have T := T2 z
    refine mw_aload_n (dT d2_levelBook 12 rfl) rfl (by decide) ?_
    refine mw_iload_n (dT d2_levelBook 13 rfl) rfl ?_
    refine mw_callVV mv_2_measure ml_X2_139 (by decide) (dT d2_levelBook 14 rfl) (as := [mI _]) rfl rfl T (fun h1 T => ?_)
    refine mw_aload_n (dT d2_levelBook 15 rfl) rfl (by decide) ?_
    refine mw_getR fl_X2_32 (dT d2_levelBook 16 rfl) ?_
    refine mw_getR fl_X2_42 (dT d2_levelBook 17 rfl) ?_
    refine mw_aload_n (dT d2_levelBook 18 rfl) rfl (by decide) ?_
    refine mw_iload_n (dT d2_levelBook 19 rfl) rfl ?_
    refine mw_callVI mv_2_widestClass ml_X2_176 (by decide) (dT d2_levelBook 20 rfl) (as := [mI _]) rfl rfl T (fun v1 h2 T => ?_)
    obtain ⟨z, T⟩ := T
    refine mw_iaload ro_6 (dT d2_levelBook 21 rfl) z ?_
    refine mw_istore_n (dT d2_levelBook 22 rfl) (by decide) ?_
    refine mw_iload_n (dT d2_levelBook 23 rfl) rfl ?_
    obtain ⟨z, T1, T2⟩ := T
    refine mw_if_le 81 (dT d2_levelBook 24 rfl) (by decide) z (fun z => ?_) (fun z => ?_)
    · have T := T1 z
      refine mw_iinc (dT d2_levelBook 44 rfl) rfl (by decide) ?_
      refine mw_goto 13 (dT d2_levelBook 45 rfl) (by decide) ?_
      exact At.forget [2] T
    · have T := T2 z
      refine mw_aload_n (dT d2_levelBook 25 rfl) rfl (by decide) ?_
      refine mw_getR fl_X2_32 (dT d2_levelBook 26 rfl) ?_
      refine mw_aload_n (dT d2_levelBook 27 rfl) rfl (by decide) ?_
      refine mw_getR fl_X2_32 (dT d2_levelBook 28 rfl) ?_
      refine mw_getI fl_X2_36 (dT d2_levelBook 29 rfl) ?_
      obtain ⟨z, T⟩ := T
      refine mw_i2l (dT d2_levelBook 30 rfl) z ?_
      refine mw_iload_n (dT d2_levelBook 31 rfl) rfl ?_
      obtain ⟨z, T⟩ := T
      refine mw_i2l (dT d2_levelBook 32 rfl) z ?_
      refine mw_lmul (dT d2_levelBook 33 rfl) ?_
      refine mw_ldc2 kl_X2_45 (dT d2_levelBook 34 rfl) ?_
      obtain ⟨z, T⟩ := T
      refine mw_ldiv (dT d2_levelBook 35 rfl) ⟨z, by decide, by decide⟩ ?_
      refine mw_iconst (dT d2_levelBook 36 rfl) ?_
      refine mw_ldc kc_X2_175 (dT d2_levelBook 37 rfl) ?_
      refine mw_callNI mt_6_clamp (host := "RateOffice") (by decide) (by decide) (dT d2_levelBook 38 rfl) (as := [mJ _, mI _, mI _]) rfl rfl T (fun v2 h3 T => ?_)
      have T := T _ rfl
      refine mw_putI fp_X2_36 (dT d2_levelBook 39 rfl) ?_
      refine mw_aload_n (dT d2_levelBook 40 rfl) rfl (by decide) ?_
      refine mw_iload_n (dT d2_levelBook 41 rfl) rfl ?_
      refine mw_iload_n (dT d2_levelBook 42 rfl) rfl ?_
      refine mw_callVV mv_2_divideRelativities ml_X2_179 (by decide) (dT d2_levelBook 43 rfl) (as := [mI _, mI _]) rfl rfl T (fun h5 T => ?_)
      refine mw_iinc (dT d2_levelBook 44 rfl) rfl (by decide) ?_
      refine mw_goto 13 (dT d2_levelBook 45 rfl) (by decide) ?_
      exact At.forget [2] T
theorem s2_levelBook {K : mH → Prop} {b : Int} {h : mH} (T : (mInR (h 1 b 0)) ∧ (¬ (h 1 b 0) = 0 → (A2_levelBook_13 K b 0 h)) ∧ ((h 1 b 0) = 0 → (K h))) : OkV M2_levelBook [mR 12 b] h K := by
  refine Ok.of rfl (n := 2) rfl ?_
  show At (mPV K) M2_levelBook 0 [mR 12 b, mU, mU] [] h
  refine mw_aload_n (dT d2_levelBook 0 rfl) rfl (by decide) ?_
  refine mw_getR fl_X2_32 (dT d2_levelBook 1 rfl) ?_
  refine mw_getI fl_X2_78 (dT d2_levelBook 2 rfl) ?_
  obtain ⟨z, T1, T2⟩ := T
  refine mw_if_ne 11 (dT d2_levelBook 3 rfl) (by decide) z (fun z => ?_) (fun z => ?_)
  · have T := T1 z
    refine mw_iconst (dT d2_levelBook 5 rfl) ?_
    refine mw_istore_n (dT d2_levelBook 6 rfl) (by decide) ?_
    exact T
  · have T := T2 z
    exact mw_vret rfl (dT d2_levelBook 4 rfl) ⟨rfl, T⟩
abbrev A2_widestClass_8 (K : Int → mH → Prop) (b : Int) (x1 x2 x3 : Int) (h : mH) : Prop := At (mPI K) M2_widestClass 8 [mR 12 b, mI x1, mI x2, mI x3, mU] [] h
theorem s2_widestClass_8 {K : Int → mH → Prop} {b : Int} {x1 x2 x3 : Int} {h : mH} (T : (0 ≤ x1 ∧ x1 < 4) ∧ ((mInR x3 ∧ mInR (h 9 0 x1)) ∧ ((h 9 0 x1) ≤ x3 → (K x2 h)) ∧ (¬ (h 9 0 x1) ≤ x3 → (OkI M6_slot [mI x1, mI x3] h (fun v1 h1 => OkI M0_startsClass [mR 1 b, mI x1, mI x3] h1 (fun v2 h2 => (mInR v2) ∧ (v2 = 0 → (A2_widestClass_8 K b x1 x2 (x3 + 1) h2)) ∧ (¬ v2 = 0 → ((0 ≤ v1 ∧ v1 < 32) ∧ ((0 ≤ x2 ∧ x2 < 32) ∧ ((mInL (h2 16 b v1) ∧ mInL (h2 16 b x2)) ∧ ((h2 16 b v1) ≤ (h2 16 b x2) → (A2_widestClass_8 K b x1 x2 (x3 + 1) h2)) ∧ (¬ (h2 16 b v1) ≤ (h2 16 b x2) → (A2_widestClass_8 K b x1 v1 (x3 + 1) h2)))))))))))) : A2_widestClass_8 K b x1 x2 x3 h := by
  refine mw_iload_n (dT d2_widestClass 6 rfl) rfl ?_
  refine mw_aload_n (dT d2_widestClass 7 rfl) rfl (by decide) ?_
  refine mw_getR fl_X2_28 (dT d2_widestClass 8 rfl) ?_
  refine mw_getR fl_X2_130 (dT d2_widestClass 9 rfl) ?_
  refine mw_iload_n (dT d2_widestClass 10 rfl) rfl ?_
  obtain ⟨z, T⟩ := T
  refine mw_iaload ro_9 (dT d2_widestClass 11 rfl) z ?_
  obtain ⟨z, T1, T2⟩ := T
  refine mw_icmp_ge 66 (dT d2_widestClass 12 rfl) (by decide) z (fun z => ?_) (fun z => ?_)
  · have T := T1 z
    refine mw_iload_n (dT d2_widestClass 37 rfl) rfl ?_
    exact mw_iret rfl (dT d2_widestClass 38 rfl) ⟨_, rfl, T⟩
  · have T := T2 z
    refine mw_iload_n (dT d2_widestClass 13 rfl) rfl ?_
    refine mw_iload_n (dT d2_widestClass 14 rfl) rfl ?_
    refine mw_callNI mt_6_slot (host := "RateOffice") (by decide) (by decide) (dT d2_widestClass 15 rfl) (as := [mI _, mI _]) rfl rfl T (fun v1 h1 T => ?_)
    refine mw_istore (dT d2_widestClass 16 rfl) (by decide) ?_
    refine mw_aload_n (dT d2_widestClass 17 rfl) rfl (by decide) ?_
    refine mw_getR fl_X2_32 (dT d2_widestClass 18 rfl) ?_
    refine mw_iload_n (dT d2_widestClass 19 rfl) rfl ?_
    refine mw_iload_n (dT d2_widestClass 20 rfl) rfl ?_
    refine mw_callVI mv_0_startsClass ml_X2_124 (by decide) (dT d2_widestClass 21 rfl) (as := [mI _, mI _]) rfl rfl T (fun v2 h2 T => ?_)
    obtain ⟨z, T1, T2⟩ := T
    refine mw_if_eq 60 (dT d2_widestClass 22 rfl) (by decide) z (fun z => ?_) (fun z => ?_)
    · have T := T1 z
      refine mw_iinc (dT d2_widestClass 35 rfl) rfl (by decide) ?_
      refine mw_goto 8 (dT d2_widestClass 36 rfl) (by decide) ?_
      exact At.forget [4] T
    · have T := T2 z
      refine mw_aload_n (dT d2_widestClass 23 rfl) rfl (by decide) ?_
      refine mw_getR fl_X2_21 (dT d2_widestClass 24 rfl) ?_
      refine mw_iload (dT d2_widestClass 25 rfl) rfl ?_
      obtain ⟨z, T⟩ := T
      refine mw_laload ro_16 (dT d2_widestClass 26 rfl) z ?_
      refine mw_aload_n (dT d2_widestClass 27 rfl) rfl (by decide) ?_
      refine mw_getR fl_X2_21 (dT d2_widestClass 28 rfl) ?_
      refine mw_iload_n (dT d2_widestClass 29 rfl) rfl ?_
      obtain ⟨z, T⟩ := T
      refine mw_laload ro_16 (dT d2_widestClass 30 rfl) z ?_
      obtain ⟨z, T1, T2⟩ := T
      refine mw_lif_le 60 (dT d2_widestClass 31 rfl) (dT d2_widestClass 32 rfl) (by decide) z (fun z => ?_) (fun z => ?_)
      · have T := T1 z
        refine mw_iinc (dT d2_widestClass 35 rfl) rfl (by decide) ?_
        refine mw_goto 8 (dT d2_widestClass 36 rfl) (by decide) ?_
        exact At.forget [4] T
      · have T := T2 z
        refine mw_iload (dT d2_widestClass 33 rfl) rfl ?_
        refine mw_istore_n (dT d2_widestClass 34 rfl) (by decide) ?_
        refine mw_iinc (dT d2_widestClass 35 rfl) rfl (by decide) ?_
        refine mw_goto 8 (dT d2_widestClass 36 rfl) (by decide) ?_
        exact At.forget [4] T
theorem s2_widestClass {K : Int → mH → Prop} {b : Int} {x1 : Int} {h : mH} (T : OkI M6_slot [mI x1, mI 0] h (fun v1 h1 => A2_widestClass_8 K b x1 v1 1 h1)) : OkI M2_widestClass [mR 12 b, mI x1] h K := by
  refine Ok.of rfl (n := 3) rfl ?_
  show At (mPI K) M2_widestClass 0 [mR 12 b, mI x1, mU, mU, mU] [] h
  refine mw_iload_n (dT d2_widestClass 0 rfl) rfl ?_
  refine mw_iconst (dT d2_widestClass 1 rfl) ?_
  refine mw_callNI mt_6_slot (host := "RateOffice") (by decide) (by decide) (dT d2_widestClass 2 rfl) (as := [mI _, mI _]) rfl rfl T (fun v1 h1 T => ?_)
  refine mw_istore_n (dT d2_widestClass 3 rfl) (by decide) ?_
  refine mw_iconst (dT d2_widestClass 4 rfl) ?_
  refine mw_istore_n (dT d2_widestClass 5 rfl) (by decide) ?_
  exact T
abbrev A2_divideRelativities_7 (K : mH → Prop) (b : Int) (x1 x2 x3 : Int) (h : mH) : Prop := At (mPV K) M2_divideRelativities 7 [mR 12 b, mI x1, mI x2, mI x3, mU, mU, mU] [] h
theorem s2_divideRelativities_7 {K : mH → Prop} {b : Int} {x1 x2 x3 : Int} {h : mH} (T : (0 ≤ x1 ∧ x1 < 4) ∧ ((mInR x3 ∧ mInR (h 9 0 x1)) ∧ ((h 9 0 x1) ≤ x3 → (K h)) ∧ (¬ (h 9 0 x1) ≤ x3 → (OkI M6_slot [mI x1, mI x3] h (fun v1 h1 => (0 ≤ v1 ∧ v1 < 32) ∧ ((mInR (h1 6 b v1)) ∧ ((mInR x2) ∧ ((mInL ((h1 6 b v1) * 10000) ∧ mInL x2 ∧ x2 ≠ 0) ∧ ((0 ≤ x1 ∧ x1 < 4) ∧ ((0 ≤ x1 ∧ x1 < 4) ∧ (OkI M6_clamp [mJ (Int.tdiv ((h1 6 b v1) * 10000) x2), mI (h1 10 0 x1), mI (h1 11 0 x1)] h1 (fun v2 h2 => (0 ≤ v1 ∧ v1 < 32) ∧ (∀ h3 : mH, h3 = mSet h2 6 b v1 v2 → (A2_divideRelativities_7 K b x1 x2 (x3 + 1) h3)))))))))))))) : A2_divideRelativities_7 K b x1 x2 x3 h := by
  refine mw_iload_n (dT d2_divideRelativities 5 rfl) rfl ?_
  refine mw_aload_n (dT d2_divideRelativities 6 rfl) rfl (by decide) ?_
  refine mw_getR fl_X2_28 (dT d2_divideRelativities 7 rfl) ?_
  refine mw_getR fl_X2_130 (dT d2_divideRelativities 8 rfl) ?_
  refine mw_iload_n (dT d2_divideRelativities 9 rfl) rfl ?_
  obtain ⟨z, T⟩ := T
  refine mw_iaload ro_9 (dT d2_divideRelativities 10 rfl) z ?_
  obtain ⟨z, T1, T2⟩ := T
  refine mw_icmp_ge 86 (dT d2_divideRelativities 11 rfl) (by decide) z (fun z => ?_) (fun z => ?_)
  · have T := T1 z
    exact mw_vret rfl (dT d2_divideRelativities 47 rfl) ⟨rfl, T⟩
  · have T := T2 z
    refine mw_iload_n (dT d2_divideRelativities 12 rfl) rfl ?_
    refine mw_iload_n (dT d2_divideRelativities 13 rfl) rfl ?_
    refine mw_callNI mt_6_slot (host := "RateOffice") (by decide) (by decide) (dT d2_divideRelativities 14 rfl) (as := [mI _, mI _]) rfl rfl T (fun v1 h1 T => ?_)
    refine mw_istore (dT d2_divideRelativities 15 rfl) (by decide) ?_
    refine mw_aload_n (dT d2_divideRelativities 16 rfl) rfl (by decide) ?_
    refine mw_getR fl_X2_32 (dT d2_divideRelativities 17 rfl) ?_
    refine mw_getR fl_X2_42 (dT d2_divideRelativities 18 rfl) ?_
    refine mw_iload (dT d2_divideRelativities 19 rfl) rfl ?_
    obtain ⟨z, T⟩ := T
    refine mw_iaload ro_6 (dT d2_divideRelativities 20 rfl) z ?_
    obtain ⟨z, T⟩ := T
    refine mw_i2l (dT d2_divideRelativities 21 rfl) z ?_
    refine mw_ldc2 kl_X2_45 (dT d2_divideRelativities 22 rfl) ?_
    refine mw_lmul (dT d2_divideRelativities 23 rfl) ?_
    refine mw_iload_n (dT d2_divideRelativities 24 rfl) rfl ?_
    obtain ⟨z, T⟩ := T
    refine mw_i2l (dT d2_divideRelativities 25 rfl) z ?_
    obtain ⟨z, T⟩ := T
    refine mw_ldiv (dT d2_divideRelativities 26 rfl) z ?_
    refine mw_lstore (dT d2_divideRelativities 27 rfl) (by decide) ?_
    refine mw_aload_n (dT d2_divideRelativities 28 rfl) rfl (by decide) ?_
    refine mw_getR fl_X2_32 (dT d2_divideRelativities 29 rfl) ?_
    refine mw_getR fl_X2_42 (dT d2_divideRelativities 30 rfl) ?_
    refine mw_iload (dT d2_divideRelativities 31 rfl) rfl ?_
    refine mw_lload (dT d2_divideRelativities 32 rfl) rfl ?_
    refine mw_aload_n (dT d2_divideRelativities 33 rfl) rfl (by decide) ?_
    refine mw_getR fl_X2_28 (dT d2_divideRelativities 34 rfl) ?_
    refine mw_getR fl_X2_118 (dT d2_divideRelativities 35 rfl) ?_
    refine mw_iload_n (dT d2_divideRelativities 36 rfl) rfl ?_
    obtain ⟨z, T⟩ := T
    refine mw_iaload ro_10 (dT d2_divideRelativities 37 rfl) z ?_
    refine mw_aload_n (dT d2_divideRelativities 38 rfl) rfl (by decide) ?_
    refine mw_getR fl_X2_28 (dT d2_divideRelativities 39 rfl) ?_
    refine mw_getR fl_X2_121 (dT d2_divideRelativities 40 rfl) ?_
    refine mw_iload_n (dT d2_divideRelativities 41 rfl) rfl ?_
    obtain ⟨z, T⟩ := T
    refine mw_iaload ro_11 (dT d2_divideRelativities 42 rfl) z ?_
    refine mw_callNI mt_6_clamp (host := "RateOffice") (by decide) (by decide) (dT d2_divideRelativities 43 rfl) (as := [mJ _, mI _, mI _]) rfl rfl T (fun v2 h2 T => ?_)
    obtain ⟨z, T⟩ := T
    have T := T _ rfl
    refine mw_iastore ro_6 (dT d2_divideRelativities 44 rfl) z ?_
    refine mw_iinc (dT d2_divideRelativities 45 rfl) rfl (by decide) ?_
    refine mw_goto 7 (dT d2_divideRelativities 46 rfl) (by decide) ?_
    exact At.forget [4, 5] T
theorem s2_divideRelativities {K : mH → Prop} {b : Int} {x1 : Int} {x2 : Int} {h : mH} (T : (mInR x2) ∧ (0 < x2 → (A2_divideRelativities_7 K b x1 x2 0 h)) ∧ (¬ 0 < x2 → (K h))) : OkV M2_divideRelativities [mR 12 b, mI x1, mI x2] h K := by
  refine Ok.of rfl (n := 4) rfl ?_
  show At (mPV K) M2_divideRelativities 0 [mR 12 b, mI x1, mI x2, mU, mU, mU, mU] [] h
  refine mw_iload_n (dT d2_divideRelativities 0 rfl) rfl ?_
  obtain ⟨z, T1, T2⟩ := T
  refine mw_if_gt 5 (dT d2_divideRelativities 1 rfl) (by decide) z (fun z => ?_) (fun z => ?_)
  · have T := T1 z
    refine mw_iconst (dT d2_divideRelativities 3 rfl) ?_
    refine mw_istore_n (dT d2_divideRelativities 4 rfl) (by decide) ?_
    exact T
  · have T := T2 z
    exact mw_vret rfl (dT d2_divideRelativities 2 rfl) ⟨rfl, T⟩
theorem sJ9_floorDiv_f86c9 {K : Int → mH → Prop} {x0 : Int} {x2 : Int} {h : mH} (T : (mInL x0 ∧ mInL x2 ∧ x2 ≠ 0) ∧ ((mInL (mXorL x0 x2)) ∧ (0 ≤ (mXorL x0 x2) → (K (Int.tdiv x0 x2) h)) ∧ (¬ 0 ≤ (mXorL x0 x2) → ((mInL ((Int.tdiv x0 x2) * x2) ∧ mInL x0) ∧ (((Int.tdiv x0 x2) * x2) = x0 → (K (Int.tdiv x0 x2) h)) ∧ (¬ ((Int.tdiv x0 x2) * x2) = x0 → (K ((Int.tdiv x0 x2) - 1) h)))))) : OkJ MJ9_floorDiv_f86c9 [mJ x0, mJ x2] h K := by
  refine Ok.of (by decide +kernel) (n := 2) rfl ?_
  show At (mPJ K) MJ9_floorDiv_f86c9 0 [mJ x0, mU, mJ x2, mU, mU, mU] [] h
  refine mw_lload_n (dT dJ9_floorDiv_f86c9 0 rfl) rfl ?_
  refine mw_lload_n (dT dJ9_floorDiv_f86c9 1 rfl) rfl ?_
  obtain ⟨z, T⟩ := T
  refine mw_ldiv (dT dJ9_floorDiv_f86c9 2 rfl) z ?_
  refine mw_lstore (dT dJ9_floorDiv_f86c9 3 rfl) (by decide) ?_
  refine mw_lload_n (dT dJ9_floorDiv_f86c9 4 rfl) rfl ?_
  refine mw_lload_n (dT dJ9_floorDiv_f86c9 5 rfl) rfl ?_
  refine mw_lxor (dT dJ9_floorDiv_f86c9 6 rfl) ?_
  refine mw_lconst (dT dJ9_floorDiv_f86c9 7 rfl) ?_
  obtain ⟨z, T1, T2⟩ := T
  refine mw_lif_ge 27 (dT dJ9_floorDiv_f86c9 8 rfl) (dT dJ9_floorDiv_f86c9 9 rfl) (by decide) ⟨z, by decide⟩ (fun z => ?_) (fun z => ?_)
  · have T := T1 z
    refine mw_lload (dT dJ9_floorDiv_f86c9 20 rfl) rfl ?_
    exact mw_lret rfl (dT dJ9_floorDiv_f86c9 21 rfl) ⟨_, rfl, T⟩
  · have T := T2 z
    refine mw_lload (dT dJ9_floorDiv_f86c9 10 rfl) rfl ?_
    refine mw_lload_n (dT dJ9_floorDiv_f86c9 11 rfl) rfl ?_
    refine mw_lmul (dT dJ9_floorDiv_f86c9 12 rfl) ?_
    refine mw_lload_n (dT dJ9_floorDiv_f86c9 13 rfl) rfl ?_
    obtain ⟨z, T1, T2⟩ := T
    refine mw_lif_eq 27 (dT dJ9_floorDiv_f86c9 14 rfl) (dT dJ9_floorDiv_f86c9 15 rfl) (by decide) z (fun z => ?_) (fun z => ?_)
    · have T := T1 z
      refine mw_lload (dT dJ9_floorDiv_f86c9 20 rfl) rfl ?_
      exact mw_lret rfl (dT dJ9_floorDiv_f86c9 21 rfl) ⟨_, rfl, T⟩
    · have T := T2 z
      refine mw_lload (dT dJ9_floorDiv_f86c9 16 rfl) rfl ?_
      refine mw_lconst (dT dJ9_floorDiv_f86c9 17 rfl) ?_
      refine mw_lsub (dT dJ9_floorDiv_f86c9 18 rfl) ?_
      exact mw_lret rfl (dT dJ9_floorDiv_f86c9 19 rfl) ⟨_, rfl, T⟩
