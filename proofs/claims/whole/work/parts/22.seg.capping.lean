/-! walks, by program (wip/whole/seg.py) -/
abbrev A1_settle_40 (K : mH → Prop) (x1 : Int) (h : mH) : Prop := At (mPV K) M1_settle 40 [mR 18 0, mI x1] [] h
theorem s1_settle_40 {K : mH → Prop} {x1 : Int} {h : mH} (T : (mInR x1 ∧ mInR (h 1 0 0)) ∧ ((h 1 0 0) ≤ x1 → (K h)) ∧ (¬ (h 1 0 0) ≤ x1 → (OkJ M1_cappedBy [mR 18 0, mI x1, mI (h 18 0 4), mI (h 1 0 2)] h (fun v1 h1 => (0 ≤ x1 ∧ x1 < 40) ∧ (∀ h2 : mH, h2 = mSet h1 19 0 x1 v1 → (A1_settle_40 K (x1 + 1) h2)))))) : A1_settle_40 K x1 h := by
  refine mw_iload_n (dT d1_settle 19 rfl) rfl ?_
  refine mw_aload_n (dT d1_settle 20 rfl) rfl (by decide) ?_
  refine mw_getR fl_X1_25 (dT d1_settle 21 rfl) ?_
  refine mw_getI fl_X1_40 (dT d1_settle 22 rfl) ?_
  obtain ⟨z, T1, T2⟩ := T
  refine mw_icmp_ge 79 (dT d1_settle 23 rfl) (by decide) z (fun z => ?_) (fun z => ?_)
  · have T := T1 z
    exact mw_vret rfl (dT d1_settle 38 rfl) ⟨rfl, T⟩
  · have T := T2 z
    refine mw_aload_n (dT d1_settle 24 rfl) rfl (by decide) ?_
    refine mw_getR fl_X1_9 (dT d1_settle 25 rfl) ?_
    refine mw_iload_n (dT d1_settle 26 rfl) rfl ?_
    refine mw_aload_n (dT d1_settle 27 rfl) rfl (by decide) ?_
    refine mw_iload_n (dT d1_settle 28 rfl) rfl ?_
    refine mw_aload_n (dT d1_settle 29 rfl) rfl (by decide) ?_
    refine mw_getI fl_X1_37 (dT d1_settle 30 rfl) ?_
    refine mw_aload_n (dT d1_settle 31 rfl) rfl (by decide) ?_
    refine mw_getR fl_X1_25 (dT d1_settle 32 rfl) ?_
    refine mw_getI fl_X1_45 (dT d1_settle 33 rfl) ?_
    refine mw_callVJ mv_1_cappedBy ml_X1_48 (by decide) (dT d1_settle 34 rfl) (as := [mI _, mI _, mI _]) rfl rfl T (fun v1 h1 T => ?_)
    obtain ⟨z, T⟩ := T
    have T := T _ rfl
    refine mw_lastore ro_19 (dT d1_settle 35 rfl) z ?_
    refine mw_iinc (dT d1_settle 36 rfl) rfl (by decide) ?_
    refine mw_goto 40 (dT d1_settle 37 rfl) (by decide) ?_
    exact T
theorem s1_settle {K : mH → Prop} {h : mH} (T : OkV M2_price [mR 12 0] h (fun h1 => OkI M1_searchOffBalance [mR 18 0] h1 (fun v1 h2 => ∀ h3 : mH, h3 = mSet h2 18 0 3 v1 → ((mInR (h3 18 0 3)) ∧ (¬ (h3 18 0 3) = ((-2)) → (∀ h4 : mH, h4 = mSet h3 18 0 4 (h3 18 0 3) → (A1_settle_40 K 0 h4))) ∧ ((h3 18 0 3) = ((-2)) → (∀ h5 : mH, h5 = mSet h3 18 0 4 10000 → (A1_settle_40 K 0 h5))))))) : OkV M1_settle [mR 18 0] h K := by
  refine Ok.of rfl (n := 1) rfl ?_
  show At (mPV K) M1_settle 0 [mR 18 0, mU] [] h
  refine mw_aload_n (dT d1_settle 0 rfl) rfl (by decide) ?_
  refine mw_getR fl_X1_15 (dT d1_settle 1 rfl) ?_
  refine mw_callVV mv_2_price ml_X1_26 (by decide) (dT d1_settle 2 rfl) (as := []) rfl rfl T (fun h1 T => ?_)
  refine mw_aload_n (dT d1_settle 3 rfl) rfl (by decide) ?_
  refine mw_aload_n (dT d1_settle 4 rfl) rfl (by decide) ?_
  refine mw_callVI mv_1_searchOffBalance ml_X1_29 (by decide) (dT d1_settle 5 rfl) (as := []) rfl rfl T (fun v1 h2 T => ?_)
  have T := T _ rfl
  refine mw_putI fp_X1_33 (dT d1_settle 6 rfl) ?_
  refine mw_aload_n (dT d1_settle 7 rfl) rfl (by decide) ?_
  refine mw_aload_n (dT d1_settle 8 rfl) rfl (by decide) ?_
  refine mw_getI fl_X1_33 (dT d1_settle 9 rfl) ?_
  refine mw_bipush (by decide) (dT d1_settle 10 rfl) ?_
  obtain ⟨z, T1, T2⟩ := T
  refine mw_icmp_ne 31 (dT d1_settle 11 rfl) (by decide) ⟨z, by decide⟩ (fun z => ?_) (fun z => ?_)
  · have T := T1 z
    refine mw_aload_n (dT d1_settle 14 rfl) rfl (by decide) ?_
    refine mw_getI fl_X1_33 (dT d1_settle 15 rfl) ?_
    have T := T _ rfl
    refine mw_putI fp_X1_37 (dT d1_settle 16 rfl) ?_
    refine mw_iconst (dT d1_settle 17 rfl) ?_
    refine mw_istore_n (dT d1_settle 18 rfl) (by decide) ?_
    exact T
  · have T := T2 z
    refine mw_sipush (by decide) (dT d1_settle 12 rfl) ?_
    refine mw_goto 35 (dT d1_settle 13 rfl) (by decide) ?_
    have T := T _ rfl
    refine mw_putI fp_X1_37 (dT d1_settle 16 rfl) ?_
    refine mw_iconst (dT d1_settle 17 rfl) ?_
    refine mw_istore_n (dT d1_settle 18 rfl) (by decide) ?_
    exact T
theorem s1_scaled {K : Int → mH → Prop} {x1 : Int} {x2 : Int} {h : mH} (T : (0 ≤ x1 ∧ x1 < 40) ∧ ((mInR x2) ∧ ((mInL ((h 13 0 x1) * x2)) ∧ (K (Int.tdiv ((h 13 0 x1) * x2) 10000) h)))) : OkJ M1_scaled [mR 18 0, mI x1, mI x2] h K := by
  refine Ok.of rfl (n := 0) rfl ?_
  show At (mPJ K) M1_scaled 0 [mR 18 0, mI x1, mI x2] [] h
  refine mw_aload_n (dT d1_scaled 0 rfl) rfl (by decide) ?_
  refine mw_getR fl_X1_15 (dT d1_scaled 1 rfl) ?_
  refine mw_getR fl_X1_52 (dT d1_scaled 2 rfl) ?_
  refine mw_iload_n (dT d1_scaled 3 rfl) rfl ?_
  obtain ⟨z, T⟩ := T
  refine mw_laload ro_13 (dT d1_scaled 4 rfl) z ?_
  refine mw_iload_n (dT d1_scaled 5 rfl) rfl ?_
  obtain ⟨z, T⟩ := T
  refine mw_i2l (dT d1_scaled 6 rfl) z ?_
  refine mw_lmul (dT d1_scaled 7 rfl) ?_
  refine mw_ldc2 kl_X1_55 (dT d1_scaled 8 rfl) ?_
  obtain ⟨z, T⟩ := T
  refine mw_ldiv (dT d1_scaled 9 rfl) ⟨z, by decide, by decide⟩ ?_
  exact mw_lret rfl (dT d1_scaled 10 rfl) ⟨_, rfl, T⟩
theorem s1_leeway {K : Int → mH → Prop} {x1 : Int} {x2 : Int} {h : mH} (T : (0 ≤ x1 ∧ x1 < 40) ∧ ((mInR (h 4 0 x1)) ∧ ((mInR x2) ∧ ((mInL ((h 4 0 x1) * x2)) ∧ (K (Int.tdiv ((h 4 0 x1) * x2) 1000) h))))) : OkJ M1_leeway [mR 18 0, mI x1, mI x2] h K := by
  refine Ok.of rfl (n := 0) rfl ?_
  show At (mPJ K) M1_leeway 0 [mR 18 0, mI x1, mI x2] [] h
  refine mw_aload_n (dT d1_leeway 0 rfl) rfl (by decide) ?_
  refine mw_getR fl_X1_25 (dT d1_leeway 1 rfl) ?_
  refine mw_getR fl_X1_57 (dT d1_leeway 2 rfl) ?_
  refine mw_iload_n (dT d1_leeway 3 rfl) rfl ?_
  obtain ⟨z, T⟩ := T
  refine mw_iaload ro_4 (dT d1_leeway 4 rfl) z ?_
  obtain ⟨z, T⟩ := T
  refine mw_i2l (dT d1_leeway 5 rfl) z ?_
  refine mw_iload_n (dT d1_leeway 6 rfl) rfl ?_
  obtain ⟨z, T⟩ := T
  refine mw_i2l (dT d1_leeway 7 rfl) z ?_
  refine mw_lmul (dT d1_leeway 8 rfl) ?_
  refine mw_ldc2 kl_X1_61 (dT d1_leeway 9 rfl) ?_
  obtain ⟨z, T⟩ := T
  refine mw_ldiv (dT d1_leeway 10 rfl) ⟨z, by decide, by decide⟩ ?_
  exact mw_lret rfl (dT d1_leeway 11 rfl) ⟨_, rfl, T⟩
theorem s1_cappedBy {K : Int → mH → Prop} {x1 : Int} {x2 : Int} {x3 : Int} {h : mH} (T : (0 ≤ x1 ∧ x1 < 40) ∧ ((mInR (h 4 0 x1)) ∧ (OkJ M1_leeway [mR 18 0, mI x1, mI x3] h (fun v1 h1 => OkJ M1_scaled [mR 18 0, mI x1, mI x2] h1 (fun v2 h2 => (mInL ((h 4 0 x1) + v1) ∧ mInL v2) ∧ ((mInL ((h 4 0 x1) - v1) ∧ mInL (min ((h 4 0 x1) + v1) v2)) ∧ (K (max ((h 4 0 x1) - v1) (min ((h 4 0 x1) + v1) v2)) h2))))))) : OkJ M1_cappedBy [mR 18 0, mI x1, mI x2, mI x3] h K := by
  refine Ok.of rfl (n := 4) rfl ?_
  show At (mPJ K) M1_cappedBy 0 [mR 18 0, mI x1, mI x2, mI x3, mU, mU, mU, mU] [] h
  refine mw_aload_n (dT d1_cappedBy 0 rfl) rfl (by decide) ?_
  refine mw_getR fl_X1_25 (dT d1_cappedBy 1 rfl) ?_
  refine mw_getR fl_X1_57 (dT d1_cappedBy 2 rfl) ?_
  refine mw_iload_n (dT d1_cappedBy 3 rfl) rfl ?_
  obtain ⟨z, T⟩ := T
  refine mw_iaload ro_4 (dT d1_cappedBy 4 rfl) z ?_
  obtain ⟨z, T⟩ := T
  refine mw_i2l (dT d1_cappedBy 5 rfl) z ?_
  refine mw_lstore (dT d1_cappedBy 6 rfl) (by decide) ?_
  refine mw_aload_n (dT d1_cappedBy 7 rfl) rfl (by decide) ?_
  refine mw_iload_n (dT d1_cappedBy 8 rfl) rfl ?_
  refine mw_iload_n (dT d1_cappedBy 9 rfl) rfl ?_
  refine mw_callVJ mv_1_leeway ml_X1_63 (by decide) (dT d1_cappedBy 10 rfl) (as := [mI _, mI _]) rfl rfl T (fun v1 h1 T => ?_)
  refine mw_lstore (dT d1_cappedBy 11 rfl) (by decide) ?_
  refine mw_lload (dT d1_cappedBy 12 rfl) rfl ?_
  refine mw_lload (dT d1_cappedBy 13 rfl) rfl ?_
  refine mw_lsub (dT d1_cappedBy 14 rfl) ?_
  refine mw_lload (dT d1_cappedBy 15 rfl) rfl ?_
  refine mw_lload (dT d1_cappedBy 16 rfl) rfl ?_
  refine mw_ladd (dT d1_cappedBy 17 rfl) ?_
  refine mw_aload_n (dT d1_cappedBy 18 rfl) rfl (by decide) ?_
  refine mw_iload_n (dT d1_cappedBy 19 rfl) rfl ?_
  refine mw_iload_n (dT d1_cappedBy 20 rfl) rfl ?_
  refine mw_callVJ mv_1_scaled ml_X1_67 (by decide) (dT d1_cappedBy 21 rfl) (as := [mI _, mI _]) rfl rfl T (fun v2 h2 T => ?_)
  obtain ⟨z, T⟩ := T
  refine mw_minL mm_X1_70 (by decide) (dT d1_cappedBy 22 rfl) rfl z ?_
  obtain ⟨z, T⟩ := T
  refine mw_maxL mm_X1_76 (by decide) (dT d1_cappedBy 23 rfl) rfl z ?_
  exact mw_lret rfl (dT d1_cappedBy 24 rfl) ⟨_, rfl, T⟩
abbrev A1_sumBy_5 (K : Int → mH → Prop) (x1 x2 x3 x5 : Int) (h : mH) : Prop := At (mPJ K) M1_sumBy 5 [mR 18 0, mI x1, mI x2, mJ x3, mU, mI x5] [] h
theorem s1_sumBy_5 {K : Int → mH → Prop} {x1 x2 x3 x5 : Int} {h : mH} (T : (mInR x5 ∧ mInR (h 1 0 0)) ∧ ((h 1 0 0) ≤ x5 → (K x3 h)) ∧ (¬ (h 1 0 0) ≤ x5 → (OkJ M1_cappedBy [mR 18 0, mI x5, mI x1, mI x2] h (fun v1 h1 => A1_sumBy_5 K x1 x2 (x3 + v1) (x5 + 1) h1)))) : A1_sumBy_5 K x1 x2 x3 x5 h := by
  refine mw_iload (dT d1_sumBy 4 rfl) rfl ?_
  refine mw_aload_n (dT d1_sumBy 5 rfl) rfl (by decide) ?_
  refine mw_getR fl_X1_25 (dT d1_sumBy 6 rfl) ?_
  refine mw_getI fl_X1_40 (dT d1_sumBy 7 rfl) ?_
  obtain ⟨z, T1, T2⟩ := T
  refine mw_icmp_ge 34 (dT d1_sumBy 8 rfl) (by decide) z (fun z => ?_) (fun z => ?_)
  · have T := T1 z
    refine mw_lload_n (dT d1_sumBy 19 rfl) rfl ?_
    exact mw_lret rfl (dT d1_sumBy 20 rfl) ⟨_, rfl, T⟩
  · have T := T2 z
    refine mw_lload_n (dT d1_sumBy 9 rfl) rfl ?_
    refine mw_aload_n (dT d1_sumBy 10 rfl) rfl (by decide) ?_
    refine mw_iload (dT d1_sumBy 11 rfl) rfl ?_
    refine mw_iload_n (dT d1_sumBy 12 rfl) rfl ?_
    refine mw_iload_n (dT d1_sumBy 13 rfl) rfl ?_
    refine mw_callVJ mv_1_cappedBy ml_X1_48 (by decide) (dT d1_sumBy 14 rfl) (as := [mI _, mI _, mI _]) rfl rfl T (fun v1 h1 T => ?_)
    refine mw_ladd (dT d1_sumBy 15 rfl) ?_
    refine mw_lstore_n (dT d1_sumBy 16 rfl) (by decide) ?_
    refine mw_iinc (dT d1_sumBy 17 rfl) rfl (by decide) ?_
    refine mw_goto 5 (dT d1_sumBy 18 rfl) (by decide) ?_
    exact T
theorem s1_sumBy {K : Int → mH → Prop} {x1 : Int} {x2 : Int} {h : mH} (T : A1_sumBy_5 K x1 x2 0 0 h) : OkJ M1_sumBy [mR 18 0, mI x1, mI x2] h K := by
  refine Ok.of rfl (n := 3) rfl ?_
  show At (mPJ K) M1_sumBy 0 [mR 18 0, mI x1, mI x2, mU, mU, mU] [] h
  refine mw_lconst (dT d1_sumBy 0 rfl) ?_
  refine mw_lstore_n (dT d1_sumBy 1 rfl) (by decide) ?_
  refine mw_iconst (dT d1_sumBy 2 rfl) ?_
  refine mw_istore (dT d1_sumBy 3 rfl) (by decide) ?_
  exact T
abbrev A1_searchOffBalance_45 (K : Int → mH → Prop) (x1 x3 x4 x5 : Int) (h : mH) : Prop := At (mPI K) M1_searchOffBalance 45 [mR 18 0, mJ x1, mU, mI x3, mI x4, mI x5, mU] [] h
theorem s1_searchOffBalance_45 {K : Int → mH → Prop} {x1 x3 x4 x5 : Int} {h : mH} (T : (mInR x5) ∧ (20 ≤ x5 → (K x4 h)) ∧ (¬ 20 ≤ x5 → ((mInR x3 ∧ mInR x4) ∧ (x4 ≤ x3 → (K x4 h)) ∧ (¬ x4 ≤ x3 → (OkJ M1_sumBy [mR 18 0, mI (mShr (x3 + x4) 1), mI (h 1 0 2)] h (fun v1 h1 => (mInL v1 ∧ mInL x1) ∧ (v1 < x1 → (A1_searchOffBalance_45 K x1 ((mShr (x3 + x4) 1) + 1) x4 (x5 + 1) h1)) ∧ (¬ v1 < x1 → (A1_searchOffBalance_45 K x1 x3 (mShr (x3 + x4) 1) (x5 + 1) h1)))))))) : A1_searchOffBalance_45 K x1 x3 x4 x5 h := by
  refine mw_iload (dT d1_searchOffBalance 24 rfl) rfl ?_
  refine mw_bipush (by decide) (dT d1_searchOffBalance 25 rfl) ?_
  obtain ⟨z, T1, T2⟩ := T
  refine mw_icmp_ge 102 (dT d1_searchOffBalance 26 rfl) (by decide) ⟨z, by decide⟩ (fun z => ?_) (fun z => ?_)
  · have T := T1 z
    refine mw_iload (dT d1_searchOffBalance 54 rfl) rfl ?_
    exact mw_iret rfl (dT d1_searchOffBalance 55 rfl) ⟨_, rfl, T⟩
  · have T := T2 z
    refine mw_iload_n (dT d1_searchOffBalance 27 rfl) rfl ?_
    refine mw_iload (dT d1_searchOffBalance 28 rfl) rfl ?_
    obtain ⟨z, T1, T2⟩ := T
    refine mw_icmp_ge 102 (dT d1_searchOffBalance 29 rfl) (by decide) z (fun z => ?_) (fun z => ?_)
    · have T := T1 z
      refine mw_iload (dT d1_searchOffBalance 54 rfl) rfl ?_
      exact mw_iret rfl (dT d1_searchOffBalance 55 rfl) ⟨_, rfl, T⟩
    · have T := T2 z
      refine mw_iload_n (dT d1_searchOffBalance 30 rfl) rfl ?_
      refine mw_iload (dT d1_searchOffBalance 31 rfl) rfl ?_
      refine mw_iadd (dT d1_searchOffBalance 32 rfl) ?_
      refine mw_iconst (dT d1_searchOffBalance 33 rfl) ?_
      refine mw_ishr (dT d1_searchOffBalance 34 rfl) ?_
      refine mw_istore (dT d1_searchOffBalance 35 rfl) (by decide) ?_
      refine mw_aload_n (dT d1_searchOffBalance 36 rfl) rfl (by decide) ?_
      refine mw_iload (dT d1_searchOffBalance 37 rfl) rfl ?_
      refine mw_aload_n (dT d1_searchOffBalance 38 rfl) rfl (by decide) ?_
      refine mw_getR fl_X1_25 (dT d1_searchOffBalance 39 rfl) ?_
      refine mw_getI fl_X1_45 (dT d1_searchOffBalance 40 rfl) ?_
      refine mw_callVJ mv_1_sumBy ml_X1_87 (by decide) (dT d1_searchOffBalance 41 rfl) (as := [mI _, mI _]) rfl rfl T (fun v1 h1 T => ?_)
      refine mw_lload_n (dT d1_searchOffBalance 42 rfl) rfl ?_
      obtain ⟨z, T1, T2⟩ := T
      refine mw_lif_lt 91 (dT d1_searchOffBalance 43 rfl) (dT d1_searchOffBalance 44 rfl) (by decide) z (fun z => ?_) (fun z => ?_)
      · have T := T1 z
        refine mw_iload (dT d1_searchOffBalance 48 rfl) rfl ?_
        refine mw_iconst (dT d1_searchOffBalance 49 rfl) ?_
        refine mw_iadd (dT d1_searchOffBalance 50 rfl) ?_
        refine mw_istore_n (dT d1_searchOffBalance 51 rfl) (by decide) ?_
        refine mw_iinc (dT d1_searchOffBalance 52 rfl) rfl (by decide) ?_
        refine mw_goto 45 (dT d1_searchOffBalance 53 rfl) (by decide) ?_
        exact At.forget [6] T
      · have T := T2 z
        refine mw_iload (dT d1_searchOffBalance 45 rfl) rfl ?_
        refine mw_istore (dT d1_searchOffBalance 46 rfl) (by decide) ?_
        refine mw_goto 96 (dT d1_searchOffBalance 47 rfl) (by decide) ?_
        refine mw_iinc (dT d1_searchOffBalance 52 rfl) rfl (by decide) ?_
        refine mw_goto 45 (dT d1_searchOffBalance 53 rfl) (by decide) ?_
        exact At.forget [6] T
theorem s1_searchOffBalance {K : Int → mH → Prop} {h : mH} (T : OkJ M0_sumOf [mR 1 0, mR 3 0] h (fun v1 h1 => OkJ M1_sumBy [mR 18 0, mI 99999, mI (h1 1 0 2)] h1 (fun v2 h2 => (mInL v2 ∧ mInL v1) ∧ (v1 ≤ v2 → (A1_searchOffBalance_45 K v1 0 99999 0 h2)) ∧ (¬ v1 ≤ v2 → (K ((-2)) h2))))) : OkI M1_searchOffBalance [mR 18 0] h K := by
  refine Ok.of rfl (n := 6) rfl ?_
  show At (mPI K) M1_searchOffBalance 0 [mR 18 0, mU, mU, mU, mU, mU, mU] [] h
  refine mw_aload_n (dT d1_searchOffBalance 0 rfl) rfl (by decide) ?_
  refine mw_getR fl_X1_25 (dT d1_searchOffBalance 1 rfl) ?_
  refine mw_aload_n (dT d1_searchOffBalance 2 rfl) rfl (by decide) ?_
  refine mw_getR fl_X1_25 (dT d1_searchOffBalance 3 rfl) ?_
  refine mw_getR fl_X1_79 (dT d1_searchOffBalance 4 rfl) ?_
  refine mw_callVJ mv_0_sumOf ml_X1_82 (by decide) (dT d1_searchOffBalance 5 rfl) (as := [mR 3 _]) rfl rfl T (fun v1 h1 T => ?_)
  refine mw_lstore_n (dT d1_searchOffBalance 6 rfl) (by decide) ?_
  refine mw_aload_n (dT d1_searchOffBalance 7 rfl) rfl (by decide) ?_
  refine mw_ldc kc_X1_86 (dT d1_searchOffBalance 8 rfl) ?_
  refine mw_aload_n (dT d1_searchOffBalance 9 rfl) rfl (by decide) ?_
  refine mw_getR fl_X1_25 (dT d1_searchOffBalance 10 rfl) ?_
  refine mw_getI fl_X1_45 (dT d1_searchOffBalance 11 rfl) ?_
  refine mw_callVJ mv_1_sumBy ml_X1_87 (by decide) (dT d1_searchOffBalance 12 rfl) (as := [mI _, mI _]) rfl rfl T (fun v2 h2 T => ?_)
  refine mw_lload_n (dT d1_searchOffBalance 13 rfl) rfl ?_
  obtain ⟨z, T1, T2⟩ := T
  refine mw_lif_ge 36 (dT d1_searchOffBalance 14 rfl) (dT d1_searchOffBalance 15 rfl) (by decide) z (fun z => ?_) (fun z => ?_)
  · have T := T1 z
    refine mw_iconst (dT d1_searchOffBalance 18 rfl) ?_
    refine mw_istore_n (dT d1_searchOffBalance 19 rfl) (by decide) ?_
    refine mw_ldc kc_X1_86 (dT d1_searchOffBalance 20 rfl) ?_
    refine mw_istore (dT d1_searchOffBalance 21 rfl) (by decide) ?_
    refine mw_iconst (dT d1_searchOffBalance 22 rfl) ?_
    refine mw_istore (dT d1_searchOffBalance 23 rfl) (by decide) ?_
    exact T
  · have T := T2 z
    refine mw_bipush (by decide) (dT d1_searchOffBalance 16 rfl) ?_
    exact mw_iret rfl (dT d1_searchOffBalance 17 rfl) ⟨_, rfl, T⟩
abbrev A1_searchCap_24 (K : Int → mH → Prop) (x1 x3 : Int) (h : mH) : Prop := At (mPI K) M1_searchCap 24 [mR 18 0, mJ x1, mU, mI x3] [] h
theorem s1_searchCap_24 {K : Int → mH → Prop} {x1 x3 : Int} {h : mH} (T : (mInR x3) ∧ (999 < x3 → (K ((-2)) h)) ∧ (¬ 999 < x3 → (OkJ M1_sumBy [mR 18 0, mI 99999, mI x3] h (fun v1 h1 => (mInL v1 ∧ mInL x1) ∧ (v1 < x1 → (A1_searchCap_24 K x1 (x3 + 1) h1)) ∧ (¬ v1 < x1 → (K x3 h1)))))) : A1_searchCap_24 K x1 x3 h := by
  refine mw_iload_n (dT d1_searchCap 12 rfl) rfl ?_
  refine mw_sipush (by decide) (dT d1_searchCap 13 rfl) ?_
  obtain ⟨z, T1, T2⟩ := T
  refine mw_icmp_gt 51 (dT d1_searchCap 14 rfl) (by decide) ⟨z, by decide⟩ (fun z => ?_) (fun z => ?_)
  · have T := T1 z
    refine mw_bipush (by decide) (dT d1_searchCap 26 rfl) ?_
    exact mw_iret rfl (dT d1_searchCap 27 rfl) ⟨_, rfl, T⟩
  · have T := T2 z
    refine mw_aload_n (dT d1_searchCap 15 rfl) rfl (by decide) ?_
    refine mw_ldc kc_X1_86 (dT d1_searchCap 16 rfl) ?_
    refine mw_iload_n (dT d1_searchCap 17 rfl) rfl ?_
    refine mw_callVJ mv_1_sumBy ml_X1_87 (by decide) (dT d1_searchCap 18 rfl) (as := [mI _, mI _]) rfl rfl T (fun v1 h1 T => ?_)
    refine mw_lload_n (dT d1_searchCap 19 rfl) rfl ?_
    obtain ⟨z, T1, T2⟩ := T
    refine mw_lif_lt 45 (dT d1_searchCap 20 rfl) (dT d1_searchCap 21 rfl) (by decide) z (fun z => ?_) (fun z => ?_)
    · have T := T1 z
      refine mw_iinc (dT d1_searchCap 24 rfl) rfl (by decide) ?_
      refine mw_goto 24 (dT d1_searchCap 25 rfl) (by decide) ?_
      exact T
    · have T := T2 z
      refine mw_iload_n (dT d1_searchCap 22 rfl) rfl ?_
      exact mw_iret rfl (dT d1_searchCap 23 rfl) ⟨_, rfl, T⟩
theorem s1_searchCap {K : Int → mH → Prop} {h : mH} (T : OkV M2_price [mR 12 0] h (fun h1 => OkJ M0_sumOf [mR 1 0, mR 3 0] h1 (fun v1 h2 => A1_searchCap_24 K v1 0 h2))) : OkI M1_searchCap [mR 18 0] h K := by
  refine Ok.of rfl (n := 3) rfl ?_
  show At (mPI K) M1_searchCap 0 [mR 18 0, mU, mU, mU] [] h
  refine mw_aload_n (dT d1_searchCap 0 rfl) rfl (by decide) ?_
  refine mw_getR fl_X1_15 (dT d1_searchCap 1 rfl) ?_
  refine mw_callVV mv_2_price ml_X1_26 (by decide) (dT d1_searchCap 2 rfl) (as := []) rfl rfl T (fun h1 T => ?_)
  refine mw_aload_n (dT d1_searchCap 3 rfl) rfl (by decide) ?_
  refine mw_getR fl_X1_25 (dT d1_searchCap 4 rfl) ?_
  refine mw_aload_n (dT d1_searchCap 5 rfl) rfl (by decide) ?_
  refine mw_getR fl_X1_25 (dT d1_searchCap 6 rfl) ?_
  refine mw_getR fl_X1_79 (dT d1_searchCap 7 rfl) ?_
  refine mw_callVJ mv_0_sumOf ml_X1_82 (by decide) (dT d1_searchCap 8 rfl) (as := [mR 3 _]) rfl rfl T (fun v1 h2 T => ?_)
  refine mw_lstore_n (dT d1_searchCap 9 rfl) (by decide) ?_
  refine mw_iconst (dT d1_searchCap 10 rfl) ?_
  refine mw_istore_n (dT d1_searchCap 11 rfl) (by decide) ?_
  exact T
abbrev A1_sumCapped_4 (K : Int → mH → Prop) (x1 x3 : Int) (h : mH) : Prop := At (mPJ K) M1_sumCapped 4 [mR 18 0, mJ x1, mU, mI x3] [] h
theorem s1_sumCapped_4 {K : Int → mH → Prop} {x1 x3 : Int} {h : mH} (T : (mInR x3 ∧ mInR (h 1 0 0)) ∧ ((h 1 0 0) ≤ x3 → (K x1 h)) ∧ (¬ (h 1 0 0) ≤ x3 → ((0 ≤ x3 ∧ x3 < 40) ∧ (A1_sumCapped_4 K (x1 + (h 19 0 x3)) (x3 + 1) h)))) : A1_sumCapped_4 K x1 x3 h := by
  refine mw_iload_n (dT d1_sumCapped 4 rfl) rfl ?_
  refine mw_aload_n (dT d1_sumCapped 5 rfl) rfl (by decide) ?_
  refine mw_getR fl_X1_25 (dT d1_sumCapped 6 rfl) ?_
  refine mw_getI fl_X1_40 (dT d1_sumCapped 7 rfl) ?_
  obtain ⟨z, T1, T2⟩ := T
  refine mw_icmp_ge 30 (dT d1_sumCapped 8 rfl) (by decide) z (fun z => ?_) (fun z => ?_)
  · have T := T1 z
    refine mw_lload_n (dT d1_sumCapped 18 rfl) rfl ?_
    exact mw_lret rfl (dT d1_sumCapped 19 rfl) ⟨_, rfl, T⟩
  · have T := T2 z
    refine mw_lload_n (dT d1_sumCapped 9 rfl) rfl ?_
    refine mw_aload_n (dT d1_sumCapped 10 rfl) rfl (by decide) ?_
    refine mw_getR fl_X1_9 (dT d1_sumCapped 11 rfl) ?_
    refine mw_iload_n (dT d1_sumCapped 12 rfl) rfl ?_
    obtain ⟨z, T⟩ := T
    refine mw_laload ro_19 (dT d1_sumCapped 13 rfl) z ?_
    refine mw_ladd (dT d1_sumCapped 14 rfl) ?_
    refine mw_lstore_n (dT d1_sumCapped 15 rfl) (by decide) ?_
    refine mw_iinc (dT d1_sumCapped 16 rfl) rfl (by decide) ?_
    refine mw_goto 4 (dT d1_sumCapped 17 rfl) (by decide) ?_
    exact T
theorem s1_sumCapped {K : Int → mH → Prop} {h : mH} (T : A1_sumCapped_4 K 0 0 h) : OkJ M1_sumCapped [mR 18 0] h K := by
  refine Ok.of rfl (n := 3) rfl ?_
  show At (mPJ K) M1_sumCapped 0 [mR 18 0, mU, mU, mU] [] h
  refine mw_lconst (dT d1_sumCapped 0 rfl) ?_
  refine mw_lstore_n (dT d1_sumCapped 1 rfl) (by decide) ?_
  refine mw_iconst (dT d1_sumCapped 2 rfl) ?_
  refine mw_istore_n (dT d1_sumCapped 3 rfl) (by decide) ?_
  exact T
theorem s1_changeOf {K : Int → mH → Prop} {x1 : Int} {h : mH} (T : (0 ≤ x1 ∧ x1 < 40) ∧ ((0 ≤ x1 ∧ x1 < 40) ∧ ((mInR (h 4 0 x1)) ∧ (K ((h 19 0 x1) - (h 4 0 x1)) h)))) : OkJ M1_changeOf [mR 18 0, mI x1] h K := by
  refine Ok.of rfl (n := 0) rfl ?_
  show At (mPJ K) M1_changeOf 0 [mR 18 0, mI x1] [] h
  refine mw_aload_n (dT d1_changeOf 0 rfl) rfl (by decide) ?_
  refine mw_getR fl_X1_9 (dT d1_changeOf 1 rfl) ?_
  refine mw_iload_n (dT d1_changeOf 2 rfl) rfl ?_
  obtain ⟨z, T⟩ := T
  refine mw_laload ro_19 (dT d1_changeOf 3 rfl) z ?_
  refine mw_aload_n (dT d1_changeOf 4 rfl) rfl (by decide) ?_
  refine mw_getR fl_X1_25 (dT d1_changeOf 5 rfl) ?_
  refine mw_getR fl_X1_57 (dT d1_changeOf 6 rfl) ?_
  refine mw_iload_n (dT d1_changeOf 7 rfl) rfl ?_
  obtain ⟨z, T⟩ := T
  refine mw_iaload ro_4 (dT d1_changeOf 8 rfl) z ?_
  obtain ⟨z, T⟩ := T
  refine mw_i2l (dT d1_changeOf 9 rfl) z ?_
  refine mw_lsub (dT d1_changeOf 10 rfl) ?_
  exact mw_lret rfl (dT d1_changeOf 11 rfl) ⟨_, rfl, T⟩
theorem s1_isChanged {K : Int → mH → Prop} {x1 : Int} {x2 : Int} {h : mH} (T : mInR x2 ∧ (x2 = 0 → (OkJ M1_changeOf [mR 18 0, mI x1] h (fun v1 h1 => (mInL v1) ∧ (v1 ≤ 0 → (K 0 h1)) ∧ (¬ v1 ≤ 0 → (K 1 h1))))) ∧ (x2 = 1 → (OkJ M1_changeOf [mR 18 0, mI x1] h (fun v2 h2 => (mInL v2) ∧ (0 ≤ v2 → (K 0 h2)) ∧ (¬ 0 ≤ v2 → (K 1 h2))))) ∧ (x2 = 2 → (OkJ M1_scaled [mR 18 0, mI x1, mI (h 18 0 4)] h (fun v3 h3 => (0 ≤ x1 ∧ x1 < 40) ∧ ((mInL v3 ∧ mInL (h3 19 0 x1)) ∧ ((h3 19 0 x1) ≤ v3 → (K 0 h3)) ∧ (¬ (h3 19 0 x1) ≤ v3 → (K 1 h3)))))) ∧ (x2 < 0 ∨ 2 < x2 → (OkJ M1_scaled [mR 18 0, mI x1, mI (h 18 0 4)] h (fun v4 h4 => (0 ≤ x1 ∧ x1 < 40) ∧ ((mInL v4 ∧ mInL (h4 19 0 x1)) ∧ (v4 ≤ (h4 19 0 x1) → (K 0 h4)) ∧ (¬ v4 ≤ (h4 19 0 x1) → (K 1 h4))))))) : OkI M1_isChanged [mR 18 0, mI x1, mI x2] h K := by
  refine Ok.of rfl (n := 0) rfl ?_
  show At (mPI K) M1_isChanged 0 [mR 18 0, mI x1, mI x2] [] h
  refine mw_iload_n (dT d1_isChanged 0 rfl) rfl ?_
  obtain ⟨z, T0, T1, T2, Td⟩ := T
  by_cases y0 : x2 = 0
  · have T := T0 y0
    refine mw_tableIn 28 (dT d1_isChanged 1 rfl) z (by omega) (by omega) (by rw [y0]; rfl) (by decide) ?_
    refine mw_aload_n (dT d1_isChanged 2 rfl) rfl (by decide) ?_
    refine mw_iload_n (dT d1_isChanged 3 rfl) rfl ?_
    refine mw_callVJ mv_1_changeOf ml_X1_90 (by decide) (dT d1_isChanged 4 rfl) (as := [mI _]) rfl rfl T (fun v1 h1 T => ?_)
    refine mw_lconst (dT d1_isChanged 5 rfl) ?_
    obtain ⟨z, T1, T2⟩ := T
    refine mw_lif_le 42 (dT d1_isChanged 6 rfl) (dT d1_isChanged 7 rfl) (by decide) ⟨z, by decide⟩ (fun z => ?_) (fun z => ?_)
    · have T := T1 z
      refine mw_iconst (dT d1_isChanged 10 rfl) ?_
      exact mw_zret rfl (dT d1_isChanged 11 rfl) (Or.inl rfl) ⟨_, rfl, T⟩
    · have T := T2 z
      refine mw_iconst (dT d1_isChanged 8 rfl) ?_
      refine mw_goto 43 (dT d1_isChanged 9 rfl) (by decide) ?_
      exact mw_zret rfl (dT d1_isChanged 11 rfl) (Or.inr rfl) ⟨_, rfl, T⟩
  by_cases y1 : x2 = 1
  · have T := T1 y1
    refine mw_tableIn 44 (dT d1_isChanged 1 rfl) z (by omega) (by omega) (by rw [y1]; rfl) (by decide) ?_
    refine mw_aload_n (dT d1_isChanged 12 rfl) rfl (by decide) ?_
    refine mw_iload_n (dT d1_isChanged 13 rfl) rfl ?_
    refine mw_callVJ mv_1_changeOf ml_X1_90 (by decide) (dT d1_isChanged 14 rfl) (as := [mI _]) rfl rfl T (fun v2 h2 T => ?_)
    refine mw_lconst (dT d1_isChanged 15 rfl) ?_
    obtain ⟨z, T1, T2⟩ := T
    refine mw_lif_ge 58 (dT d1_isChanged 16 rfl) (dT d1_isChanged 17 rfl) (by decide) ⟨z, by decide⟩ (fun z => ?_) (fun z => ?_)
    · have T := T1 z
      refine mw_iconst (dT d1_isChanged 20 rfl) ?_
      exact mw_zret rfl (dT d1_isChanged 21 rfl) (Or.inl rfl) ⟨_, rfl, T⟩
    · have T := T2 z
      refine mw_iconst (dT d1_isChanged 18 rfl) ?_
      refine mw_goto 59 (dT d1_isChanged 19 rfl) (by decide) ?_
      exact mw_zret rfl (dT d1_isChanged 21 rfl) (Or.inr rfl) ⟨_, rfl, T⟩
  by_cases y2 : x2 = 2
  · have T := T2 y2
    refine mw_tableIn 60 (dT d1_isChanged 1 rfl) z (by omega) (by omega) (by rw [y2]; rfl) (by decide) ?_
    refine mw_aload_n (dT d1_isChanged 22 rfl) rfl (by decide) ?_
    refine mw_iload_n (dT d1_isChanged 23 rfl) rfl ?_
    refine mw_aload_n (dT d1_isChanged 24 rfl) rfl (by decide) ?_
    refine mw_getI fl_X1_37 (dT d1_isChanged 25 rfl) ?_
    refine mw_callVJ mv_1_scaled ml_X1_67 (by decide) (dT d1_isChanged 26 rfl) (as := [mI _, mI _]) rfl rfl T (fun v3 h3 T => ?_)
    refine mw_aload_n (dT d1_isChanged 27 rfl) rfl (by decide) ?_
    refine mw_getR fl_X1_9 (dT d1_isChanged 28 rfl) ?_
    refine mw_iload_n (dT d1_isChanged 29 rfl) rfl ?_
    obtain ⟨z, T⟩ := T
    refine mw_laload ro_19 (dT d1_isChanged 30 rfl) z ?_
    obtain ⟨z, T1, T2⟩ := T
    refine mw_lif_ge 83 (dT d1_isChanged 31 rfl) (dT d1_isChanged 32 rfl) (by decide) z (fun z => ?_) (fun z => ?_)
    · have T := T1 z
      refine mw_iconst (dT d1_isChanged 35 rfl) ?_
      exact mw_zret rfl (dT d1_isChanged 36 rfl) (Or.inl rfl) ⟨_, rfl, T⟩
    · have T := T2 z
      refine mw_iconst (dT d1_isChanged 33 rfl) ?_
      refine mw_goto 84 (dT d1_isChanged 34 rfl) (by decide) ?_
      exact mw_zret rfl (dT d1_isChanged 36 rfl) (Or.inr rfl) ⟨_, rfl, T⟩
  have yd : x2 < 0 ∨ 2 < x2 := by omega
  have T := Td yd
  refine mw_tableOut 85 (dT d1_isChanged 1 rfl) z yd (by decide) ?_
  refine mw_aload_n (dT d1_isChanged 37 rfl) rfl (by decide) ?_
  refine mw_iload_n (dT d1_isChanged 38 rfl) rfl ?_
  refine mw_aload_n (dT d1_isChanged 39 rfl) rfl (by decide) ?_
  refine mw_getI fl_X1_37 (dT d1_isChanged 40 rfl) ?_
  refine mw_callVJ mv_1_scaled ml_X1_67 (by decide) (dT d1_isChanged 41 rfl) (as := [mI _, mI _]) rfl rfl T (fun v4 h4 T => ?_)
  refine mw_aload_n (dT d1_isChanged 42 rfl) rfl (by decide) ?_
  refine mw_getR fl_X1_9 (dT d1_isChanged 43 rfl) ?_
  refine mw_iload_n (dT d1_isChanged 44 rfl) rfl ?_
  obtain ⟨z, T⟩ := T
  refine mw_laload ro_19 (dT d1_isChanged 45 rfl) z ?_
  obtain ⟨z, T1, T2⟩ := T
  refine mw_lif_le 108 (dT d1_isChanged 46 rfl) (dT d1_isChanged 47 rfl) (by decide) z (fun z => ?_) (fun z => ?_)
  · have T := T1 z
    refine mw_iconst (dT d1_isChanged 50 rfl) ?_
    exact mw_zret rfl (dT d1_isChanged 51 rfl) (Or.inl rfl) ⟨_, rfl, T⟩
  · have T := T2 z
    refine mw_iconst (dT d1_isChanged 48 rfl) ?_
    refine mw_goto 109 (dT d1_isChanged 49 rfl) (by decide) ?_
    exact mw_zret rfl (dT d1_isChanged 51 rfl) (Or.inr rfl) ⟨_, rfl, T⟩
abbrev A1_rankOf_4 (K : Int → mH → Prop) (x1 x2 x3 : Int) (h : mH) : Prop := At (mPI K) M1_rankOf 4 [mR 18 0, mI x1, mI x2, mI x3, mU, mU] [] h
theorem s1_rankOf_4 {K : Int → mH → Prop} {x1 x2 x3 : Int} {h : mH} (T : (mInR x3 ∧ mInR (h 1 0 0)) ∧ ((h 1 0 0) ≤ x3 → (K x2 h)) ∧ (¬ (h 1 0 0) ≤ x3 → (OkJ M1_changeOf [mR 18 0, mI x3] h (fun v1 h1 => OkJ M1_changeOf [mR 18 0, mI x1] h1 (fun v2 h2 => (mInL (v1 - v2)) ∧ ((v1 - v2) < 0 → (A1_rankOf_4 K x1 (x2 + 1) (x3 + 1) h2)) ∧ (¬ (v1 - v2) < 0 → ((mInL (v1 - v2)) ∧ (¬ (v1 - v2) = 0 → (A1_rankOf_4 K x1 x2 (x3 + 1) h2)) ∧ ((v1 - v2) = 0 → ((mInR x3 ∧ mInR x1) ∧ (x1 ≤ x3 → (A1_rankOf_4 K x1 x2 (x3 + 1) h2)) ∧ (¬ x1 ≤ x3 → (A1_rankOf_4 K x1 (x2 + 1) (x3 + 1) h2))))))))))) : A1_rankOf_4 K x1 x2 x3 h := by
  refine mw_iload_n (dT d1_rankOf 4 rfl) rfl ?_
  refine mw_aload_n (dT d1_rankOf 5 rfl) rfl (by decide) ?_
  refine mw_getR fl_X1_25 (dT d1_rankOf 6 rfl) ?_
  refine mw_getI fl_X1_40 (dT d1_rankOf 7 rfl) ?_
  obtain ⟨z, T1, T2⟩ := T
  refine mw_icmp_ge 56 (dT d1_rankOf 8 rfl) (by decide) z (fun z => ?_) (fun z => ?_)
  · have T := T1 z
    refine mw_iload_n (dT d1_rankOf 31 rfl) rfl ?_
    exact mw_iret rfl (dT d1_rankOf 32 rfl) ⟨_, rfl, T⟩
  · have T := T2 z
    refine mw_aload_n (dT d1_rankOf 9 rfl) rfl (by decide) ?_
    refine mw_iload_n (dT d1_rankOf 10 rfl) rfl ?_
    refine mw_callVJ mv_1_changeOf ml_X1_90 (by decide) (dT d1_rankOf 11 rfl) (as := [mI _]) rfl rfl T (fun v1 h1 T => ?_)
    refine mw_aload_n (dT d1_rankOf 12 rfl) rfl (by decide) ?_
    refine mw_iload_n (dT d1_rankOf 13 rfl) rfl ?_
    refine mw_callVJ mv_1_changeOf ml_X1_90 (by decide) (dT d1_rankOf 14 rfl) (as := [mI _]) rfl rfl T (fun v2 h2 T => ?_)
    refine mw_lsub (dT d1_rankOf 15 rfl) ?_
    refine mw_lstore (dT d1_rankOf 16 rfl) (by decide) ?_
    refine mw_lload (dT d1_rankOf 17 rfl) rfl ?_
    refine mw_lconst (dT d1_rankOf 18 rfl) ?_
    obtain ⟨z, T1, T2⟩ := T
    refine mw_lif_lt 47 (dT d1_rankOf 19 rfl) (dT d1_rankOf 20 rfl) (by decide) ⟨z, by decide⟩ (fun z => ?_) (fun z => ?_)
    · have T := T1 z
      refine mw_iinc (dT d1_rankOf 28 rfl) rfl (by decide) ?_
      refine mw_iinc (dT d1_rankOf 29 rfl) rfl (by decide) ?_
      refine mw_goto 4 (dT d1_rankOf 30 rfl) (by decide) ?_
      exact At.forget [4] T
    · have T := T2 z
      refine mw_lload (dT d1_rankOf 21 rfl) rfl ?_
      refine mw_lconst (dT d1_rankOf 22 rfl) ?_
      obtain ⟨z, T1, T2⟩ := T
      refine mw_lif_ne 50 (dT d1_rankOf 23 rfl) (dT d1_rankOf 24 rfl) (by decide) ⟨z, by decide⟩ (fun z => ?_) (fun z => ?_)
      · have T := T1 z
        refine mw_iinc (dT d1_rankOf 29 rfl) rfl (by decide) ?_
        refine mw_goto 4 (dT d1_rankOf 30 rfl) (by decide) ?_
        exact At.forget [4] T
      · have T := T2 z
        refine mw_iload_n (dT d1_rankOf 25 rfl) rfl ?_
        refine mw_iload_n (dT d1_rankOf 26 rfl) rfl ?_
        obtain ⟨z, T1, T2⟩ := T
        refine mw_icmp_ge 50 (dT d1_rankOf 27 rfl) (by decide) z (fun z => ?_) (fun z => ?_)
        · have T := T1 z
          refine mw_iinc (dT d1_rankOf 29 rfl) rfl (by decide) ?_
          refine mw_goto 4 (dT d1_rankOf 30 rfl) (by decide) ?_
          exact At.forget [4] T
        · have T := T2 z
          refine mw_iinc (dT d1_rankOf 28 rfl) rfl (by decide) ?_
          refine mw_iinc (dT d1_rankOf 29 rfl) rfl (by decide) ?_
          refine mw_goto 4 (dT d1_rankOf 30 rfl) (by decide) ?_
          exact At.forget [4] T
theorem s1_rankOf {K : Int → mH → Prop} {x1 : Int} {h : mH} (T : A1_rankOf_4 K x1 0 0 h) : OkI M1_rankOf [mR 18 0, mI x1] h K := by
  refine Ok.of rfl (n := 4) rfl ?_
  show At (mPI K) M1_rankOf 0 [mR 18 0, mI x1, mU, mU, mU, mU] [] h
  refine mw_iconst (dT d1_rankOf 0 rfl) ?_
  refine mw_istore_n (dT d1_rankOf 1 rfl) (by decide) ?_
  refine mw_iconst (dT d1_rankOf 2 rfl) ?_
  refine mw_istore_n (dT d1_rankOf 3 rfl) (by decide) ?_
  exact T
