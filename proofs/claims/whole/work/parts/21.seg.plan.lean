/-! walks, by program (wip/whole/seg.py) -/
theorem s3_clear {K : mH → Prop} {b : Int} {h : mH} (T : ∀ h1 : mH, h1 = mSet h 7 b 0 0 → (∀ h2 : mH, h2 = mSet h1 7 b 1 10 → (∀ h3 : mH, h3 = mSet h2 7 b 2 0 → (K h3)))) : OkV M3_clear [mR 7 b] h K := by
  refine Ok.of rfl (n := 0) rfl ?_
  show At (mPV K) M3_clear 0 [mR 7 b] [] h
  refine mw_aload_n (dT d3_clear 0 rfl) rfl (by decide) ?_
  refine mw_iconst (dT d3_clear 1 rfl) ?_
  have T := T _ rfl
  refine mw_putI fp_X3_27 (dT d3_clear 2 rfl) ?_
  refine mw_aload_n (dT d3_clear 3 rfl) rfl (by decide) ?_
  refine mw_bipush (by decide) (dT d3_clear 4 rfl) ?_
  have T := T _ rfl
  refine mw_putI fp_X3_31 (dT d3_clear 5 rfl) ?_
  refine mw_aload_n (dT d3_clear 6 rfl) rfl (by decide) ?_
  refine mw_iconst (dT d3_clear 7 rfl) ?_
  have T := T _ rfl
  refine mw_putI fp_X3_34 (dT d3_clear 8 rfl) ?_
  exact mw_vret rfl (dT d3_clear 9 rfl) ⟨rfl, T⟩
theorem s3_copyFrom {K : mH → Prop} {b : Int} {b1 : Int} {h : mH} (T : ∀ h1 : mH, h1 = mSet h 7 b 0 (h 7 b1 0) → (∀ h2 : mH, h2 = mSet h1 7 b 1 (h1 7 b1 1) → (∀ h3 : mH, h3 = mSet h2 7 b 2 (h2 7 b1 2) → (∀ h4 : mH, h4 = mCpy h3 8 b1 0 8 b 0 4 → (∀ h5 : mH, h5 = mCpy h4 9 b1 0 9 b 0 4 → (∀ h6 : mH, h6 = mCpy h5 10 b1 0 10 b 0 4 → (∀ h7 : mH, h7 = mCpy h6 11 b1 0 11 b 0 4 → (K h7)))))))) : OkV M3_copyFrom [mR 7 b, mR 7 b1] h K := by
  refine Ok.of rfl (n := 0) rfl ?_
  show At (mPV K) M3_copyFrom 0 [mR 7 b, mR 7 b1] [] h
  refine mw_aload_n (dT d3_copyFrom 0 rfl) rfl (by decide) ?_
  refine mw_aload_n (dT d3_copyFrom 1 rfl) rfl (by decide) ?_
  refine mw_getI fl_X3_27 (dT d3_copyFrom 2 rfl) ?_
  have T := T _ rfl
  refine mw_putI fp_X3_27 (dT d3_copyFrom 3 rfl) ?_
  refine mw_aload_n (dT d3_copyFrom 4 rfl) rfl (by decide) ?_
  refine mw_aload_n (dT d3_copyFrom 5 rfl) rfl (by decide) ?_
  refine mw_getI fl_X3_31 (dT d3_copyFrom 6 rfl) ?_
  have T := T _ rfl
  refine mw_putI fp_X3_31 (dT d3_copyFrom 7 rfl) ?_
  refine mw_aload_n (dT d3_copyFrom 8 rfl) rfl (by decide) ?_
  refine mw_aload_n (dT d3_copyFrom 9 rfl) rfl (by decide) ?_
  refine mw_getI fl_X3_34 (dT d3_copyFrom 10 rfl) ?_
  have T := T _ rfl
  refine mw_putI fp_X3_34 (dT d3_copyFrom 11 rfl) ?_
  refine mw_aload_n (dT d3_copyFrom 12 rfl) rfl (by decide) ?_
  refine mw_getR fl_X3_9 (dT d3_copyFrom 13 rfl) ?_
  refine mw_iconst (dT d3_copyFrom 14 rfl) ?_
  refine mw_aload_n (dT d3_copyFrom 15 rfl) rfl (by decide) ?_
  refine mw_getR fl_X3_9 (dT d3_copyFrom 16 rfl) ?_
  refine mw_iconst (dT d3_copyFrom 17 rfl) ?_
  refine mw_iconst (dT d3_copyFrom 18 rfl) ?_
  have T := T _ rfl
  refine mw_copyI ac_X3_37 (by decide) ro_8 ro_8 (dT d3_copyFrom 19 rfl) rfl (by decide) ?_
  refine mw_aload_n (dT d3_copyFrom 20 rfl) rfl (by decide) ?_
  refine mw_getR fl_X3_15 (dT d3_copyFrom 21 rfl) ?_
  refine mw_iconst (dT d3_copyFrom 22 rfl) ?_
  refine mw_aload_n (dT d3_copyFrom 23 rfl) rfl (by decide) ?_
  refine mw_getR fl_X3_15 (dT d3_copyFrom 24 rfl) ?_
  refine mw_iconst (dT d3_copyFrom 25 rfl) ?_
  refine mw_iconst (dT d3_copyFrom 26 rfl) ?_
  have T := T _ rfl
  refine mw_copyI ac_X3_37 (by decide) ro_9 ro_9 (dT d3_copyFrom 27 rfl) rfl (by decide) ?_
  refine mw_aload_n (dT d3_copyFrom 28 rfl) rfl (by decide) ?_
  refine mw_getR fl_X3_18 (dT d3_copyFrom 29 rfl) ?_
  refine mw_iconst (dT d3_copyFrom 30 rfl) ?_
  refine mw_aload_n (dT d3_copyFrom 31 rfl) rfl (by decide) ?_
  refine mw_getR fl_X3_18 (dT d3_copyFrom 32 rfl) ?_
  refine mw_iconst (dT d3_copyFrom 33 rfl) ?_
  refine mw_iconst (dT d3_copyFrom 34 rfl) ?_
  have T := T _ rfl
  refine mw_copyI ac_X3_37 (by decide) ro_10 ro_10 (dT d3_copyFrom 35 rfl) rfl (by decide) ?_
  refine mw_aload_n (dT d3_copyFrom 36 rfl) rfl (by decide) ?_
  refine mw_getR fl_X3_21 (dT d3_copyFrom 37 rfl) ?_
  refine mw_iconst (dT d3_copyFrom 38 rfl) ?_
  refine mw_aload_n (dT d3_copyFrom 39 rfl) rfl (by decide) ?_
  refine mw_getR fl_X3_21 (dT d3_copyFrom 40 rfl) ?_
  refine mw_iconst (dT d3_copyFrom 41 rfl) ?_
  refine mw_iconst (dT d3_copyFrom 42 rfl) ?_
  have T := T _ rfl
  refine mw_copyI ac_X3_37 (by decide) ro_11 ro_11 (dT d3_copyFrom 43 rfl) rfl (by decide) ?_
  exact mw_vret rfl (dT d3_copyFrom 44 rfl) ⟨rfl, T⟩
theorem s3_addFactor {K : mH → Prop} {b : Int} {x1 : Int} {x2 : Int} {h : mH} (T : (mInR (h 7 b 0)) ∧ (4 ≤ (h 7 b 0) → (K h)) ∧ (¬ 4 ≤ (h 7 b 0) → ((0 ≤ (h 7 b 0) ∧ (h 7 b 0) < 4) ∧ (∀ h1 : mH, h1 = mSet h 8 b (h 7 b 0) x1 → ((0 ≤ (h1 7 b 0) ∧ (h1 7 b 0) < 4) ∧ (∀ h2 : mH, h2 = mSet h1 9 b (h1 7 b 0) x2 → ((0 ≤ (h2 7 b 0) ∧ (h2 7 b 0) < 4) ∧ (∀ h3 : mH, h3 = mSet h2 10 b (h2 7 b 0) 1000 → ((0 ≤ (h3 7 b 0) ∧ (h3 7 b 0) < 4) ∧ (∀ h4 : mH, h4 = mSet h3 11 b (h3 7 b 0) 50000 → (∀ h5 : mH, h5 = mSet h4 7 b 0 ((h4 7 b 0) + 1) → (K h5)))))))))))) : OkV M3_addFactor [mR 7 b, mI x1, mI x2] h K := by
  refine Ok.of rfl (n := 0) rfl ?_
  show At (mPV K) M3_addFactor 0 [mR 7 b, mI x1, mI x2] [] h
  refine mw_aload_n (dT d3_addFactor 0 rfl) rfl (by decide) ?_
  refine mw_getI fl_X3_27 (dT d3_addFactor 1 rfl) ?_
  refine mw_iconst (dT d3_addFactor 2 rfl) ?_
  obtain ⟨z, T1, T2⟩ := T
  refine mw_icmp_ge 61 (dT d3_addFactor 3 rfl) (by decide) ⟨z, by decide⟩ (fun z => ?_) (fun z => ?_)
  · have T := T1 z
    exact mw_vret rfl (dT d3_addFactor 34 rfl) ⟨rfl, T⟩
  · have T := T2 z
    refine mw_aload_n (dT d3_addFactor 4 rfl) rfl (by decide) ?_
    refine mw_getR fl_X3_9 (dT d3_addFactor 5 rfl) ?_
    refine mw_aload_n (dT d3_addFactor 6 rfl) rfl (by decide) ?_
    refine mw_getI fl_X3_27 (dT d3_addFactor 7 rfl) ?_
    refine mw_iload_n (dT d3_addFactor 8 rfl) rfl ?_
    obtain ⟨z, T⟩ := T
    have T := T _ rfl
    refine mw_iastore ro_8 (dT d3_addFactor 9 rfl) z ?_
    refine mw_aload_n (dT d3_addFactor 10 rfl) rfl (by decide) ?_
    refine mw_getR fl_X3_15 (dT d3_addFactor 11 rfl) ?_
    refine mw_aload_n (dT d3_addFactor 12 rfl) rfl (by decide) ?_
    refine mw_getI fl_X3_27 (dT d3_addFactor 13 rfl) ?_
    refine mw_iload_n (dT d3_addFactor 14 rfl) rfl ?_
    obtain ⟨z, T⟩ := T
    have T := T _ rfl
    refine mw_iastore ro_9 (dT d3_addFactor 15 rfl) z ?_
    refine mw_aload_n (dT d3_addFactor 16 rfl) rfl (by decide) ?_
    refine mw_getR fl_X3_18 (dT d3_addFactor 17 rfl) ?_
    refine mw_aload_n (dT d3_addFactor 18 rfl) rfl (by decide) ?_
    refine mw_getI fl_X3_27 (dT d3_addFactor 19 rfl) ?_
    refine mw_sipush (by decide) (dT d3_addFactor 20 rfl) ?_
    obtain ⟨z, T⟩ := T
    have T := T _ rfl
    refine mw_iastore ro_10 (dT d3_addFactor 21 rfl) z ?_
    refine mw_aload_n (dT d3_addFactor 22 rfl) rfl (by decide) ?_
    refine mw_getR fl_X3_21 (dT d3_addFactor 23 rfl) ?_
    refine mw_aload_n (dT d3_addFactor 24 rfl) rfl (by decide) ?_
    refine mw_getI fl_X3_27 (dT d3_addFactor 25 rfl) ?_
    refine mw_ldc kc_X3_43 (dT d3_addFactor 26 rfl) ?_
    obtain ⟨z, T⟩ := T
    have T := T _ rfl
    refine mw_iastore ro_11 (dT d3_addFactor 27 rfl) z ?_
    refine mw_aload_n (dT d3_addFactor 28 rfl) rfl (by decide) ?_
    refine mw_dup (dT d3_addFactor 29 rfl) (fun _ z => by cases z) ?_
    refine mw_getI fl_X3_27 (dT d3_addFactor 30 rfl) ?_
    refine mw_iconst (dT d3_addFactor 31 rfl) ?_
    refine mw_iadd (dT d3_addFactor 32 rfl) ?_
    have T := T _ rfl
    refine mw_putI fp_X3_27 (dT d3_addFactor 33 rfl) ?_
    exact mw_vret rfl (dT d3_addFactor 34 rfl) ⟨rfl, T⟩
abbrev A3_find_2 (K : Int → mH → Prop) (b : Int) (x1 x2 : Int) (h : mH) : Prop := At (mPI K) M3_find 2 [mR 7 b, mI x1, mI x2] [] h
theorem s3_find_2 {K : Int → mH → Prop} {b : Int} {x1 x2 : Int} {h : mH} (T : (mInR x2 ∧ mInR (h 7 b 0)) ∧ ((h 7 b 0) ≤ x2 → (K ((-1)) h)) ∧ (¬ (h 7 b 0) ≤ x2 → ((0 ≤ x2 ∧ x2 < 4) ∧ ((mInR (h 8 b x2) ∧ mInR x1) ∧ (¬ (h 8 b x2) = x1 → (A3_find_2 K b x1 (x2 + 1) h)) ∧ ((h 8 b x2) = x1 → (K x2 h)))))) : A3_find_2 K b x1 x2 h := by
  refine mw_iload_n (dT d3_find 2 rfl) rfl ?_
  refine mw_aload_n (dT d3_find 3 rfl) rfl (by decide) ?_
  refine mw_getI fl_X3_27 (dT d3_find 4 rfl) ?_
  obtain ⟨z, T1, T2⟩ := T
  refine mw_icmp_ge 28 (dT d3_find 5 rfl) (by decide) z (fun z => ?_) (fun z => ?_)
  · have T := T1 z
    refine mw_iconst (dT d3_find 16 rfl) ?_
    exact mw_iret rfl (dT d3_find 17 rfl) ⟨_, rfl, T⟩
  · have T := T2 z
    refine mw_aload_n (dT d3_find 6 rfl) rfl (by decide) ?_
    refine mw_getR fl_X3_9 (dT d3_find 7 rfl) ?_
    refine mw_iload_n (dT d3_find 8 rfl) rfl ?_
    obtain ⟨z, T⟩ := T
    refine mw_iaload ro_8 (dT d3_find 9 rfl) z ?_
    refine mw_iload_n (dT d3_find 10 rfl) rfl ?_
    obtain ⟨z, T1, T2⟩ := T
    refine mw_icmp_ne 22 (dT d3_find 11 rfl) (by decide) z (fun z => ?_) (fun z => ?_)
    · have T := T1 z
      refine mw_iinc (dT d3_find 14 rfl) rfl (by decide) ?_
      refine mw_goto 2 (dT d3_find 15 rfl) (by decide) ?_
      exact T
    · have T := T2 z
      refine mw_iload_n (dT d3_find 12 rfl) rfl ?_
      exact mw_iret rfl (dT d3_find 13 rfl) ⟨_, rfl, T⟩
theorem s3_find {K : Int → mH → Prop} {b : Int} {x1 : Int} {h : mH} (T : A3_find_2 K b x1 0 h) : OkI M3_find [mR 7 b, mI x1] h K := by
  refine Ok.of rfl (n := 1) rfl ?_
  show At (mPI K) M3_find 0 [mR 7 b, mI x1, mU] [] h
  refine mw_iconst (dT d3_find 0 rfl) ?_
  refine mw_istore_n (dT d3_find 1 rfl) (by decide) ?_
  exact T
theorem s3_hasFactor {K : Int → mH → Prop} {b : Int} {x1 : Int} {h : mH} (T : (mInR x1) ∧ (x1 < 0 → (K 0 h)) ∧ (¬ x1 < 0 → ((mInR x1 ∧ mInR (h 7 b 0)) ∧ ((h 7 b 0) ≤ x1 → (K 0 h)) ∧ (¬ (h 7 b 0) ≤ x1 → (K 1 h))))) : OkI M3_hasFactor [mR 7 b, mI x1] h K := by
  refine Ok.of rfl (n := 0) rfl ?_
  show At (mPI K) M3_hasFactor 0 [mR 7 b, mI x1] [] h
  refine mw_iload_n (dT d3_hasFactor 0 rfl) rfl ?_
  obtain ⟨z, T1, T2⟩ := T
  refine mw_if_lt 16 (dT d3_hasFactor 1 rfl) (by decide) z (fun z => ?_) (fun z => ?_)
  · have T := T1 z
    refine mw_iconst (dT d3_hasFactor 8 rfl) ?_
    exact mw_zret rfl (dT d3_hasFactor 9 rfl) (Or.inl rfl) ⟨_, rfl, T⟩
  · have T := T2 z
    refine mw_iload_n (dT d3_hasFactor 2 rfl) rfl ?_
    refine mw_aload_n (dT d3_hasFactor 3 rfl) rfl (by decide) ?_
    refine mw_getI fl_X3_27 (dT d3_hasFactor 4 rfl) ?_
    obtain ⟨z, T1, T2⟩ := T
    refine mw_icmp_ge 16 (dT d3_hasFactor 5 rfl) (by decide) z (fun z => ?_) (fun z => ?_)
    · have T := T1 z
      refine mw_iconst (dT d3_hasFactor 8 rfl) ?_
      exact mw_zret rfl (dT d3_hasFactor 9 rfl) (Or.inl rfl) ⟨_, rfl, T⟩
    · have T := T2 z
      refine mw_iconst (dT d3_hasFactor 6 rfl) ?_
      refine mw_goto 17 (dT d3_hasFactor 7 rfl) (by decide) ?_
      exact mw_zret rfl (dT d3_hasFactor 9 rfl) (Or.inr rfl) ⟨_, rfl, T⟩
theorem s3_hasLevel {K : Int → mH → Prop} {b : Int} {x1 : Int} {x2 : Int} {h : mH} (T : OkI M3_hasFactor [mR 7 b, mI x1] h (fun v1 h1 => (mInR v1) ∧ (v1 = 0 → (K 0 h1)) ∧ (¬ v1 = 0 → ((mInR x2) ∧ (x2 < 0 → (K 0 h1)) ∧ (¬ x2 < 0 → ((0 ≤ x1 ∧ x1 < 4) ∧ ((mInR x2 ∧ mInR (h1 9 b x1)) ∧ ((h1 9 b x1) ≤ x2 → (K 0 h1)) ∧ (¬ (h1 9 b x1) ≤ x2 → (K 1 h1))))))))) : OkI M3_hasLevel [mR 7 b, mI x1, mI x2] h K := by
  refine Ok.of rfl (n := 0) rfl ?_
  show At (mPI K) M3_hasLevel 0 [mR 7 b, mI x1, mI x2] [] h
  refine mw_aload_n (dT d3_hasLevel 0 rfl) rfl (by decide) ?_
  refine mw_iload_n (dT d3_hasLevel 1 rfl) rfl ?_
  refine mw_callVI mv_3_hasFactor ml_X3_44 (by decide) (dT d3_hasLevel 2 rfl) (as := [mI _]) rfl rfl T (fun v1 h1 T => ?_)
  obtain ⟨z, T1, T2⟩ := T
  refine mw_if_eq 26 (dT d3_hasLevel 3 rfl) (by decide) z (fun z => ?_) (fun z => ?_)
  · have T := T1 z
    refine mw_iconst (dT d3_hasLevel 14 rfl) ?_
    exact mw_zret rfl (dT d3_hasLevel 15 rfl) (Or.inl rfl) ⟨_, rfl, T⟩
  · have T := T2 z
    refine mw_iload_n (dT d3_hasLevel 4 rfl) rfl ?_
    obtain ⟨z, T1, T2⟩ := T
    refine mw_if_lt 26 (dT d3_hasLevel 5 rfl) (by decide) z (fun z => ?_) (fun z => ?_)
    · have T := T1 z
      refine mw_iconst (dT d3_hasLevel 14 rfl) ?_
      exact mw_zret rfl (dT d3_hasLevel 15 rfl) (Or.inl rfl) ⟨_, rfl, T⟩
    · have T := T2 z
      refine mw_iload_n (dT d3_hasLevel 6 rfl) rfl ?_
      refine mw_aload_n (dT d3_hasLevel 7 rfl) rfl (by decide) ?_
      refine mw_getR fl_X3_15 (dT d3_hasLevel 8 rfl) ?_
      refine mw_iload_n (dT d3_hasLevel 9 rfl) rfl ?_
      obtain ⟨z, T⟩ := T
      refine mw_iaload ro_9 (dT d3_hasLevel 10 rfl) z ?_
      obtain ⟨z, T1, T2⟩ := T
      refine mw_icmp_ge 26 (dT d3_hasLevel 11 rfl) (by decide) z (fun z => ?_) (fun z => ?_)
      · have T := T1 z
        refine mw_iconst (dT d3_hasLevel 14 rfl) ?_
        exact mw_zret rfl (dT d3_hasLevel 15 rfl) (Or.inl rfl) ⟨_, rfl, T⟩
      · have T := T2 z
        refine mw_iconst (dT d3_hasLevel 12 rfl) ?_
        refine mw_goto 27 (dT d3_hasLevel 13 rfl) (by decide) ?_
        exact mw_zret rfl (dT d3_hasLevel 15 rfl) (Or.inr rfl) ⟨_, rfl, T⟩
abbrev A3_hasLevels_20 (K : Int → mH → Prop) (b : Int) (x1 x2 : Int) (h : mH) : Prop := At (mPI K) M3_hasLevels 20 [mR 7 b, mI x1, mI x2] [] h
theorem s3_hasLevels_20 {K : Int → mH → Prop} {b : Int} {x1 x2 : Int} {h : mH} (T : (mInR x2 ∧ mInR (h 7 b 0)) ∧ ((h 7 b 0) ≤ x2 → (K 1 h)) ∧ (¬ (h 7 b 0) ≤ x2 → (OkI M6_levelIn [mI x1, mI x2] h (fun v1 h1 => (0 ≤ x2 ∧ x2 < 4) ∧ ((mInR v1 ∧ mInR (h1 9 b x2)) ∧ (v1 < (h1 9 b x2) → (A3_hasLevels_20 K b x1 (x2 + 1) h1)) ∧ (¬ v1 < (h1 9 b x2) → (K 0 h1))))))) : A3_hasLevels_20 K b x1 x2 h := by
  refine mw_iload_n (dT d3_hasLevels 12 rfl) rfl ?_
  refine mw_aload_n (dT d3_hasLevels 13 rfl) rfl (by decide) ?_
  refine mw_getI fl_X3_27 (dT d3_hasLevels 14 rfl) ?_
  obtain ⟨z, T1, T2⟩ := T
  refine mw_icmp_ge 50 (dT d3_hasLevels 15 rfl) (by decide) z (fun z => ?_) (fun z => ?_)
  · have T := T1 z
    refine mw_iconst (dT d3_hasLevels 28 rfl) ?_
    exact mw_zret rfl (dT d3_hasLevels 29 rfl) (Or.inr rfl) ⟨_, rfl, T⟩
  · have T := T2 z
    refine mw_iload_n (dT d3_hasLevels 16 rfl) rfl ?_
    refine mw_iload_n (dT d3_hasLevels 17 rfl) rfl ?_
    refine mw_callNI mt_6_levelIn (host := "RateOffice") (by decide) (by decide) (dT d3_hasLevels 18 rfl) (as := [mI _, mI _]) rfl rfl T (fun v1 h1 T => ?_)
    refine mw_aload_n (dT d3_hasLevels 19 rfl) rfl (by decide) ?_
    refine mw_getR fl_X3_15 (dT d3_hasLevels 20 rfl) ?_
    refine mw_iload_n (dT d3_hasLevels 21 rfl) rfl ?_
    obtain ⟨z, T⟩ := T
    refine mw_iaload ro_9 (dT d3_hasLevels 22 rfl) z ?_
    obtain ⟨z, T1, T2⟩ := T
    refine mw_icmp_lt 44 (dT d3_hasLevels 23 rfl) (by decide) z (fun z => ?_) (fun z => ?_)
    · have T := T1 z
      refine mw_iinc (dT d3_hasLevels 26 rfl) rfl (by decide) ?_
      refine mw_goto 20 (dT d3_hasLevels 27 rfl) (by decide) ?_
      exact T
    · have T := T2 z
      refine mw_iconst (dT d3_hasLevels 24 rfl) ?_
      exact mw_zret rfl (dT d3_hasLevels 25 rfl) (Or.inl rfl) ⟨_, rfl, T⟩
theorem s3_hasLevels {K : Int → mH → Prop} {b : Int} {x1 : Int} {h : mH} (T : (mInR x1) ∧ (x1 < 0 → (K 0 h)) ∧ (¬ x1 < 0 → (OkI M6_slotShift [mI (h 7 b 0)] h (fun v1 h1 => (mInR (mShr x1 v1)) ∧ ((mShr x1 v1) = 0 → (A3_hasLevels_20 K b x1 0 h1)) ∧ (¬ (mShr x1 v1) = 0 → (K 0 h1)))))) : OkI M3_hasLevels [mR 7 b, mI x1] h K := by
  refine Ok.of rfl (n := 1) rfl ?_
  show At (mPI K) M3_hasLevels 0 [mR 7 b, mI x1, mU] [] h
  refine mw_iload_n (dT d3_hasLevels 0 rfl) rfl ?_
  obtain ⟨z, T1, T2⟩ := T
  refine mw_if_lt 16 (dT d3_hasLevels 1 rfl) (by decide) z (fun z => ?_) (fun z => ?_)
  · have T := T1 z
    refine mw_iconst (dT d3_hasLevels 8 rfl) ?_
    exact mw_zret rfl (dT d3_hasLevels 9 rfl) (Or.inl rfl) ⟨_, rfl, T⟩
  · have T := T2 z
    refine mw_iload_n (dT d3_hasLevels 2 rfl) rfl ?_
    refine mw_aload_n (dT d3_hasLevels 3 rfl) rfl (by decide) ?_
    refine mw_getI fl_X3_27 (dT d3_hasLevels 4 rfl) ?_
    refine mw_callNI mt_6_slotShift (host := "RateOffice") (by decide) (by decide) (dT d3_hasLevels 5 rfl) (as := [mI _]) rfl rfl T (fun v1 h1 T => ?_)
    refine mw_ishr (dT d3_hasLevels 6 rfl) ?_
    obtain ⟨z, T1, T2⟩ := T
    refine mw_if_eq 18 (dT d3_hasLevels 7 rfl) (by decide) z (fun z => ?_) (fun z => ?_)
    · have T := T1 z
      refine mw_iconst (dT d3_hasLevels 10 rfl) ?_
      refine mw_istore_n (dT d3_hasLevels 11 rfl) (by decide) ?_
      exact T
    · have T := T2 z
      refine mw_iconst (dT d3_hasLevels 8 rfl) ?_
      exact mw_zret rfl (dT d3_hasLevels 9 rfl) (Or.inl rfl) ⟨_, rfl, T⟩
abbrev A3_countKinds_4 (K : Int → mH → Prop) (b : Int) (x1 x2 : Int) (h : mH) : Prop := At (mPI K) M3_countKinds 4 [mR 7 b, mI x1, mI x2] [] h
theorem s3_countKinds_4 {K : Int → mH → Prop} {b : Int} {x1 x2 : Int} {h : mH} (T : (mInR x2 ∧ mInR (h 7 b 0)) ∧ ((h 7 b 0) ≤ x2 → (K x1 h)) ∧ (¬ (h 7 b 0) ≤ x2 → ((0 ≤ x2 ∧ x2 < 4) ∧ (A3_countKinds_4 K b (x1 * (h 9 b x2)) (x2 + 1) h)))) : A3_countKinds_4 K b x1 x2 h := by
  refine mw_iload_n (dT d3_countKinds 4 rfl) rfl ?_
  refine mw_aload_n (dT d3_countKinds 5 rfl) rfl (by decide) ?_
  refine mw_getI fl_X3_27 (dT d3_countKinds 6 rfl) ?_
  obtain ⟨z, T1, T2⟩ := T
  refine mw_icmp_ge 27 (dT d3_countKinds 7 rfl) (by decide) z (fun z => ?_) (fun z => ?_)
  · have T := T1 z
    refine mw_iload_n (dT d3_countKinds 17 rfl) rfl ?_
    exact mw_iret rfl (dT d3_countKinds 18 rfl) ⟨_, rfl, T⟩
  · have T := T2 z
    refine mw_iload_n (dT d3_countKinds 8 rfl) rfl ?_
    refine mw_aload_n (dT d3_countKinds 9 rfl) rfl (by decide) ?_
    refine mw_getR fl_X3_15 (dT d3_countKinds 10 rfl) ?_
    refine mw_iload_n (dT d3_countKinds 11 rfl) rfl ?_
    obtain ⟨z, T⟩ := T
    refine mw_iaload ro_9 (dT d3_countKinds 12 rfl) z ?_
    refine mw_imul (dT d3_countKinds 13 rfl) ?_
    refine mw_istore_n (dT d3_countKinds 14 rfl) (by decide) ?_
    refine mw_iinc (dT d3_countKinds 15 rfl) rfl (by decide) ?_
    refine mw_goto 4 (dT d3_countKinds 16 rfl) (by decide) ?_
    exact T
theorem s3_countKinds {K : Int → mH → Prop} {b : Int} {h : mH} (T : A3_countKinds_4 K b 1 0 h) : OkI M3_countKinds [mR 7 b] h K := by
  refine Ok.of rfl (n := 2) rfl ?_
  show At (mPI K) M3_countKinds 0 [mR 7 b, mU, mU] [] h
  refine mw_iconst (dT d3_countKinds 0 rfl) ?_
  refine mw_istore_n (dT d3_countKinds 1 rfl) (by decide) ?_
  refine mw_iconst (dT d3_countKinds 2 rfl) ?_
  refine mw_istore_n (dT d3_countKinds 3 rfl) (by decide) ?_
  exact T
