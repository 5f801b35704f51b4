/-! walks, by program (wip/whole/seg.py) -/
theorem s6_feed {K : Int → mH → Prop} {x1 : Int} {x2 : Int} {x3 : Int} {x4 : Int} {x5 : Int} {h : mH} (T : (mInR ((h 25 0 1) + 20)) ∧ (((h 25 0 1) + 20) ≤ 900 → (OkV M6_appendBytes [mR 25 0, mI x1] h (fun h1 => OkV M6_appendBytes [mR 25 0, mI x2] h1 (fun h2 => OkV M6_appendBytes [mR 25 0, mI x3] h2 (fun h3 => OkV M6_appendBytes [mR 25 0, mI x4] h3 (fun h4 => OkV M6_appendBytes [mR 25 0, mI x5] h4 (fun h5 => K (h5 25 0 1) h5))))))) ∧ (¬ ((h 25 0 1) + 20) ≤ 900 → (K ((-1)) h))) : OkI M6_feed [mR 25 0, mI x1, mI x2, mI x3, mI x4, mI x5] h K := by
  refine Ok.of rfl (n := 0) rfl ?_
  show At (mPI K) M6_feed 0 [mR 25 0, mI x1, mI x2, mI x3, mI x4, mI x5] [] h
  refine mw_aload_n (dT d6_feed 0 rfl) rfl (by decide) ?_
  refine mw_getI fl_X6_69 (dT d6_feed 1 rfl) ?_
  refine mw_bipush (by decide) (dT d6_feed 2 rfl) ?_
  refine mw_iadd (dT d6_feed 3 rfl) ?_
  refine mw_sipush (by decide) (dT d6_feed 4 rfl) ?_
  obtain ⟨z, T1, T2⟩ := T
  refine mw_icmp_le 15 (dT d6_feed 5 rfl) (by decide) ⟨z, by decide⟩ (fun z => ?_) (fun z => ?_)
  · have T := T1 z
    refine mw_aload_n (dT d6_feed 8 rfl) rfl (by decide) ?_
    refine mw_iload_n (dT d6_feed 9 rfl) rfl ?_
    refine mw_callVV mv_6_appendBytes ml_X6_72 (by decide) (dT d6_feed 10 rfl) (as := [mI _]) rfl rfl T (fun h1 T => ?_)
    refine mw_aload_n (dT d6_feed 11 rfl) rfl (by decide) ?_
    refine mw_iload_n (dT d6_feed 12 rfl) rfl ?_
    refine mw_callVV mv_6_appendBytes ml_X6_72 (by decide) (dT d6_feed 13 rfl) (as := [mI _]) rfl rfl T (fun h2 T => ?_)
    refine mw_aload_n (dT d6_feed 14 rfl) rfl (by decide) ?_
    refine mw_iload_n (dT d6_feed 15 rfl) rfl ?_
    refine mw_callVV mv_6_appendBytes ml_X6_72 (by decide) (dT d6_feed 16 rfl) (as := [mI _]) rfl rfl T (fun h3 T => ?_)
    refine mw_aload_n (dT d6_feed 17 rfl) rfl (by decide) ?_
    refine mw_iload (dT d6_feed 18 rfl) rfl ?_
    refine mw_callVV mv_6_appendBytes ml_X6_72 (by decide) (dT d6_feed 19 rfl) (as := [mI _]) rfl rfl T (fun h4 T => ?_)
    refine mw_aload_n (dT d6_feed 20 rfl) rfl (by decide) ?_
    refine mw_iload (dT d6_feed 21 rfl) rfl ?_
    refine mw_callVV mv_6_appendBytes ml_X6_72 (by decide) (dT d6_feed 22 rfl) (as := [mI _]) rfl rfl T (fun h5 T => ?_)
    refine mw_aload_n (dT d6_feed 23 rfl) rfl (by decide) ?_
    refine mw_getI fl_X6_69 (dT d6_feed 24 rfl) ?_
    exact mw_iret rfl (dT d6_feed 25 rfl) ⟨_, rfl, T⟩
  · have T := T2 z
    refine mw_iconst (dT d6_feed 6 rfl) ?_
    exact mw_iret rfl (dT d6_feed 7 rfl) ⟨_, rfl, T⟩
abbrev A6_appendBytes_3 (K : mH → Prop) (x1 x2 : Int) (h : mH) : Prop := At (mPV K) M6_appendBytes 3 [mR 25 0, mI x1, mI x2] [] h
theorem s6_appendBytes_3 {K : mH → Prop} {x1 x2 : Int} {h : mH} (T : (mInR x2) ∧ (x2 < 0 → (K h)) ∧ (¬ x2 < 0 → ((mInR (h 25 0 1)) ∧ (900 ≤ (h 25 0 1) → (K h)) ∧ (¬ 900 ≤ (h 25 0 1) → (((0 ≤ (h 25 0 1) ∧ (h 25 0 1) < 900) ∧ mI2b (mI2b (mShr x1 x2)) = (mI2b (mShr x1 x2))) ∧ (∀ h1 : mH, h1 = mSet h 26 0 (h 25 0 1) (mI2b (mShr x1 x2)) → (∀ h2 : mH, h2 = mSet h1 25 0 1 ((h1 25 0 1) + 1) → (A6_appendBytes_3 K x1 (x2 + (-8)) h2)))))))) : A6_appendBytes_3 K x1 x2 h := by
  refine mw_iload_n (dT d6_appendBytes 2 rfl) rfl ?_
  obtain ⟨z, T1, T2⟩ := T
  refine mw_if_lt 46 (dT d6_appendBytes 3 rfl) (by decide) z (fun z => ?_) (fun z => ?_)
  · have T := T1 z
    exact mw_vret rfl (dT d6_appendBytes 25 rfl) ⟨rfl, T⟩
  · have T := T2 z
    refine mw_aload_n (dT d6_appendBytes 4 rfl) rfl (by decide) ?_
    refine mw_getI fl_X6_69 (dT d6_appendBytes 5 rfl) ?_
    refine mw_sipush (by decide) (dT d6_appendBytes 6 rfl) ?_
    obtain ⟨z, T1, T2⟩ := T
    refine mw_icmp_ge 46 (dT d6_appendBytes 7 rfl) (by decide) ⟨z, by decide⟩ (fun z => ?_) (fun z => ?_)
    · have T := T1 z
      exact mw_vret rfl (dT d6_appendBytes 25 rfl) ⟨rfl, T⟩
    · have T := T2 z
      refine mw_aload_n (dT d6_appendBytes 8 rfl) rfl (by decide) ?_
      refine mw_getR fl_X6_9 (dT d6_appendBytes 9 rfl) ?_
      refine mw_aload_n (dT d6_appendBytes 10 rfl) rfl (by decide) ?_
      refine mw_getI fl_X6_69 (dT d6_appendBytes 11 rfl) ?_
      refine mw_iload_n (dT d6_appendBytes 12 rfl) rfl ?_
      refine mw_iload_n (dT d6_appendBytes 13 rfl) rfl ?_
      refine mw_ishr (dT d6_appendBytes 14 rfl) ?_
      refine mw_i2b (dT d6_appendBytes 15 rfl) ?_
      obtain ⟨z, T⟩ := T
      have T := T _ rfl
      refine mw_bastore ro_26 (dT d6_appendBytes 16 rfl) z ?_
      refine mw_aload_n (dT d6_appendBytes 17 rfl) rfl (by decide) ?_
      refine mw_dup (dT d6_appendBytes 18 rfl) (fun _ z => by cases z) ?_
      refine mw_getI fl_X6_69 (dT d6_appendBytes 19 rfl) ?_
      refine mw_iconst (dT d6_appendBytes 20 rfl) ?_
      refine mw_iadd (dT d6_appendBytes 21 rfl) ?_
      have T := T _ rfl
      refine mw_putI fp_X6_69 (dT d6_appendBytes 22 rfl) ?_
      refine mw_iinc (dT d6_appendBytes 23 rfl) rfl (by decide) ?_
      refine mw_goto 3 (dT d6_appendBytes 24 rfl) (by decide) ?_
      exact T
theorem s6_appendBytes {K : mH → Prop} {x1 : Int} {h : mH} (T : A6_appendBytes_3 K x1 24 h) : OkV M6_appendBytes [mR 25 0, mI x1] h K := by
  refine Ok.of rfl (n := 1) rfl ?_
  show At (mPV K) M6_appendBytes 0 [mR 25 0, mI x1, mU] [] h
  refine mw_bipush (by decide) (dT d6_appendBytes 0 rfl) ?_
  refine mw_istore_n (dT d6_appendBytes 1 rfl) (by decide) ?_
  exact T
theorem s6_text {K : Int → mH → Prop} {x1 : Int} {h : mH} (T : (mInR x1) ∧ (x1 < 0 → (K ((-2)) h)) ∧ (¬ x1 < 0 → ((mInR x1 ∧ mInR (h 25 0 1)) ∧ (x1 ≤ (h 25 0 1) → (∀ h1 : mH, h1 = mSet h 25 0 1 0 → (OkI M4_readText [mR 24 0, mR 26 0, mI x1] h1 (fun v1 h2 => ∀ h3 : mH, h3 = mSet h2 25 0 2 (h2 24 0 9) → (∀ h4 : mH, h4 = mSet h3 25 0 3 (h3 24 0 10) → ((mInR (h4 25 0 2)) ∧ ((h4 25 0 2) = 0 → (OkV M3_copyFrom [mR 7 0, mR 7 1] h4 (fun h5 => OkV M0_copyFrom [mR 1 0, mR 1 2] h5 (fun h6 => ∀ h7 : mH, h7 = mSet h6 25 0 12 0 → (∀ h8 : mH, h8 = mSet h7 25 0 15 0 → (K v1 h8)))))) ∧ (¬ (h4 25 0 2) = 0 → (K ((-1)) h4)))))))) ∧ (¬ x1 ≤ (h 25 0 1) → (K ((-2)) h))))) : OkI M6_text [mR 25 0, mI x1] h K := by
  refine Ok.of rfl (n := 1) rfl ?_
  show At (mPI K) M6_text 0 [mR 25 0, mI x1, mU] [] h
  refine mw_iload_n (dT d6_text 0 rfl) rfl ?_
  obtain ⟨z, T1, T2⟩ := T
  refine mw_if_lt 12 (dT d6_text 1 rfl) (by decide) z (fun z => ?_) (fun z => ?_)
  · have T := T1 z
    refine mw_bipush (by decide) (dT d6_text 6 rfl) ?_
    exact mw_iret rfl (dT d6_text 7 rfl) ⟨_, rfl, T⟩
  · have T := T2 z
    refine mw_iload_n (dT d6_text 2 rfl) rfl ?_
    refine mw_aload_n (dT d6_text 3 rfl) rfl (by decide) ?_
    refine mw_getI fl_X6_69 (dT d6_text 4 rfl) ?_
    obtain ⟨z, T1, T2⟩ := T
    refine mw_icmp_le 15 (dT d6_text 5 rfl) (by decide) z (fun z => ?_) (fun z => ?_)
    · have T := T1 z
      refine mw_aload_n (dT d6_text 8 rfl) rfl (by decide) ?_
      refine mw_iconst (dT d6_text 9 rfl) ?_
      have T := T _ rfl
      refine mw_putI fp_X6_69 (dT d6_text 10 rfl) ?_
      refine mw_aload_n (dT d6_text 11 rfl) rfl (by decide) ?_
      refine mw_getR fl_X6_58 (dT d6_text 12 rfl) ?_
      refine mw_aload_n (dT d6_text 13 rfl) rfl (by decide) ?_
      refine mw_getR fl_X6_9 (dT d6_text 14 rfl) ?_
      refine mw_iload_n (dT d6_text 15 rfl) rfl ?_
      refine mw_callVI mv_4_readText ml_X6_76 (by decide) (dT d6_text 16 rfl) (as := [mR 26 _, mI _]) rfl rfl T (fun v1 h2 T => ?_)
      refine mw_istore_n (dT d6_text 17 rfl) (by decide) ?_
      refine mw_aload_n (dT d6_text 18 rfl) rfl (by decide) ?_
      refine mw_aload_n (dT d6_text 19 rfl) rfl (by decide) ?_
      refine mw_getR fl_X6_58 (dT d6_text 20 rfl) ?_
      refine mw_getI fl_X6_80 (dT d6_text 21 rfl) ?_
      have T := T _ rfl
      refine mw_putI fp_X6_83 (dT d6_text 22 rfl) ?_
      refine mw_aload_n (dT d6_text 23 rfl) rfl (by decide) ?_
      refine mw_aload_n (dT d6_text 24 rfl) rfl (by decide) ?_
      refine mw_getR fl_X6_58 (dT d6_text 25 rfl) ?_
      refine mw_getI fl_X6_84 (dT d6_text 26 rfl) ?_
      have T := T _ rfl
      refine mw_putI fp_X6_13 (dT d6_text 27 rfl) ?_
      refine mw_aload_n (dT d6_text 28 rfl) rfl (by decide) ?_
      refine mw_getI fl_X6_83 (dT d6_text 29 rfl) ?_
      obtain ⟨z, T1, T2⟩ := T
      refine mw_if_eq 64 (dT d6_text 30 rfl) (by decide) z (fun z => ?_) (fun z => ?_)
      · have T := T1 z
        refine mw_aload_n (dT d6_text 33 rfl) rfl (by decide) ?_
        refine mw_getR fl_X6_20 (dT d6_text 34 rfl) ?_
        refine mw_aload_n (dT d6_text 35 rfl) rfl (by decide) ?_
        refine mw_getR fl_X6_58 (dT d6_text 36 rfl) ?_
        refine mw_getR fl_X6_85 (dT d6_text 37 rfl) ?_
        refine mw_callVV mv_3_copyFrom ml_X6_86 (by decide) (dT d6_text 38 rfl) (as := [mR 7 _]) rfl rfl T (fun h5 T => ?_)
        refine mw_aload_n (dT d6_text 39 rfl) rfl (by decide) ?_
        refine mw_getR fl_X6_27 (dT d6_text 40 rfl) ?_
        refine mw_aload_n (dT d6_text 41 rfl) rfl (by decide) ?_
        refine mw_getR fl_X6_58 (dT d6_text 42 rfl) ?_
        refine mw_getR fl_X6_90 (dT d6_text 43 rfl) ?_
        refine mw_callVV mv_0_copyFrom ml_X6_91 (by decide) (dT d6_text 44 rfl) (as := [mR 1 _]) rfl rfl T (fun h6 T => ?_)
        refine mw_aload_n (dT d6_text 45 rfl) rfl (by decide) ?_
        refine mw_iconst (dT d6_text 46 rfl) ?_
        have T := T _ rfl
        refine mw_putZ fp_X6_94 (dT d6_text 47 rfl) (Or.inl rfl) ?_
        refine mw_aload_n (dT d6_text 48 rfl) rfl (by decide) ?_
        refine mw_iconst (dT d6_text 49 rfl) ?_
        have T := T _ rfl
        refine mw_putI fp_X6_98 (dT d6_text 50 rfl) ?_
        refine mw_iload_n (dT d6_text 51 rfl) rfl ?_
        exact mw_iret rfl (dT d6_text 52 rfl) ⟨_, rfl, T⟩
      · have T := T2 z
        refine mw_iconst (dT d6_text 31 rfl) ?_
        exact mw_iret rfl (dT d6_text 32 rfl) ⟨_, rfl, T⟩
    · have T := T2 z
      refine mw_bipush (by decide) (dT d6_text 6 rfl) ?_
      exact mw_iret rfl (dT d6_text 7 rfl) ⟨_, rfl, T⟩
theorem s6_fault {K : Int → mH → Prop} {x1 : Int} {h : mH} (T : (mInR x1) ∧ (¬ x1 = 0 → ((mInR x1) ∧ (¬ x1 = 1 → (K ((-1)) h)) ∧ (x1 = 1 → (K (h 25 0 3) h)))) ∧ (x1 = 0 → (K (h 25 0 2) h))) : OkI M6_fault [mR 25 0, mI x1] h K := by
  refine Ok.of rfl (n := 0) rfl ?_
  show At (mPI K) M6_fault 0 [mR 25 0, mI x1] [] h
  refine mw_iload_n (dT d6_fault 0 rfl) rfl ?_
  obtain ⟨z, T1, T2⟩ := T
  refine mw_if_ne 9 (dT d6_fault 1 rfl) (by decide) z (fun z => ?_) (fun z => ?_)
  · have T := T1 z
    refine mw_iload_n (dT d6_fault 5 rfl) rfl ?_
    refine mw_iconst (dT d6_fault 6 rfl) ?_
    obtain ⟨z, T1, T2⟩ := T
    refine mw_icmp_ne 21 (dT d6_fault 7 rfl) (by decide) ⟨z, by decide⟩ (fun z => ?_) (fun z => ?_)
    · have T := T1 z
      refine mw_iconst (dT d6_fault 11 rfl) ?_
      exact mw_iret rfl (dT d6_fault 12 rfl) ⟨_, rfl, T⟩
    · have T := T2 z
      refine mw_aload_n (dT d6_fault 8 rfl) rfl (by decide) ?_
      refine mw_getI fl_X6_13 (dT d6_fault 9 rfl) ?_
      refine mw_goto 22 (dT d6_fault 10 rfl) (by decide) ?_
      exact mw_iret rfl (dT d6_fault 12 rfl) ⟨_, rfl, T⟩
  · have T := T2 z
    refine mw_aload_n (dT d6_fault 2 rfl) rfl (by decide) ?_
    refine mw_getI fl_X6_83 (dT d6_fault 3 rfl) ?_
    exact mw_iret rfl (dT d6_fault 4 rfl) ⟨_, rfl, T⟩
theorem s6_named {K : Int → mH → Prop} {x1 : Int} {h : mH} (T : OkI M3_find [mR 7 0, mI x1] h (fun v1 h1 => K v1 h1)) : OkI M6_named [mR 25 0, mI x1] h K := by
  refine Ok.of rfl (n := 0) rfl ?_
  show At (mPI K) M6_named 0 [mR 25 0, mI x1] [] h
  refine mw_aload_n (dT d6_named 0 rfl) rfl (by decide) ?_
  refine mw_getR fl_X6_20 (dT d6_named 1 rfl) ?_
  refine mw_iload_n (dT d6_named 2 rfl) rfl ?_
  refine mw_callVI mv_3_find ml_X6_101 (by decide) (dT d6_named 3 rfl) (as := [mI _]) rfl rfl T (fun v1 h1 T => ?_)
  exact mw_iret rfl (dT d6_named 4 rfl) ⟨_, rfl, T⟩
theorem s6_turn {K : Int → mH → Prop} {x1 : Int} {h : mH} (T : OkI M3_hasFactor [mR 7 0, mI x1] h (fun v1 h1 => (mInR v1) ∧ (¬ v1 = 0 → (OkV M6_remember [mR 25 0] h1 (fun h2 => OkI M2_turnOnce [mR 12 0, mI x1] h2 (fun v2 h3 => K v2 h3)))) ∧ (v1 = 0 → (K ((-1)) h1)))) : OkI M6_turn [mR 25 0, mI x1] h K := by
  refine Ok.of rfl (n := 0) rfl ?_
  show At (mPI K) M6_turn 0 [mR 25 0, mI x1] [] h
  refine mw_aload_n (dT d6_turn 0 rfl) rfl (by decide) ?_
  refine mw_getR fl_X6_20 (dT d6_turn 1 rfl) ?_
  refine mw_iload_n (dT d6_turn 2 rfl) rfl ?_
  refine mw_callVI mv_3_hasFactor ml_X6_105 (by decide) (dT d6_turn 3 rfl) (as := [mI _]) rfl rfl T (fun v1 h1 T => ?_)
  obtain ⟨z, T1, T2⟩ := T
  refine mw_if_ne 13 (dT d6_turn 4 rfl) (by decide) z (fun z => ?_) (fun z => ?_)
  · have T := T1 z
    refine mw_aload_n (dT d6_turn 7 rfl) rfl (by decide) ?_
    refine mw_callVV mv_6_remember ml_X6_109 (by decide) (dT d6_turn 8 rfl) (as := []) rfl rfl T (fun h2 T => ?_)
    refine mw_aload_n (dT d6_turn 9 rfl) rfl (by decide) ?_
    refine mw_getR fl_X6_36 (dT d6_turn 10 rfl) ?_
    refine mw_iload_n (dT d6_turn 11 rfl) rfl ?_
    refine mw_callVI mv_2_turnOnce ml_X6_112 (by decide) (dT d6_turn 12 rfl) (as := [mI _]) rfl rfl T (fun v2 h3 T => ?_)
    exact mw_iret rfl (dT d6_turn 13 rfl) ⟨_, rfl, T⟩
  · have T := T2 z
    refine mw_iconst (dT d6_turn 5 rfl) ?_
    exact mw_iret rfl (dT d6_turn 6 rfl) ⟨_, rfl, T⟩
theorem s6_round {K : Int → mH → Prop} {x1 : Int} {h : mH} (T : OkI M6_within [mI x1, mI 1, mI 50] h (fun v1 h1 => (mInR v1) ∧ (¬ v1 = 0 → (OkV M6_remember [mR 25 0] h1 (fun h2 => OkI M2_playRounds [mR 12 0, mI x1, mI ((-1))] h2 (fun v2 h3 => OkI M2_countUnbalanced [mR 12 0] h3 (fun v3 h4 => K v3 h4))))) ∧ (v1 = 0 → (K ((-1)) h1)))) : OkI M6_round [mR 25 0, mI x1] h K := by
  refine Ok.of rfl (n := 0) rfl ?_
  show At (mPI K) M6_round 0 [mR 25 0, mI x1] [] h
  refine mw_iload_n (dT d6_round 0 rfl) rfl ?_
  refine mw_iconst (dT d6_round 1 rfl) ?_
  refine mw_bipush (by decide) (dT d6_round 2 rfl) ?_
  refine mw_callSI mt_6_within ml_X6_115 (by decide) (dT d6_round 3 rfl) (as := [mI _, mI _, mI _]) rfl rfl T (fun v1 h1 T => ?_)
  obtain ⟨z, T1, T2⟩ := T
  refine mw_if_ne 12 (dT d6_round 4 rfl) (by decide) z (fun z => ?_) (fun z => ?_)
  · have T := T1 z
    refine mw_aload_n (dT d6_round 7 rfl) rfl (by decide) ?_
    refine mw_callVV mv_6_remember ml_X6_109 (by decide) (dT d6_round 8 rfl) (as := []) rfl rfl T (fun h2 T => ?_)
    refine mw_aload_n (dT d6_round 9 rfl) rfl (by decide) ?_
    refine mw_getR fl_X6_36 (dT d6_round 10 rfl) ?_
    refine mw_iload_n (dT d6_round 11 rfl) rfl ?_
    refine mw_iconst (dT d6_round 12 rfl) ?_
    refine mw_callVI mv_2_playRounds ml_X6_119 (by decide) (dT d6_round 13 rfl) (as := [mI _, mI _]) rfl rfl T (fun v2 h3 T => ?_)
    refine mw_pop (dT d6_round 14 rfl) (fun _ z => by cases z) ?_
    refine mw_aload_n (dT d6_round 15 rfl) rfl (by decide) ?_
    refine mw_getR fl_X6_36 (dT d6_round 16 rfl) ?_
    refine mw_callVI mv_2_countUnbalanced ml_X6_123 (by decide) (dT d6_round 17 rfl) (as := []) rfl rfl T (fun v3 h4 T => ?_)
    exact mw_iret rfl (dT d6_round 18 rfl) ⟨_, rfl, T⟩
  · have T := T2 z
    refine mw_iconst (dT d6_round 5 rfl) ?_
    exact mw_iret rfl (dT d6_round 6 rfl) ⟨_, rfl, T⟩
theorem s6_rebase {K : Int → mH → Prop} {h : mH} (T : OkV M6_remember [mR 25 0] h (fun h1 => OkV M2_rebaseBook [mR 12 0] h1 (fun h2 => K (h2 1 0 1) h2))) : OkI M6_rebase [mR 25 0] h K := by
  refine Ok.of rfl (n := 0) rfl ?_
  show At (mPI K) M6_rebase 0 [mR 25 0] [] h
  refine mw_aload_n (dT d6_rebase 0 rfl) rfl (by decide) ?_
  refine mw_callVV mv_6_remember ml_X6_109 (by decide) (dT d6_rebase 1 rfl) (as := []) rfl rfl T (fun h1 T => ?_)
  refine mw_aload_n (dT d6_rebase 2 rfl) rfl (by decide) ?_
  refine mw_getR fl_X6_36 (dT d6_rebase 3 rfl) ?_
  refine mw_callVV mv_2_rebaseBook ml_X6_127 (by decide) (dT d6_rebase 4 rfl) (as := []) rfl rfl T (fun h2 T => ?_)
  refine mw_aload_n (dT d6_rebase 5 rfl) rfl (by decide) ?_
  refine mw_getR fl_X6_27 (dT d6_rebase 6 rfl) ?_
  refine mw_getI fl_X6_130 (dT d6_rebase 7 rfl) ?_
  exact mw_iret rfl (dT d6_rebase 8 rfl) ⟨_, rfl, T⟩
theorem s6_level {K : Int → mH → Prop} {h : mH} (T : OkV M6_remember [mR 25 0] h (fun h1 => OkV M2_levelBook [mR 12 0] h1 (fun h2 => K (h2 1 0 1) h2))) : OkI M6_level [mR 25 0] h K := by
  refine Ok.of rfl (n := 0) rfl ?_
  show At (mPI K) M6_level 0 [mR 25 0] [] h
  refine mw_aload_n (dT d6_level 0 rfl) rfl (by decide) ?_
  refine mw_callVV mv_6_remember ml_X6_109 (by decide) (dT d6_level 1 rfl) (as := []) rfl rfl T (fun h1 T => ?_)
  refine mw_aload_n (dT d6_level 2 rfl) rfl (by decide) ?_
  refine mw_getR fl_X6_36 (dT d6_level 3 rfl) ?_
  refine mw_callVV mv_2_levelBook ml_X6_133 (by decide) (dT d6_level 4 rfl) (as := []) rfl rfl T (fun h2 T => ?_)
  refine mw_aload_n (dT d6_level 5 rfl) rfl (by decide) ?_
  refine mw_getR fl_X6_27 (dT d6_level 6 rfl) ?_
  refine mw_getI fl_X6_130 (dT d6_level 7 rfl) ?_
  exact mw_iret rfl (dT d6_level 8 rfl) ⟨_, rfl, T⟩
theorem s6_relativity {K : Int → mH → Prop} {x1 : Int} {x2 : Int} {x3 : Int} {h : mH} (T : OkI M3_hasLevel [mR 7 0, mI x1, mI x2] h (fun v1 h1 => (mInR v1) ∧ (v1 = 0 → (K ((-1)) h1)) ∧ (¬ v1 = 0 → ((0 ≤ x1 ∧ x1 < 4) ∧ ((0 ≤ x1 ∧ x1 < 4) ∧ (OkI M6_within [mI x3, mI (h1 10 0 x1), mI (h1 11 0 x1)] h1 (fun v2 h2 => (mInR v2) ∧ (¬ v2 = 0 → (OkV M6_remember [mR 25 0] h2 (fun h3 => OkI M6_slot [mI x1, mI x2] h3 (fun v3 h4 => (0 ≤ v3 ∧ v3 < 32) ∧ (OkV M0_setClass [mR 1 0, mI x1, mI x2, mI x3] h4 (fun h5 => K (h4 6 0 v3) h5)))))) ∧ (v2 = 0 → (K ((-1)) h2))))))))) : OkI M6_relativity [mR 25 0, mI x1, mI x2, mI x3] h K := by
  refine Ok.of rfl (n := 1) rfl ?_
  show At (mPI K) M6_relativity 0 [mR 25 0, mI x1, mI x2, mI x3, mU] [] h
  refine mw_aload_n (dT d6_relativity 0 rfl) rfl (by decide) ?_
  refine mw_getR fl_X6_20 (dT d6_relativity 1 rfl) ?_
  refine mw_iload_n (dT d6_relativity 2 rfl) rfl ?_
  refine mw_iload_n (dT d6_relativity 3 rfl) rfl ?_
  refine mw_callVI mv_3_hasLevel ml_X6_136 (by decide) (dT d6_relativity 4 rfl) (as := [mI _, mI _]) rfl rfl T (fun v1 h1 T => ?_)
  obtain ⟨z, T1, T2⟩ := T
  refine mw_if_eq 37 (dT d6_relativity 5 rfl) (by decide) z (fun z => ?_) (fun z => ?_)
  · have T := T1 z
    refine mw_iconst (dT d6_relativity 19 rfl) ?_
    exact mw_iret rfl (dT d6_relativity 20 rfl) ⟨_, rfl, T⟩
  · have T := T2 z
    refine mw_iload_n (dT d6_relativity 6 rfl) rfl ?_
    refine mw_aload_n (dT d6_relativity 7 rfl) rfl (by decide) ?_
    refine mw_getR fl_X6_20 (dT d6_relativity 8 rfl) ?_
    refine mw_getR fl_X6_139 (dT d6_relativity 9 rfl) ?_
    refine mw_iload_n (dT d6_relativity 10 rfl) rfl ?_
    obtain ⟨z, T⟩ := T
    refine mw_iaload ro_10 (dT d6_relativity 11 rfl) z ?_
    refine mw_aload_n (dT d6_relativity 12 rfl) rfl (by decide) ?_
    refine mw_getR fl_X6_20 (dT d6_relativity 13 rfl) ?_
    refine mw_getR fl_X6_143 (dT d6_relativity 14 rfl) ?_
    refine mw_iload_n (dT d6_relativity 15 rfl) rfl ?_
    obtain ⟨z, T⟩ := T
    refine mw_iaload ro_11 (dT d6_relativity 16 rfl) z ?_
    refine mw_callSI mt_6_within ml_X6_115 (by decide) (dT d6_relativity 17 rfl) (as := [mI _, mI _, mI _]) rfl rfl T (fun v2 h2 T => ?_)
    obtain ⟨z, T1, T2⟩ := T
    refine mw_if_ne 39 (dT d6_relativity 18 rfl) (by decide) z (fun z => ?_) (fun z => ?_)
    · have T := T1 z
      refine mw_aload_n (dT d6_relativity 21 rfl) rfl (by decide) ?_
      refine mw_callVV mv_6_remember ml_X6_109 (by decide) (dT d6_relativity 22 rfl) (as := []) rfl rfl T (fun h3 T => ?_)
      refine mw_aload_n (dT d6_relativity 23 rfl) rfl (by decide) ?_
      refine mw_getR fl_X6_27 (dT d6_relativity 24 rfl) ?_
      refine mw_getR fl_X6_146 (dT d6_relativity 25 rfl) ?_
      refine mw_iload_n (dT d6_relativity 26 rfl) rfl ?_
      refine mw_iload_n (dT d6_relativity 27 rfl) rfl ?_
      refine mw_callSI mt_6_slot ml_X6_149 (by decide) (dT d6_relativity 28 rfl) (as := [mI _, mI _]) rfl rfl T (fun v3 h4 T => ?_)
      obtain ⟨z, T⟩ := T
      refine mw_iaload ro_6 (dT d6_relativity 29 rfl) z ?_
      refine mw_istore (dT d6_relativity 30 rfl) (by decide) ?_
      refine mw_aload_n (dT d6_relativity 31 rfl) rfl (by decide) ?_
      refine mw_getR fl_X6_27 (dT d6_relativity 32 rfl) ?_
      refine mw_iload_n (dT d6_relativity 33 rfl) rfl ?_
      refine mw_iload_n (dT d6_relativity 34 rfl) rfl ?_
      refine mw_iload_n (dT d6_relativity 35 rfl) rfl ?_
      refine mw_callVV mv_0_setClass ml_X6_153 (by decide) (dT d6_relativity 36 rfl) (as := [mI _, mI _, mI _]) rfl rfl T (fun h5 T => ?_)
      refine mw_iload (dT d6_relativity 37 rfl) rfl ?_
      exact mw_iret rfl (dT d6_relativity 38 rfl) ⟨_, rfl, T⟩
    · have T := T2 z
      refine mw_iconst (dT d6_relativity 19 rfl) ?_
      exact mw_iret rfl (dT d6_relativity 20 rfl) ⟨_, rfl, T⟩
theorem s6_claims {K : Int → mH → Prop} {x1 : Int} {x2 : Int} {h : mH} (T : OkI M0_hasRisk [mR 1 0, mI x1] h (fun v1 h1 => (mInR v1) ∧ (v1 = 0 → (K ((-1)) h1)) ∧ (¬ v1 = 0 → (OkI M6_within [mI x2, mI 0, mI 99999] h1 (fun v2 h2 => (mInR v2) ∧ (¬ v2 = 0 → (OkV M6_remember [mR 25 0] h2 (fun h3 => (0 ≤ x1 ∧ x1 < 40) ∧ ((0 ≤ x1 ∧ x1 < 40) ∧ (∀ h4 : mH, h4 = mSet h3 3 0 x1 x2 → (K (h3 3 0 x1) h4)))))) ∧ (v2 = 0 → (K ((-1)) h2))))))) : OkI M6_claims [mR 25 0, mI x1, mI x2] h K := by
  refine Ok.of rfl (n := 1) rfl ?_
  show At (mPI K) M6_claims 0 [mR 25 0, mI x1, mI x2, mU] [] h
  refine mw_aload_n (dT d6_claims 0 rfl) rfl (by decide) ?_
  refine mw_getR fl_X6_27 (dT d6_claims 1 rfl) ?_
  refine mw_iload_n (dT d6_claims 2 rfl) rfl ?_
  refine mw_callVI mv_0_hasRisk ml_X6_157 (by decide) (dT d6_claims 3 rfl) (as := [mI _]) rfl rfl T (fun v1 h1 T => ?_)
  obtain ⟨z, T1, T2⟩ := T
  refine mw_if_eq 21 (dT d6_claims 4 rfl) (by decide) z (fun z => ?_) (fun z => ?_)
  · have T := T1 z
    refine mw_iconst (dT d6_claims 10 rfl) ?_
    exact mw_iret rfl (dT d6_claims 11 rfl) ⟨_, rfl, T⟩
  · have T := T2 z
    refine mw_iload_n (dT d6_claims 5 rfl) rfl ?_
    refine mw_iconst (dT d6_claims 6 rfl) ?_
    refine mw_ldc kc_X6_160 (dT d6_claims 7 rfl) ?_
    refine mw_callSI mt_6_within ml_X6_115 (by decide) (dT d6_claims 8 rfl) (as := [mI _, mI _, mI _]) rfl rfl T (fun v2 h2 T => ?_)
    obtain ⟨z, T1, T2⟩ := T
    refine mw_if_ne 23 (dT d6_claims 9 rfl) (by decide) z (fun z => ?_) (fun z => ?_)
    · have T := T1 z
      refine mw_aload_n (dT d6_claims 12 rfl) rfl (by decide) ?_
      refine mw_callVV mv_6_remember ml_X6_109 (by decide) (dT d6_claims 13 rfl) (as := []) rfl rfl T (fun h3 T => ?_)
      refine mw_aload_n (dT d6_claims 14 rfl) rfl (by decide) ?_
      refine mw_getR fl_X6_27 (dT d6_claims 15 rfl) ?_
      refine mw_getR fl_X6_161 (dT d6_claims 16 rfl) ?_
      refine mw_iload_n (dT d6_claims 17 rfl) rfl ?_
      obtain ⟨z, T⟩ := T
      refine mw_iaload ro_3 (dT d6_claims 18 rfl) z ?_
      refine mw_istore_n (dT d6_claims 19 rfl) (by decide) ?_
      refine mw_aload_n (dT d6_claims 20 rfl) rfl (by decide) ?_
      refine mw_getR fl_X6_27 (dT d6_claims 21 rfl) ?_
      refine mw_getR fl_X6_161 (dT d6_claims 22 rfl) ?_
      refine mw_iload_n (dT d6_claims 23 rfl) rfl ?_
      refine mw_iload_n (dT d6_claims 24 rfl) rfl ?_
      obtain ⟨z, T⟩ := T
      have T := T _ rfl
      refine mw_iastore ro_3 (dT d6_claims 25 rfl) z ?_
      refine mw_iload_n (dT d6_claims 26 rfl) rfl ?_
      exact mw_iret rfl (dT d6_claims 27 rfl) ⟨_, rfl, T⟩
    · have T := T2 z
      refine mw_iconst (dT d6_claims 10 rfl) ?_
      exact mw_iret rfl (dT d6_claims 11 rfl) ⟨_, rfl, T⟩
theorem s6_risk {K : Int → mH → Prop} {x1 : Int} {x2 : Int} {x3 : Int} {x4 : Int} {h : mH} (T : OkI M6_within [mI x1, mI 1, mI 99] h (fun v1 h1 => (mInR v1) ∧ (v1 = 0 → (K ((-1)) h1)) ∧ (¬ v1 = 0 → (OkI M6_within [mI x2, mI 0, mI 99999] h1 (fun v2 h2 => (mInR v2) ∧ (v2 = 0 → (K ((-1)) h2)) ∧ (¬ v2 = 0 → (OkI M6_within [mI x3, mI 1, mI 99999] h2 (fun v3 h3 => (mInR v3) ∧ (v3 = 0 → (K ((-1)) h3)) ∧ (¬ v3 = 0 → (OkI M3_hasLevels [mR 7 0, mI x4] h3 (fun v4 h4 => (mInR v4) ∧ (¬ v4 = 0 → ((mInR (h4 1 0 0)) ∧ ((h4 1 0 0) < 40 → (OkV M6_remember [mR 25 0] h4 (fun h5 => OkV M0_addRisk [mR 1 0, mI x1, mI x2, mI x3, mI x4] h5 (fun h6 => K ((h6 1 0 0) - 1) h6)))) ∧ (¬ (h4 1 0 0) < 40 → (K ((-2)) h4)))) ∧ (v4 = 0 → (K ((-1)) h4))))))))))))) : OkI M6_risk [mR 25 0, mI x1, mI x2, mI x3, mI x4] h K := by
  refine Ok.of rfl (n := 0) rfl ?_
  show At (mPI K) M6_risk 0 [mR 25 0, mI x1, mI x2, mI x3, mI x4] [] h
  refine mw_iload_n (dT d6_risk 0 rfl) rfl ?_
  refine mw_iconst (dT d6_risk 1 rfl) ?_
  refine mw_bipush (by decide) (dT d6_risk 2 rfl) ?_
  refine mw_callSI mt_6_within ml_X6_115 (by decide) (dT d6_risk 3 rfl) (as := [mI _, mI _, mI _]) rfl rfl T (fun v1 h1 T => ?_)
  obtain ⟨z, T1, T2⟩ := T
  refine mw_if_eq 42 (dT d6_risk 4 rfl) (by decide) z (fun z => ?_) (fun z => ?_)
  · have T := T1 z
    refine mw_iconst (dT d6_risk 20 rfl) ?_
    exact mw_iret rfl (dT d6_risk 21 rfl) ⟨_, rfl, T⟩
  · have T := T2 z
    refine mw_iload_n (dT d6_risk 5 rfl) rfl ?_
    refine mw_iconst (dT d6_risk 6 rfl) ?_
    refine mw_ldc kc_X6_160 (dT d6_risk 7 rfl) ?_
    refine mw_callSI mt_6_within ml_X6_115 (by decide) (dT d6_risk 8 rfl) (as := [mI _, mI _, mI _]) rfl rfl T (fun v2 h2 T => ?_)
    obtain ⟨z, T1, T2⟩ := T
    refine mw_if_eq 42 (dT d6_risk 9 rfl) (by decide) z (fun z => ?_) (fun z => ?_)
    · have T := T1 z
      refine mw_iconst (dT d6_risk 20 rfl) ?_
      exact mw_iret rfl (dT d6_risk 21 rfl) ⟨_, rfl, T⟩
    · have T := T2 z
      refine mw_iload_n (dT d6_risk 10 rfl) rfl ?_
      refine mw_iconst (dT d6_risk 11 rfl) ?_
      refine mw_ldc kc_X6_160 (dT d6_risk 12 rfl) ?_
      refine mw_callSI mt_6_within ml_X6_115 (by decide) (dT d6_risk 13 rfl) (as := [mI _, mI _, mI _]) rfl rfl T (fun v3 h3 T => ?_)
      obtain ⟨z, T1, T2⟩ := T
      refine mw_if_eq 42 (dT d6_risk 14 rfl) (by decide) z (fun z => ?_) (fun z => ?_)
      · have T := T1 z
        refine mw_iconst (dT d6_risk 20 rfl) ?_
        exact mw_iret rfl (dT d6_risk 21 rfl) ⟨_, rfl, T⟩
      · have T := T2 z
        refine mw_aload_n (dT d6_risk 15 rfl) rfl (by decide) ?_
        refine mw_getR fl_X6_20 (dT d6_risk 16 rfl) ?_
        refine mw_iload (dT d6_risk 17 rfl) rfl ?_
        refine mw_callVI mv_3_hasLevels ml_X6_164 (by decide) (dT d6_risk 18 rfl) (as := [mI _]) rfl rfl T (fun v4 h4 T => ?_)
        obtain ⟨z, T1, T2⟩ := T
        refine mw_if_ne 44 (dT d6_risk 19 rfl) (by decide) z (fun z => ?_) (fun z => ?_)
        · have T := T1 z
          refine mw_aload_n (dT d6_risk 22 rfl) rfl (by decide) ?_
          refine mw_getR fl_X6_27 (dT d6_risk 23 rfl) ?_
          refine mw_getI fl_X6_167 (dT d6_risk 24 rfl) ?_
          refine mw_bipush (by decide) (dT d6_risk 25 rfl) ?_
          obtain ⟨z, T1, T2⟩ := T
          refine mw_icmp_lt 59 (dT d6_risk 26 rfl) (by decide) ⟨z, by decide⟩ (fun z => ?_) (fun z => ?_)
          · have T := T1 z
            refine mw_aload_n (dT d6_risk 29 rfl) rfl (by decide) ?_
            refine mw_callVV mv_6_remember ml_X6_109 (by decide) (dT d6_risk 30 rfl) (as := []) rfl rfl T (fun h5 T => ?_)
            refine mw_aload_n (dT d6_risk 31 rfl) rfl (by decide) ?_
            refine mw_getR fl_X6_27 (dT d6_risk 32 rfl) ?_
            refine mw_iload_n (dT d6_risk 33 rfl) rfl ?_
            refine mw_iload_n (dT d6_risk 34 rfl) rfl ?_
            refine mw_iload_n (dT d6_risk 35 rfl) rfl ?_
            refine mw_iload (dT d6_risk 36 rfl) rfl ?_
            refine mw_callVV mv_0_addRisk ml_X6_170 (by decide) (dT d6_risk 37 rfl) (as := [mI _, mI _, mI _, mI _]) rfl rfl T (fun h6 T => ?_)
            refine mw_aload_n (dT d6_risk 38 rfl) rfl (by decide) ?_
            refine mw_getR fl_X6_27 (dT d6_risk 39 rfl) ?_
            refine mw_getI fl_X6_167 (dT d6_risk 40 rfl) ?_
            refine mw_iconst (dT d6_risk 41 rfl) ?_
            refine mw_isub (dT d6_risk 42 rfl) ?_
            exact mw_iret rfl (dT d6_risk 43 rfl) ⟨_, rfl, T⟩
          · have T := T2 z
            refine mw_bipush (by decide) (dT d6_risk 27 rfl) ?_
            exact mw_iret rfl (dT d6_risk 28 rfl) ⟨_, rfl, T⟩
        · have T := T2 z
          refine mw_iconst (dT d6_risk 20 rfl) ?_
          exact mw_iret rfl (dT d6_risk 21 rfl) ⟨_, rfl, T⟩
theorem s6_drop {K : Int → mH → Prop} {x1 : Int} {h : mH} (T : OkI M0_hasRisk [mR 1 0, mI x1] h (fun v1 h1 => (mInR v1) ∧ (¬ v1 = 0 → (OkV M6_remember [mR 25 0] h1 (fun h2 => OkV M0_removeRisk [mR 1 0, mI x1] h2 (fun h3 => K (h3 1 0 0) h3)))) ∧ (v1 = 0 → (K ((-1)) h1)))) : OkI M6_drop [mR 25 0, mI x1] h K := by
  refine Ok.of rfl (n := 0) rfl ?_
  show At (mPI K) M6_drop 0 [mR 25 0, mI x1] [] h
  refine mw_aload_n (dT d6_drop 0 rfl) rfl (by decide) ?_
  refine mw_getR fl_X6_27 (dT d6_drop 1 rfl) ?_
  refine mw_iload_n (dT d6_drop 2 rfl) rfl ?_
  refine mw_callVI mv_0_hasRisk ml_X6_157 (by decide) (dT d6_drop 3 rfl) (as := [mI _]) rfl rfl T (fun v1 h1 T => ?_)
  obtain ⟨z, T1, T2⟩ := T
  refine mw_if_ne 13 (dT d6_drop 4 rfl) (by decide) z (fun z => ?_) (fun z => ?_)
  · have T := T1 z
    refine mw_aload_n (dT d6_drop 7 rfl) rfl (by decide) ?_
    refine mw_callVV mv_6_remember ml_X6_109 (by decide) (dT d6_drop 8 rfl) (as := []) rfl rfl T (fun h2 T => ?_)
    refine mw_aload_n (dT d6_drop 9 rfl) rfl (by decide) ?_
    refine mw_getR fl_X6_27 (dT d6_drop 10 rfl) ?_
    refine mw_iload_n (dT d6_drop 11 rfl) rfl ?_
    refine mw_callVV mv_0_removeRisk ml_X6_174 (by decide) (dT d6_drop 12 rfl) (as := [mI _]) rfl rfl T (fun h3 T => ?_)
    refine mw_aload_n (dT d6_drop 13 rfl) rfl (by decide) ?_
    refine mw_getR fl_X6_27 (dT d6_drop 14 rfl) ?_
    refine mw_getI fl_X6_167 (dT d6_drop 15 rfl) ?_
    exact mw_iret rfl (dT d6_drop 16 rfl) ⟨_, rfl, T⟩
  · have T := T2 z
    refine mw_iconst (dT d6_drop 5 rfl) ?_
    exact mw_iret rfl (dT d6_drop 6 rfl) ⟨_, rfl, T⟩
theorem s6_join {K : Int → mH → Prop} {x1 : Int} {x2 : Int} {h : mH} (T : OkI M3_hasLevel [mR 7 0, mI x1, mI x2] h (fun v1 h1 => (mInR v1) ∧ (v1 = 0 → (K ((-1)) h1)) ∧ (¬ v1 = 0 → ((0 ≤ x1 ∧ x1 < 4) ∧ ((mInR x2 ∧ mInR ((h1 9 0 x1) - 1)) ∧ (¬ x2 = ((h1 9 0 x1) - 1) → (OkV M6_remember [mR 25 0] h1 (fun h2 => OkI M0_isJoined [mR 1 0, mI x1, mI x2] h2 (fun v2 h3 => (mInR v2) ∧ (v2 = 0 → (OkV M0_joinToNext [mR 1 0, mI x1, mI x2] h3 (fun h4 => K 1 h4))) ∧ (¬ v2 = 0 → (OkV M0_part [mR 1 0, mI x1, mI x2] h3 (fun h5 => K 0 h5))))))) ∧ (x2 = ((h1 9 0 x1) - 1) → (K ((-1)) h1))))))) : OkI M6_join [mR 25 0, mI x1, mI x2] h K := by
  refine Ok.of rfl (n := 0) rfl ?_
  show At (mPI K) M6_join 0 [mR 25 0, mI x1, mI x2] [] h
  refine mw_aload_n (dT d6_join 0 rfl) rfl (by decide) ?_
  refine mw_getR fl_X6_20 (dT d6_join 1 rfl) ?_
  refine mw_iload_n (dT d6_join 2 rfl) rfl ?_
  refine mw_iload_n (dT d6_join 3 rfl) rfl ?_
  refine mw_callVI mv_3_hasLevel ml_X6_136 (by decide) (dT d6_join 4 rfl) (as := [mI _, mI _]) rfl rfl T (fun v1 h1 T => ?_)
  obtain ⟨z, T1, T2⟩ := T
  refine mw_if_eq 27 (dT d6_join 5 rfl) (by decide) z (fun z => ?_) (fun z => ?_)
  · have T := T1 z
    refine mw_iconst (dT d6_join 15 rfl) ?_
    exact mw_iret rfl (dT d6_join 16 rfl) ⟨_, rfl, T⟩
  · have T := T2 z
    refine mw_iload_n (dT d6_join 6 rfl) rfl ?_
    refine mw_aload_n (dT d6_join 7 rfl) rfl (by decide) ?_
    refine mw_getR fl_X6_20 (dT d6_join 8 rfl) ?_
    refine mw_getR fl_X6_177 (dT d6_join 9 rfl) ?_
    refine mw_iload_n (dT d6_join 10 rfl) rfl ?_
    obtain ⟨z, T⟩ := T
    refine mw_iaload ro_9 (dT d6_join 11 rfl) z ?_
    refine mw_iconst (dT d6_join 12 rfl) ?_
    refine mw_isub (dT d6_join 13 rfl) ?_
    obtain ⟨z, T1, T2⟩ := T
    refine mw_icmp_ne 29 (dT d6_join 14 rfl) (by decide) z (fun z => ?_) (fun z => ?_)
    · have T := T1 z
      refine mw_aload_n (dT d6_join 17 rfl) rfl (by decide) ?_
      refine mw_callVV mv_6_remember ml_X6_109 (by decide) (dT d6_join 18 rfl) (as := []) rfl rfl T (fun h2 T => ?_)
      refine mw_aload_n (dT d6_join 19 rfl) rfl (by decide) ?_
      refine mw_getR fl_X6_27 (dT d6_join 20 rfl) ?_
      refine mw_iload_n (dT d6_join 21 rfl) rfl ?_
      refine mw_iload_n (dT d6_join 22 rfl) rfl ?_
      refine mw_callVI mv_0_isJoined ml_X6_180 (by decide) (dT d6_join 23 rfl) (as := [mI _, mI _]) rfl rfl T (fun v2 h3 T => ?_)
      obtain ⟨z, T1, T2⟩ := T
      refine mw_if_eq 56 (dT d6_join 24 rfl) (by decide) z (fun z => ?_) (fun z => ?_)
      · have T := T1 z
        refine mw_aload_n (dT d6_join 32 rfl) rfl (by decide) ?_
        refine mw_getR fl_X6_27 (dT d6_join 33 rfl) ?_
        refine mw_iload_n (dT d6_join 34 rfl) rfl ?_
        refine mw_iload_n (dT d6_join 35 rfl) rfl ?_
        refine mw_callVV mv_0_joinToNext ml_X6_187 (by decide) (dT d6_join 36 rfl) (as := [mI _, mI _]) rfl rfl T (fun h4 T => ?_)
        refine mw_iconst (dT d6_join 37 rfl) ?_
        exact mw_iret rfl (dT d6_join 38 rfl) ⟨_, rfl, T⟩
      · have T := T2 z
        refine mw_aload_n (dT d6_join 25 rfl) rfl (by decide) ?_
        refine mw_getR fl_X6_27 (dT d6_join 26 rfl) ?_
        refine mw_iload_n (dT d6_join 27 rfl) rfl ?_
        refine mw_iload_n (dT d6_join 28 rfl) rfl ?_
        refine mw_callVV mv_0_part ml_X6_183 (by decide) (dT d6_join 29 rfl) (as := [mI _, mI _]) rfl rfl T (fun h5 T => ?_)
        refine mw_iconst (dT d6_join 30 rfl) ?_
        exact mw_iret rfl (dT d6_join 31 rfl) ⟨_, rfl, T⟩
    · have T := T2 z
      refine mw_iconst (dT d6_join 15 rfl) ?_
      exact mw_iret rfl (dT d6_join 16 rfl) ⟨_, rfl, T⟩
theorem s6_cap {K : Int → mH → Prop} {x1 : Int} {h : mH} (T : OkI M6_within [mI x1, mI 0, mI 999] h (fun v1 h1 => (mInR v1) ∧ (¬ v1 = 0 → (OkV M6_remember [mR 25 0] h1 (fun h2 => ∀ h3 : mH, h3 = mSet h2 1 0 2 x1 → (K (h2 1 0 2) h3)))) ∧ (v1 = 0 → (K ((-1)) h1)))) : OkI M6_cap [mR 25 0, mI x1] h K := by
  refine Ok.of rfl (n := 1) rfl ?_
  show At (mPI K) M6_cap 0 [mR 25 0, mI x1, mU] [] h
  refine mw_iload_n (dT d6_cap 0 rfl) rfl ?_
  refine mw_iconst (dT d6_cap 1 rfl) ?_
  refine mw_sipush (by decide) (dT d6_cap 2 rfl) ?_
  refine mw_callSI mt_6_within ml_X6_115 (by decide) (dT d6_cap 3 rfl) (as := [mI _, mI _, mI _]) rfl rfl T (fun v1 h1 T => ?_)
  obtain ⟨z, T1, T2⟩ := T
  refine mw_if_ne 13 (dT d6_cap 4 rfl) (by decide) z (fun z => ?_) (fun z => ?_)
  · have T := T1 z
    refine mw_aload_n (dT d6_cap 7 rfl) rfl (by decide) ?_
    refine mw_callVV mv_6_remember ml_X6_109 (by decide) (dT d6_cap 8 rfl) (as := []) rfl rfl T (fun h2 T => ?_)
    refine mw_aload_n (dT d6_cap 9 rfl) rfl (by decide) ?_
    refine mw_getR fl_X6_27 (dT d6_cap 10 rfl) ?_
    refine mw_getI fl_X6_190 (dT d6_cap 11 rfl) ?_
    refine mw_istore_n (dT d6_cap 12 rfl) (by decide) ?_
    refine mw_aload_n (dT d6_cap 13 rfl) rfl (by decide) ?_
    refine mw_getR fl_X6_27 (dT d6_cap 14 rfl) ?_
    refine mw_iload_n (dT d6_cap 15 rfl) rfl ?_
    have T := T _ rfl
    refine mw_putI fp_X6_190 (dT d6_cap 16 rfl) ?_
    refine mw_iload_n (dT d6_cap 17 rfl) rfl ?_
    exact mw_iret rfl (dT d6_cap 18 rfl) ⟨_, rfl, T⟩
  · have T := T2 z
    refine mw_iconst (dT d6_cap 5 rfl) ?_
    exact mw_iret rfl (dT d6_cap 6 rfl) ⟨_, rfl, T⟩
theorem s6_trust {K : Int → mH → Prop} {x1 : Int} {h : mH} (T : OkI M6_within [mI x1, mI 0, mI 999] h (fun v1 h1 => (mInR v1) ∧ (¬ v1 = 0 → (OkV M6_remember [mR 25 0] h1 (fun h2 => ∀ h3 : mH, h3 = mSet h2 1 0 3 x1 → (K (h2 1 0 3) h3)))) ∧ (v1 = 0 → (K ((-1)) h1)))) : OkI M6_trust [mR 25 0, mI x1] h K := by
  refine Ok.of rfl (n := 1) rfl ?_
  show At (mPI K) M6_trust 0 [mR 25 0, mI x1, mU] [] h
  refine mw_iload_n (dT d6_trust 0 rfl) rfl ?_
  refine mw_iconst (dT d6_trust 1 rfl) ?_
  refine mw_sipush (by decide) (dT d6_trust 2 rfl) ?_
  refine mw_callSI mt_6_within ml_X6_115 (by decide) (dT d6_trust 3 rfl) (as := [mI _, mI _, mI _]) rfl rfl T (fun v1 h1 T => ?_)
  obtain ⟨z, T1, T2⟩ := T
  refine mw_if_ne 13 (dT d6_trust 4 rfl) (by decide) z (fun z => ?_) (fun z => ?_)
  · have T := T1 z
    refine mw_aload_n (dT d6_trust 7 rfl) rfl (by decide) ?_
    refine mw_callVV mv_6_remember ml_X6_109 (by decide) (dT d6_trust 8 rfl) (as := []) rfl rfl T (fun h2 T => ?_)
    refine mw_aload_n (dT d6_trust 9 rfl) rfl (by decide) ?_
    refine mw_getR fl_X6_27 (dT d6_trust 10 rfl) ?_
    refine mw_getI fl_X6_193 (dT d6_trust 11 rfl) ?_
    refine mw_istore_n (dT d6_trust 12 rfl) (by decide) ?_
    refine mw_aload_n (dT d6_trust 13 rfl) rfl (by decide) ?_
    refine mw_getR fl_X6_27 (dT d6_trust 14 rfl) ?_
    refine mw_iload_n (dT d6_trust 15 rfl) rfl ?_
    have T := T _ rfl
    refine mw_putI fp_X6_193 (dT d6_trust 16 rfl) ?_
    refine mw_iload_n (dT d6_trust 17 rfl) rfl ?_
    exact mw_iret rfl (dT d6_trust 18 rfl) ⟨_, rfl, T⟩
  · have T := T2 z
    refine mw_iconst (dT d6_trust 5 rfl) ?_
    exact mw_iret rfl (dT d6_trust 6 rfl) ⟨_, rfl, T⟩
theorem s6_fleet {K : Int → mH → Prop} {x1 : Int} {x2 : Int} {h : mH} (T : OkI M6_within [mI x1, mI 1, mI 99] h (fun v1 h1 => (mInR v1) ∧ (v1 = 0 → (K ((-1)) h1)) ∧ (¬ v1 = 0 → (OkI M6_within [mI x2, mI 0, mI 500] h1 (fun v2 h2 => (mInR v2) ∧ (¬ v2 = 0 → (OkV M6_remember [mR 25 0] h2 (fun h3 => ∀ h4 : mH, h4 = mSet h3 1 0 4 x1 → (∀ h5 : mH, h5 = mSet h4 1 0 5 x2 → (OkI M0_countFleets [mR 1 0] h5 (fun v3 h6 => K v3 h6)))))) ∧ (v2 = 0 → (K ((-1)) h2))))))) : OkI M6_fleet [mR 25 0, mI x1, mI x2] h K := by
  refine Ok.of rfl (n := 0) rfl ?_
  show At (mPI K) M6_fleet 0 [mR 25 0, mI x1, mI x2] [] h
  refine mw_iload_n (dT d6_fleet 0 rfl) rfl ?_
  refine mw_iconst (dT d6_fleet 1 rfl) ?_
  refine mw_bipush (by decide) (dT d6_fleet 2 rfl) ?_
  refine mw_callSI mt_6_within ml_X6_115 (by decide) (dT d6_fleet 3 rfl) (as := [mI _, mI _, mI _]) rfl rfl T (fun v1 h1 T => ?_)
  obtain ⟨z, T1, T2⟩ := T
  refine mw_if_eq 21 (dT d6_fleet 4 rfl) (by decide) z (fun z => ?_) (fun z => ?_)
  · have T := T1 z
    refine mw_iconst (dT d6_fleet 10 rfl) ?_
    exact mw_iret rfl (dT d6_fleet 11 rfl) ⟨_, rfl, T⟩
  · have T := T2 z
    refine mw_iload_n (dT d6_fleet 5 rfl) rfl ?_
    refine mw_iconst (dT d6_fleet 6 rfl) ?_
    refine mw_sipush (by decide) (dT d6_fleet 7 rfl) ?_
    refine mw_callSI mt_6_within ml_X6_115 (by decide) (dT d6_fleet 8 rfl) (as := [mI _, mI _, mI _]) rfl rfl T (fun v2 h2 T => ?_)
    obtain ⟨z, T1, T2⟩ := T
    refine mw_if_ne 23 (dT d6_fleet 9 rfl) (by decide) z (fun z => ?_) (fun z => ?_)
    · have T := T1 z
      refine mw_aload_n (dT d6_fleet 12 rfl) rfl (by decide) ?_
      refine mw_callVV mv_6_remember ml_X6_109 (by decide) (dT d6_fleet 13 rfl) (as := []) rfl rfl T (fun h3 T => ?_)
      refine mw_aload_n (dT d6_fleet 14 rfl) rfl (by decide) ?_
      refine mw_getR fl_X6_27 (dT d6_fleet 15 rfl) ?_
      refine mw_iload_n (dT d6_fleet 16 rfl) rfl ?_
      have T := T _ rfl
      refine mw_putI fp_X6_196 (dT d6_fleet 17 rfl) ?_
      refine mw_aload_n (dT d6_fleet 18 rfl) rfl (by decide) ?_
      refine mw_getR fl_X6_27 (dT d6_fleet 19 rfl) ?_
      refine mw_iload_n (dT d6_fleet 20 rfl) rfl ?_
      have T := T _ rfl
      refine mw_putI fp_X6_199 (dT d6_fleet 21 rfl) ?_
      refine mw_aload_n (dT d6_fleet 22 rfl) rfl (by decide) ?_
      refine mw_getR fl_X6_27 (dT d6_fleet 23 rfl) ?_
      refine mw_callVI mv_0_countFleets ml_X6_202 (by decide) (dT d6_fleet 24 rfl) (as := []) rfl rfl T (fun v3 h6 T => ?_)
      exact mw_iret rfl (dT d6_fleet 25 rfl) ⟨_, rfl, T⟩
    · have T := T2 z
      refine mw_iconst (dT d6_fleet 10 rfl) ?_
      exact mw_iret rfl (dT d6_fleet 11 rfl) ⟨_, rfl, T⟩
theorem s6_margin {K : Int → mH → Prop} {x1 : Int} {x2 : Int} {x3 : Int} {h : mH} (T : OkI M3_hasLevel [mR 7 0, mI x1, mI x2] h (fun v1 h1 => (mInR v1) ∧ (¬ v1 = 0 → (OkV M2_measure [mR 12 0, mI x1] h1 (fun h2 => OkI M0_firstOf [mR 1 0, mI x1, mI x2] h2 (fun v2 h3 => OkI M6_slot [mI x1, mI v2] h3 (fun v3 h4 => mInR x3 ∧ (x3 = 0 → ((0 ≤ v3 ∧ v3 < 32) ∧ ((mInR (h4 6 0 v3)) ∧ (K (h4 6 0 v3) h4)))) ∧ (x3 = 1 → ((mInR v2) ∧ (K v2 h4))) ∧ (x3 = 2 → (OkI M0_lastOf [mR 1 0, mI x1, mI x2] h4 (fun v4 h5 => (mInR v4) ∧ (K v4 h5)))) ∧ (x3 = 3 → ((0 ≤ v3 ∧ v3 < 32) ∧ (K (h4 14 0 v3) h4))) ∧ (x3 = 4 → ((0 ≤ v3 ∧ v3 < 32) ∧ (K (h4 15 0 v3) h4))) ∧ (x3 = 5 → ((0 ≤ v3 ∧ v3 < 32) ∧ (K (h4 16 0 v3) h4))) ∧ (x3 = 6 → ((0 ≤ v3 ∧ v3 < 32) ∧ ((mInR (h4 17 0 v3)) ∧ (K (h4 17 0 v3) h4)))) ∧ (x3 = 7 → (OkI M2_balances [mR 12 0, mI x1, mI v2] h4 (fun v5 h6 => (mInR v5) ∧ (v5 = 0 → (K 0 h6)) ∧ (¬ v5 = 0 → (K 1 h6))))) ∧ (x3 < 0 ∨ 7 < x3 → (K ((-2000)) h4))))))) ∧ (v1 = 0 → (K ((-2000)) h1)))) : OkJ M6_margin [mR 25 0, mI x1, mI x2, mI x3] h K := by
  refine Ok.of rfl (n := 2) rfl ?_
  show At (mPJ K) M6_margin 0 [mR 25 0, mI x1, mI x2, mI x3, mU, mU] [] h
  refine mw_aload_n (dT d6_margin 0 rfl) rfl (by decide) ?_
  refine mw_getR fl_X6_20 (dT d6_margin 1 rfl) ?_
  refine mw_iload_n (dT d6_margin 2 rfl) rfl ?_
  refine mw_iload_n (dT d6_margin 3 rfl) rfl ?_
  refine mw_callVI mv_3_hasLevel ml_X6_136 (by decide) (dT d6_margin 4 rfl) (as := [mI _, mI _]) rfl rfl T (fun v1 h1 T => ?_)
  obtain ⟨z, T1, T2⟩ := T
  refine mw_if_ne 16 (dT d6_margin 5 rfl) (by decide) z (fun z => ?_) (fun z => ?_)
  · have T := T1 z
    refine mw_aload_n (dT d6_margin 8 rfl) rfl (by decide) ?_
    refine mw_getR fl_X6_36 (dT d6_margin 9 rfl) ?_
    refine mw_iload_n (dT d6_margin 10 rfl) rfl ?_
    refine mw_callVV mv_2_measure ml_X6_219 (by decide) (dT d6_margin 11 rfl) (as := [mI _]) rfl rfl T (fun h2 T => ?_)
    refine mw_aload_n (dT d6_margin 12 rfl) rfl (by decide) ?_
    refine mw_getR fl_X6_27 (dT d6_margin 13 rfl) ?_
    refine mw_iload_n (dT d6_margin 14 rfl) rfl ?_
    refine mw_iload_n (dT d6_margin 15 rfl) rfl ?_
    refine mw_callVI mv_0_firstOf ml_X6_222 (by decide) (dT d6_margin 16 rfl) (as := [mI _, mI _]) rfl rfl T (fun v2 h3 T => ?_)
    refine mw_istore (dT d6_margin 17 rfl) (by decide) ?_
    refine mw_iload_n (dT d6_margin 18 rfl) rfl ?_
    refine mw_iload (dT d6_margin 19 rfl) rfl ?_
    refine mw_callSI mt_6_slot ml_X6_149 (by decide) (dT d6_margin 20 rfl) (as := [mI _, mI _]) rfl rfl T (fun v3 h4 T => ?_)
    refine mw_istore (dT d6_margin 21 rfl) (by decide) ?_
    refine mw_iload_n (dT d6_margin 22 rfl) rfl ?_
    obtain ⟨z, T0, T1, T2, T3, T4, T5, T6, T7, Td⟩ := T
    by_cases y0 : x3 = 0
    · have T := T0 y0
      refine mw_tableIn 92 (dT d6_margin 23 rfl) z (by omega) (by omega) (by rw [y0]; rfl) (by decide) ?_
      refine mw_aload_n (dT d6_margin 24 rfl) rfl (by decide) ?_
      refine mw_getR fl_X6_27 (dT d6_margin 25 rfl) ?_
      refine mw_getR fl_X6_146 (dT d6_margin 26 rfl) ?_
      refine mw_iload (dT d6_margin 27 rfl) rfl ?_
      obtain ⟨z, T⟩ := T
      refine mw_iaload ro_6 (dT d6_margin 28 rfl) z ?_
      obtain ⟨z, T⟩ := T
      refine mw_i2l (dT d6_margin 29 rfl) z ?_
      exact mw_lret rfl (dT d6_margin 30 rfl) ⟨_, rfl, T⟩
    by_cases y1 : x3 = 1
    · have T := T1 y1
      refine mw_tableIn 104 (dT d6_margin 23 rfl) z (by omega) (by omega) (by rw [y1]; rfl) (by decide) ?_
      refine mw_iload (dT d6_margin 31 rfl) rfl ?_
      obtain ⟨z, T⟩ := T
      refine mw_i2l (dT d6_margin 32 rfl) z ?_
      exact mw_lret rfl (dT d6_margin 33 rfl) ⟨_, rfl, T⟩
    by_cases y2 : x3 = 2
    · have T := T2 y2
      refine mw_tableIn 108 (dT d6_margin 23 rfl) z (by omega) (by omega) (by rw [y2]; rfl) (by decide) ?_
      refine mw_aload_n (dT d6_margin 34 rfl) rfl (by decide) ?_
      refine mw_getR fl_X6_27 (dT d6_margin 35 rfl) ?_
      refine mw_iload_n (dT d6_margin 36 rfl) rfl ?_
      refine mw_iload_n (dT d6_margin 37 rfl) rfl ?_
      refine mw_callVI mv_0_lastOf ml_X6_225 (by decide) (dT d6_margin 38 rfl) (as := [mI _, mI _]) rfl rfl T (fun v4 h5 T => ?_)
      obtain ⟨z, T⟩ := T
      refine mw_i2l (dT d6_margin 39 rfl) z ?_
      exact mw_lret rfl (dT d6_margin 40 rfl) ⟨_, rfl, T⟩
    by_cases y3 : x3 = 3
    · have T := T3 y3
      refine mw_tableIn 119 (dT d6_margin 23 rfl) z (by omega) (by omega) (by rw [y3]; rfl) (by decide) ?_
      refine mw_aload_n (dT d6_margin 41 rfl) rfl (by decide) ?_
      refine mw_getR fl_X6_36 (dT d6_margin 42 rfl) ?_
      refine mw_getR fl_X6_228 (dT d6_margin 43 rfl) ?_
      refine mw_iload (dT d6_margin 44 rfl) rfl ?_
      obtain ⟨z, T⟩ := T
      refine mw_laload ro_14 (dT d6_margin 45 rfl) z ?_
      exact mw_lret rfl (dT d6_margin 46 rfl) ⟨_, rfl, T⟩
    by_cases y4 : x3 = 4
    · have T := T4 y4
      refine mw_tableIn 130 (dT d6_margin 23 rfl) z (by omega) (by omega) (by rw [y4]; rfl) (by decide) ?_
      refine mw_aload_n (dT d6_margin 47 rfl) rfl (by decide) ?_
      refine mw_getR fl_X6_36 (dT d6_margin 48 rfl) ?_
      refine mw_getR fl_X6_232 (dT d6_margin 49 rfl) ?_
      refine mw_iload (dT d6_margin 50 rfl) rfl ?_
      obtain ⟨z, T⟩ := T
      refine mw_laload ro_15 (dT d6_margin 51 rfl) z ?_
      exact mw_lret rfl (dT d6_margin 52 rfl) ⟨_, rfl, T⟩
    by_cases y5 : x3 = 5
    · have T := T5 y5
      refine mw_tableIn 141 (dT d6_margin 23 rfl) z (by omega) (by omega) (by rw [y5]; rfl) (by decide) ?_
      refine mw_aload_n (dT d6_margin 53 rfl) rfl (by decide) ?_
      refine mw_getR fl_X6_36 (dT d6_margin 54 rfl) ?_
      refine mw_getR fl_X6_235 (dT d6_margin 55 rfl) ?_
      refine mw_iload (dT d6_margin 56 rfl) rfl ?_
      obtain ⟨z, T⟩ := T
      refine mw_laload ro_16 (dT d6_margin 57 rfl) z ?_
      exact mw_lret rfl (dT d6_margin 58 rfl) ⟨_, rfl, T⟩
    by_cases y6 : x3 = 6
    · have T := T6 y6
      refine mw_tableIn 152 (dT d6_margin 23 rfl) z (by omega) (by omega) (by rw [y6]; rfl) (by decide) ?_
      refine mw_aload_n (dT d6_margin 59 rfl) rfl (by decide) ?_
      refine mw_getR fl_X6_36 (dT d6_margin 60 rfl) ?_
      refine mw_getR fl_X6_238 (dT d6_margin 61 rfl) ?_
      refine mw_iload (dT d6_margin 62 rfl) rfl ?_
      obtain ⟨z, T⟩ := T
      refine mw_iaload ro_17 (dT d6_margin 63 rfl) z ?_
      obtain ⟨z, T⟩ := T
      refine mw_i2l (dT d6_margin 64 rfl) z ?_
      exact mw_lret rfl (dT d6_margin 65 rfl) ⟨_, rfl, T⟩
    by_cases y7 : x3 = 7
    · have T := T7 y7
      refine mw_tableIn 164 (dT d6_margin 23 rfl) z (by omega) (by omega) (by rw [y7]; rfl) (by decide) ?_
      refine mw_aload_n (dT d6_margin 66 rfl) rfl (by decide) ?_
      refine mw_getR fl_X6_36 (dT d6_margin 67 rfl) ?_
      refine mw_iload_n (dT d6_margin 68 rfl) rfl ?_
      refine mw_iload (dT d6_margin 69 rfl) rfl ?_
      refine mw_callVI mv_2_balances ml_X6_241 (by decide) (dT d6_margin 70 rfl) (as := [mI _, mI _]) rfl rfl T (fun v5 h6 T => ?_)
      obtain ⟨z, T1, T2⟩ := T
      refine mw_if_eq 181 (dT d6_margin 71 rfl) (by decide) z (fun z => ?_) (fun z => ?_)
      · have T := T1 z
        refine mw_lconst (dT d6_margin 74 rfl) ?_
        exact mw_lret rfl (dT d6_margin 75 rfl) ⟨_, rfl, T⟩
      · have T := T2 z
        refine mw_lconst (dT d6_margin 72 rfl) ?_
        refine mw_goto 182 (dT d6_margin 73 rfl) (by decide) ?_
        exact mw_lret rfl (dT d6_margin 75 rfl) ⟨_, rfl, T⟩
    have yd : x3 < 0 ∨ 7 < x3 := by omega
    have T := Td yd
    refine mw_tableOut 183 (dT d6_margin 23 rfl) z yd (by decide) ?_
    refine mw_ldc2 kl_X6_217 (dT d6_margin 76 rfl) ?_
    exact mw_lret rfl (dT d6_margin 77 rfl) ⟨_, rfl, T⟩
  · have T := T2 z
    refine mw_ldc2 kl_X6_217 (dT d6_margin 6 rfl) ?_
    exact mw_lret rfl (dT d6_margin 7 rfl) ⟨_, rfl, T⟩
theorem s6_of {K : Int → mH → Prop} {x1 : Int} {x2 : Int} {h : mH} (T : OkI M0_hasRisk [mR 1 0, mI x1] h (fun v1 h1 => (mInR v1) ∧ (¬ v1 = 0 → (mInR x2 ∧ (x2 = 0 → ((0 ≤ x1 ∧ x1 < 40) ∧ ((mInR (h1 2 0 x1)) ∧ (K (h1 2 0 x1) h1)))) ∧ (x2 = 1 → ((0 ≤ x1 ∧ x1 < 40) ∧ ((mInR (h1 3 0 x1)) ∧ (K (h1 3 0 x1) h1)))) ∧ (x2 = 2 → ((0 ≤ x1 ∧ x1 < 40) ∧ ((mInR (h1 4 0 x1)) ∧ (K (h1 4 0 x1) h1)))) ∧ (x2 = 3 → (OkJ M2_premiumOf [mR 12 0, mI x1] h1 (fun v2 h2 => K v2 h2))) ∧ (x2 = 4 → (OkV M1_settle [mR 18 0] h1 (fun h3 => (0 ≤ x1 ∧ x1 < 40) ∧ (K (h3 19 0 x1) h3)))) ∧ (x2 = 5 → (OkV M1_settle [mR 18 0] h1 (fun h4 => OkJ M1_changeOf [mR 18 0, mI x1] h4 (fun v3 h5 => K v3 h5)))) ∧ (x2 < 0 ∨ 5 < x2 → (OkI M6_within [mI x2, mI 6, mI (5 + (h1 7 0 0))] h1 (fun v4 h6 => (mInR v4) ∧ (v4 = 0 → (K ((-999999999)) h6)) ∧ (¬ v4 = 0 → ((0 ≤ x1 ∧ x1 < 40) ∧ (OkI M6_levelIn [mI (h6 5 0 x1), mI (x2 - 6)] h6 (fun v5 h7 => (mInR v5) ∧ (K v5 h7)))))))))) ∧ (v1 = 0 → (K ((-999999999)) h1)))) : OkJ M6_of [mR 25 0, mI x1, mI x2] h K := by
  refine Ok.of rfl (n := 0) rfl ?_
  show At (mPJ K) M6_of 0 [mR 25 0, mI x1, mI x2] [] h
  refine mw_aload_n (dT d6_of 0 rfl) rfl (by decide) ?_
  refine mw_getR fl_X6_27 (dT d6_of 1 rfl) ?_
  refine mw_iload_n (dT d6_of 2 rfl) rfl ?_
  refine mw_callVI mv_0_hasRisk ml_X6_157 (by decide) (dT d6_of 3 rfl) (as := [mI _]) rfl rfl T (fun v1 h1 T => ?_)
  obtain ⟨z, T1, T2⟩ := T
  refine mw_if_ne 15 (dT d6_of 4 rfl) (by decide) z (fun z => ?_) (fun z => ?_)
  · have T := T1 z
    refine mw_iload_n (dT d6_of 7 rfl) rfl ?_
    obtain ⟨z, T0, T1, T2, T3, T4, T5, Td⟩ := T
    by_cases y0 : x2 = 0
    · have T := T0 y0
      refine mw_tableIn 56 (dT d6_of 8 rfl) z (by omega) (by omega) (by rw [y0]; rfl) (by decide) ?_
      refine mw_aload_n (dT d6_of 9 rfl) rfl (by decide) ?_
      refine mw_getR fl_X6_27 (dT d6_of 10 rfl) ?_
      refine mw_getR fl_X6_246 (dT d6_of 11 rfl) ?_
      refine mw_iload_n (dT d6_of 12 rfl) rfl ?_
      obtain ⟨z, T⟩ := T
      refine mw_iaload ro_2 (dT d6_of 13 rfl) z ?_
      obtain ⟨z, T⟩ := T
      refine mw_i2l (dT d6_of 14 rfl) z ?_
      exact mw_lret rfl (dT d6_of 15 rfl) ⟨_, rfl, T⟩
    by_cases y1 : x2 = 1
    · have T := T1 y1
      refine mw_tableIn 67 (dT d6_of 8 rfl) z (by omega) (by omega) (by rw [y1]; rfl) (by decide) ?_
      refine mw_aload_n (dT d6_of 16 rfl) rfl (by decide) ?_
      refine mw_getR fl_X6_27 (dT d6_of 17 rfl) ?_
      refine mw_getR fl_X6_161 (dT d6_of 18 rfl) ?_
      refine mw_iload_n (dT d6_of 19 rfl) rfl ?_
      obtain ⟨z, T⟩ := T
      refine mw_iaload ro_3 (dT d6_of 20 rfl) z ?_
      obtain ⟨z, T⟩ := T
      refine mw_i2l (dT d6_of 21 rfl) z ?_
      exact mw_lret rfl (dT d6_of 22 rfl) ⟨_, rfl, T⟩
    by_cases y2 : x2 = 2
    · have T := T2 y2
      refine mw_tableIn 78 (dT d6_of 8 rfl) z (by omega) (by omega) (by rw [y2]; rfl) (by decide) ?_
      refine mw_aload_n (dT d6_of 23 rfl) rfl (by decide) ?_
      refine mw_getR fl_X6_27 (dT d6_of 24 rfl) ?_
      refine mw_getR fl_X6_249 (dT d6_of 25 rfl) ?_
      refine mw_iload_n (dT d6_of 26 rfl) rfl ?_
      obtain ⟨z, T⟩ := T
      refine mw_iaload ro_4 (dT d6_of 27 rfl) z ?_
      obtain ⟨z, T⟩ := T
      refine mw_i2l (dT d6_of 28 rfl) z ?_
      exact mw_lret rfl (dT d6_of 29 rfl) ⟨_, rfl, T⟩
    by_cases y3 : x2 = 3
    · have T := T3 y3
      refine mw_tableIn 89 (dT d6_of 8 rfl) z (by omega) (by omega) (by rw [y3]; rfl) (by decide) ?_
      refine mw_aload_n (dT d6_of 30 rfl) rfl (by decide) ?_
      refine mw_getR fl_X6_36 (dT d6_of 31 rfl) ?_
      refine mw_iload_n (dT d6_of 32 rfl) rfl ?_
      refine mw_callVJ mv_2_premiumOf ml_X6_252 (by decide) (dT d6_of 33 rfl) (as := [mI _]) rfl rfl T (fun v2 h2 T => ?_)
      exact mw_lret rfl (dT d6_of 34 rfl) ⟨_, rfl, T⟩
    by_cases y4 : x2 = 4
    · have T := T4 y4
      refine mw_tableIn 98 (dT d6_of 8 rfl) z (by omega) (by omega) (by rw [y4]; rfl) (by decide) ?_
      refine mw_aload_n (dT d6_of 35 rfl) rfl (by decide) ?_
      refine mw_getR fl_X6_45 (dT d6_of 36 rfl) ?_
      refine mw_callVV mv_1_settle ml_X6_256 (by decide) (dT d6_of 37 rfl) (as := []) rfl rfl T (fun h3 T => ?_)
      refine mw_aload_n (dT d6_of 38 rfl) rfl (by decide) ?_
      refine mw_getR fl_X6_45 (dT d6_of 39 rfl) ?_
      refine mw_getR fl_X6_259 (dT d6_of 40 rfl) ?_
      refine mw_iload_n (dT d6_of 41 rfl) rfl ?_
      obtain ⟨z, T⟩ := T
      refine mw_laload ro_19 (dT d6_of 42 rfl) z ?_
      exact mw_lret rfl (dT d6_of 43 rfl) ⟨_, rfl, T⟩
    by_cases y5 : x2 = 5
    · have T := T5 y5
      refine mw_tableIn 115 (dT d6_of 8 rfl) z (by omega) (by omega) (by rw [y5]; rfl) (by decide) ?_
      refine mw_aload_n (dT d6_of 44 rfl) rfl (by decide) ?_
      refine mw_getR fl_X6_45 (dT d6_of 45 rfl) ?_
      refine mw_callVV mv_1_settle ml_X6_256 (by decide) (dT d6_of 46 rfl) (as := []) rfl rfl T (fun h4 T => ?_)
      refine mw_aload_n (dT d6_of 47 rfl) rfl (by decide) ?_
      refine mw_getR fl_X6_45 (dT d6_of 48 rfl) ?_
      refine mw_iload_n (dT d6_of 49 rfl) rfl ?_
      refine mw_callVJ mv_1_changeOf ml_X6_262 (by decide) (dT d6_of 50 rfl) (as := [mI _]) rfl rfl T (fun v3 h5 T => ?_)
      exact mw_lret rfl (dT d6_of 51 rfl) ⟨_, rfl, T⟩
    have yd : x2 < 0 ∨ 5 < x2 := by omega
    have T := Td yd
    refine mw_tableOut 131 (dT d6_of 8 rfl) z yd (by decide) ?_
    refine mw_iload_n (dT d6_of 52 rfl) rfl ?_
    refine mw_bipush (by decide) (dT d6_of 53 rfl) ?_
    refine mw_iconst (dT d6_of 54 rfl) ?_
    refine mw_aload_n (dT d6_of 55 rfl) rfl (by decide) ?_
    refine mw_getR fl_X6_20 (dT d6_of 56 rfl) ?_
    refine mw_getI fl_X6_265 (dT d6_of 57 rfl) ?_
    refine mw_iadd (dT d6_of 58 rfl) ?_
    refine mw_callSI mt_6_within ml_X6_115 (by decide) (dT d6_of 59 rfl) (as := [mI _, mI _, mI _]) rfl rfl T (fun v4 h6 T => ?_)
    obtain ⟨z, T1, T2⟩ := T
    refine mw_if_eq 169 (dT d6_of 60 rfl) (by decide) z (fun z => ?_) (fun z => ?_)
    · have T := T1 z
      refine mw_ldc2 kl_X6_244 (dT d6_of 72 rfl) ?_
      exact mw_lret rfl (dT d6_of 73 rfl) ⟨_, rfl, T⟩
    · have T := T2 z
      refine mw_aload_n (dT d6_of 61 rfl) rfl (by decide) ?_
      refine mw_getR fl_X6_27 (dT d6_of 62 rfl) ?_
      refine mw_getR fl_X6_268 (dT d6_of 63 rfl) ?_
      refine mw_iload_n (dT d6_of 64 rfl) rfl ?_
      obtain ⟨z, T⟩ := T
      refine mw_iaload ro_5 (dT d6_of 65 rfl) z ?_
      refine mw_iload_n (dT d6_of 66 rfl) rfl ?_
      refine mw_bipush (by decide) (dT d6_of 67 rfl) ?_
      refine mw_isub (dT d6_of 68 rfl) ?_
      refine mw_callSI mt_6_levelIn ml_X6_271 (by decide) (dT d6_of 69 rfl) (as := [mI _, mI _]) rfl rfl T (fun v5 h7 T => ?_)
      obtain ⟨z, T⟩ := T
      refine mw_i2l (dT d6_of 70 rfl) z ?_
      refine mw_goto 172 (dT d6_of 71 rfl) (by decide) ?_
      exact mw_lret rfl (dT d6_of 73 rfl) ⟨_, rfl, T⟩
  · have T := T2 z
    refine mw_ldc2 kl_X6_244 (dT d6_of 5 rfl) ?_
    exact mw_lret rfl (dT d6_of 6 rfl) ⟨_, rfl, T⟩
theorem s6_all {K : Int → mH → Prop} {x1 : Int} {h : mH} (T : mInR x1 ∧ (x1 = 0 → (OkJ M0_sumOf [mR 1 0, mR 3 0] h (fun v1 h1 => K v1 h1))) ∧ (x1 = 1 → (OkJ M2_sumPaid [mR 12 0] h (fun v2 h2 => K v2 h2))) ∧ (x1 = 2 → (OkJ M0_sumOf [mR 1 0, mR 4 0] h (fun v3 h3 => K v3 h3))) ∧ (x1 = 3 → (OkJ M2_sumMisfit [mR 12 0] h (fun v4 h4 => K v4 h4))) ∧ (x1 = 4 → (OkJ M0_sumOf [mR 1 0, mR 2 0] h (fun v5 h5 => K v5 h5))) ∧ (x1 = 5 → (OkV M1_settle [mR 18 0] h (fun h6 => OkJ M1_sumCapped [mR 18 0] h6 (fun v6 h7 => K v6 h7)))) ∧ (x1 < 0 ∨ 5 < x1 → (K ((-1)) h))) : OkJ M6_all [mR 25 0, mI x1] h K := by
  refine Ok.of rfl (n := 0) rfl ?_
  show At (mPJ K) M6_all 0 [mR 25 0, mI x1] [] h
  refine mw_iload_n (dT d6_all 0 rfl) rfl ?_
  obtain ⟨z, T0, T1, T2, T3, T4, T5, Td⟩ := T
  by_cases y0 : x1 = 0
  · have T := T0 y0
    refine mw_tableIn 40 (dT d6_all 1 rfl) z (by omega) (by omega) (by rw [y0]; rfl) (by decide) ?_
    refine mw_aload_n (dT d6_all 2 rfl) rfl (by decide) ?_
    refine mw_getR fl_X6_27 (dT d6_all 3 rfl) ?_
    refine mw_aload_n (dT d6_all 4 rfl) rfl (by decide) ?_
    refine mw_getR fl_X6_27 (dT d6_all 5 rfl) ?_
    refine mw_getR fl_X6_161 (dT d6_all 6 rfl) ?_
    refine mw_callVJ mv_0_sumOf ml_X6_274 (by decide) (dT d6_all 7 rfl) (as := [mR 3 _]) rfl rfl T (fun v1 h1 T => ?_)
    exact mw_lret rfl (dT d6_all 8 rfl) ⟨_, rfl, T⟩
  by_cases y1 : x1 = 1
  · have T := T1 y1
    refine mw_tableIn 55 (dT d6_all 1 rfl) z (by omega) (by omega) (by rw [y1]; rfl) (by decide) ?_
    refine mw_aload_n (dT d6_all 9 rfl) rfl (by decide) ?_
    refine mw_getR fl_X6_36 (dT d6_all 10 rfl) ?_
    refine mw_callVJ mv_2_sumPaid ml_X6_278 (by decide) (dT d6_all 11 rfl) (as := []) rfl rfl T (fun v2 h2 T => ?_)
    exact mw_lret rfl (dT d6_all 12 rfl) ⟨_, rfl, T⟩
  by_cases y2 : x1 = 2
  · have T := T2 y2
    refine mw_tableIn 63 (dT d6_all 1 rfl) z (by omega) (by omega) (by rw [y2]; rfl) (by decide) ?_
    refine mw_aload_n (dT d6_all 13 rfl) rfl (by decide) ?_
    refine mw_getR fl_X6_27 (dT d6_all 14 rfl) ?_
    refine mw_aload_n (dT d6_all 15 rfl) rfl (by decide) ?_
    refine mw_getR fl_X6_27 (dT d6_all 16 rfl) ?_
    refine mw_getR fl_X6_249 (dT d6_all 17 rfl) ?_
    refine mw_callVJ mv_0_sumOf ml_X6_274 (by decide) (dT d6_all 18 rfl) (as := [mR 4 _]) rfl rfl T (fun v3 h3 T => ?_)
    exact mw_lret rfl (dT d6_all 19 rfl) ⟨_, rfl, T⟩
  by_cases y3 : x1 = 3
  · have T := T3 y3
    refine mw_tableIn 78 (dT d6_all 1 rfl) z (by omega) (by omega) (by rw [y3]; rfl) (by decide) ?_
    refine mw_aload_n (dT d6_all 20 rfl) rfl (by decide) ?_
    refine mw_getR fl_X6_36 (dT d6_all 21 rfl) ?_
    refine mw_callVJ mv_2_sumMisfit ml_X6_282 (by decide) (dT d6_all 22 rfl) (as := []) rfl rfl T (fun v4 h4 T => ?_)
    exact mw_lret rfl (dT d6_all 23 rfl) ⟨_, rfl, T⟩
  by_cases y4 : x1 = 4
  · have T := T4 y4
    refine mw_tableIn 86 (dT d6_all 1 rfl) z (by omega) (by omega) (by rw [y4]; rfl) (by decide) ?_
    refine mw_aload_n (dT d6_all 24 rfl) rfl (by decide) ?_
    refine mw_getR fl_X6_27 (dT d6_all 25 rfl) ?_
    refine mw_aload_n (dT d6_all 26 rfl) rfl (by decide) ?_
    refine mw_getR fl_X6_27 (dT d6_all 27 rfl) ?_
    refine mw_getR fl_X6_246 (dT d6_all 28 rfl) ?_
    refine mw_callVJ mv_0_sumOf ml_X6_274 (by decide) (dT d6_all 29 rfl) (as := [mR 2 _]) rfl rfl T (fun v5 h5 T => ?_)
    exact mw_lret rfl (dT d6_all 30 rfl) ⟨_, rfl, T⟩
  by_cases y5 : x1 = 5
  · have T := T5 y5
    refine mw_tableIn 101 (dT d6_all 1 rfl) z (by omega) (by omega) (by rw [y5]; rfl) (by decide) ?_
    refine mw_aload_n (dT d6_all 31 rfl) rfl (by decide) ?_
    refine mw_getR fl_X6_45 (dT d6_all 32 rfl) ?_
    refine mw_callVV mv_1_settle ml_X6_256 (by decide) (dT d6_all 33 rfl) (as := []) rfl rfl T (fun h6 T => ?_)
    refine mw_aload_n (dT d6_all 34 rfl) rfl (by decide) ?_
    refine mw_getR fl_X6_45 (dT d6_all 35 rfl) ?_
    refine mw_callVJ mv_1_sumCapped ml_X6_285 (by decide) (dT d6_all 36 rfl) (as := []) rfl rfl T (fun v6 h7 T => ?_)
    exact mw_lret rfl (dT d6_all 37 rfl) ⟨_, rfl, T⟩
  have yd : x1 < 0 ∨ 5 < x1 := by omega
  have T := Td yd
  refine mw_tableOut 116 (dT d6_all 1 rfl) z yd (by decide) ?_
  refine mw_ldc2 kl_X6_288 (dT d6_all 38 rfl) ?_
  exact mw_lret rfl (dT d6_all 39 rfl) ⟨_, rfl, T⟩
theorem s6_fitted {K : Int → mH → Prop} {x1 : Int} {h : mH} (T : OkI M6_within [mI x1, mI 0, mI 100] h (fun v1 h1 => (mInR v1) ∧ (¬ v1 = 0 → (OkV M0_copyFrom [mR 1 1, mR 1 0] h1 (fun h2 => OkI M2_roundsTillBalance [mR 12 1, mI x1] h2 (fun v2 h3 => K v2 h3)))) ∧ (v1 = 0 → (K ((-1)) h1)))) : OkI M6_fitted [mR 25 0, mI x1] h K := by
  refine Ok.of rfl (n := 0) rfl ?_
  show At (mPI K) M6_fitted 0 [mR 25 0, mI x1] [] h
  refine mw_iload_n (dT d6_fitted 0 rfl) rfl ?_
  refine mw_iconst (dT d6_fitted 1 rfl) ?_
  refine mw_bipush (by decide) (dT d6_fitted 2 rfl) ?_
  refine mw_callSI mt_6_within ml_X6_115 (by decide) (dT d6_fitted 3 rfl) (as := [mI _, mI _, mI _]) rfl rfl T (fun v1 h1 T => ?_)
  obtain ⟨z, T1, T2⟩ := T
  refine mw_if_ne 12 (dT d6_fitted 4 rfl) (by decide) z (fun z => ?_) (fun z => ?_)
  · have T := T1 z
    refine mw_aload_n (dT d6_fitted 7 rfl) rfl (by decide) ?_
    refine mw_getR fl_X6_49 (dT d6_fitted 8 rfl) ?_
    refine mw_aload_n (dT d6_fitted 9 rfl) rfl (by decide) ?_
    refine mw_getR fl_X6_27 (dT d6_fitted 10 rfl) ?_
    refine mw_callVV mv_0_copyFrom ml_X6_91 (by decide) (dT d6_fitted 11 rfl) (as := [mR 1 _]) rfl rfl T (fun h2 T => ?_)
    refine mw_aload_n (dT d6_fitted 12 rfl) rfl (by decide) ?_
    refine mw_getR fl_X6_52 (dT d6_fitted 13 rfl) ?_
    refine mw_iload_n (dT d6_fitted 14 rfl) rfl ?_
    refine mw_callVI mv_2_roundsTillBalance ml_X6_290 (by decide) (dT d6_fitted 15 rfl) (as := [mI _]) rfl rfl T (fun v2 h3 T => ?_)
    exact mw_iret rfl (dT d6_fitted 16 rfl) ⟨_, rfl, T⟩
  · have T := T2 z
    refine mw_iconst (dT d6_fitted 5 rfl) ?_
    exact mw_iret rfl (dT d6_fitted 6 rfl) ⟨_, rfl, T⟩
theorem s6_unbalanced {K : Int → mH → Prop} {h : mH} (T : OkI M2_countUnbalanced [mR 12 0] h (fun v1 h1 => K v1 h1)) : OkI M6_unbalanced [mR 25 0] h K := by
  refine Ok.of rfl (n := 0) rfl ?_
  show At (mPI K) M6_unbalanced 0 [mR 25 0] [] h
  refine mw_aload_n (dT d6_unbalanced 0 rfl) rfl (by decide) ?_
  refine mw_getR fl_X6_36 (dT d6_unbalanced 1 rfl) ?_
  refine mw_callVI mv_2_countUnbalanced ml_X6_123 (by decide) (dT d6_unbalanced 2 rfl) (as := []) rfl rfl T (fun v1 h1 T => ?_)
  exact mw_iret rfl (dT d6_unbalanced 3 rfl) ⟨_, rfl, T⟩
theorem s6_offBalance {K : Int → mH → Prop} {h : mH} (T : OkV M1_settle [mR 18 0] h (fun h1 => K (h1 18 0 3) h1)) : OkI M6_offBalance [mR 25 0] h K := by
  refine Ok.of rfl (n := 0) rfl ?_
  show At (mPI K) M6_offBalance 0 [mR 25 0] [] h
  refine mw_aload_n (dT d6_offBalance 0 rfl) rfl (by decide) ?_
  refine mw_getR fl_X6_45 (dT d6_offBalance 1 rfl) ?_
  refine mw_callVV mv_1_settle ml_X6_256 (by decide) (dT d6_offBalance 2 rfl) (as := []) rfl rfl T (fun h1 T => ?_)
  refine mw_aload_n (dT d6_offBalance 3 rfl) rfl (by decide) ?_
  refine mw_getR fl_X6_45 (dT d6_offBalance 4 rfl) ?_
  refine mw_getI fl_X6_293 (dT d6_offBalance 5 rfl) ?_
  exact mw_iret rfl (dT d6_offBalance 6 rfl) ⟨_, rfl, T⟩
abbrev A6_changes_22 (K : Int → mH → Prop) (x1 x2 x3 : Int) (h : mH) : Prop := At (mPI K) M6_changes 22 [mR 25 0, mI x1, mI x2, mI x3] [] h
theorem s6_changes_22 {K : Int → mH → Prop} {x1 x2 x3 : Int} {h : mH} (T : (mInR x3 ∧ mInR (h 1 0 0)) ∧ ((h 1 0 0) ≤ x3 → (K x2 h)) ∧ (¬ (h 1 0 0) ≤ x3 → (OkI M1_isChanged [mR 18 0, mI x3, mI x1] h (fun v1 h1 => (mInR v1) ∧ (v1 = 0 → (A6_changes_22 K x1 x2 (x3 + 1) h1)) ∧ (¬ v1 = 0 → (A6_changes_22 K x1 (x2 + 1) (x3 + 1) h1)))))) : A6_changes_22 K x1 x2 x3 h := by
  refine mw_iload_n (dT d6_changes 14 rfl) rfl ?_
  refine mw_aload_n (dT d6_changes 15 rfl) rfl (by decide) ?_
  refine mw_getR fl_X6_27 (dT d6_changes 16 rfl) ?_
  refine mw_getI fl_X6_167 (dT d6_changes 17 rfl) ?_
  obtain ⟨z, T1, T2⟩ := T
  refine mw_icmp_ge 54 (dT d6_changes 18 rfl) (by decide) z (fun z => ?_) (fun z => ?_)
  · have T := T1 z
    refine mw_iload_n (dT d6_changes 28 rfl) rfl ?_
    exact mw_iret rfl (dT d6_changes 29 rfl) ⟨_, rfl, T⟩
  · have T := T2 z
    refine mw_aload_n (dT d6_changes 19 rfl) rfl (by decide) ?_
    refine mw_getR fl_X6_45 (dT d6_changes 20 rfl) ?_
    refine mw_iload_n (dT d6_changes 21 rfl) rfl ?_
    refine mw_iload_n (dT d6_changes 22 rfl) rfl ?_
    refine mw_callVI mv_1_isChanged ml_X6_296 (by decide) (dT d6_changes 23 rfl) (as := [mI _, mI _]) rfl rfl T (fun v1 h1 T => ?_)
    obtain ⟨z, T1, T2⟩ := T
    refine mw_if_eq 48 (dT d6_changes 24 rfl) (by decide) z (fun z => ?_) (fun z => ?_)
    · have T := T1 z
      refine mw_iinc (dT d6_changes 26 rfl) rfl (by decide) ?_
      refine mw_goto 22 (dT d6_changes 27 rfl) (by decide) ?_
      exact T
    · have T := T2 z
      refine mw_iinc (dT d6_changes 25 rfl) rfl (by decide) ?_
      refine mw_iinc (dT d6_changes 26 rfl) rfl (by decide) ?_
      refine mw_goto 22 (dT d6_changes 27 rfl) (by decide) ?_
      exact T
theorem s6_changes {K : Int → mH → Prop} {x1 : Int} {h : mH} (T : OkI M6_within [mI x1, mI 0, mI 3] h (fun v1 h1 => (mInR v1) ∧ (¬ v1 = 0 → (OkV M1_settle [mR 18 0] h1 (fun h2 => A6_changes_22 K x1 0 0 h2))) ∧ (v1 = 0 → (K ((-1)) h1)))) : OkI M6_changes [mR 25 0, mI x1] h K := by
  refine Ok.of rfl (n := 2) rfl ?_
  show At (mPI K) M6_changes 0 [mR 25 0, mI x1, mU, mU] [] h
  refine mw_iload_n (dT d6_changes 0 rfl) rfl ?_
  refine mw_iconst (dT d6_changes 1 rfl) ?_
  refine mw_iconst (dT d6_changes 2 rfl) ?_
  refine mw_callSI mt_6_within ml_X6_115 (by decide) (dT d6_changes 3 rfl) (as := [mI _, mI _, mI _]) rfl rfl T (fun v1 h1 T => ?_)
  obtain ⟨z, T1, T2⟩ := T
  refine mw_if_ne 11 (dT d6_changes 4 rfl) (by decide) z (fun z => ?_) (fun z => ?_)
  · have T := T1 z
    refine mw_aload_n (dT d6_changes 7 rfl) rfl (by decide) ?_
    refine mw_getR fl_X6_45 (dT d6_changes 8 rfl) ?_
    refine mw_callVV mv_1_settle ml_X6_256 (by decide) (dT d6_changes 9 rfl) (as := []) rfl rfl T (fun h2 T => ?_)
    refine mw_iconst (dT d6_changes 10 rfl) ?_
    refine mw_istore_n (dT d6_changes 11 rfl) (by decide) ?_
    refine mw_iconst (dT d6_changes 12 rfl) ?_
    refine mw_istore_n (dT d6_changes 13 rfl) (by decide) ?_
    exact T
  · have T := T2 z
    refine mw_iconst (dT d6_changes 5 rfl) ?_
    exact mw_iret rfl (dT d6_changes 6 rfl) ⟨_, rfl, T⟩
theorem s6_share {K : Int → mH → Prop} {x1 : Int} {x2 : Int} {h : mH} (T : OkI M3_hasLevel [mR 7 0, mI x1, mI x2] h (fun v1 h1 => (mInR v1) ∧ (¬ v1 = 0 → (OkV M2_measure [mR 12 0, mI x1] h1 (fun h2 => OkJ M2_sumPaid [mR 12 0] h2 (fun v2 h3 => (mInL v2) ∧ (0 < v2 → (OkI M0_firstOf [mR 1 0, mI x1, mI x2] h3 (fun v3 h4 => OkI M6_slot [mI x1, mI v3] h4 (fun v4 h5 => (0 ≤ v4 ∧ v4 < 32) ∧ ((mInL ((h5 15 0 v4) * 1000) ∧ mInL v2 ∧ v2 ≠ 0) ∧ (K (Int.tdiv ((h5 15 0 v4) * 1000) v2) h5)))))) ∧ (¬ 0 < v2 → (K ((-2)) h3)))))) ∧ (v1 = 0 → (K ((-1)) h1)))) : OkI M6_share [mR 25 0, mI x1, mI x2] h K := by
  refine Ok.of rfl (n := 2) rfl ?_
  show At (mPI K) M6_share 0 [mR 25 0, mI x1, mI x2, mU, mU] [] h
  refine mw_aload_n (dT d6_share 0 rfl) rfl (by decide) ?_
  refine mw_getR fl_X6_20 (dT d6_share 1 rfl) ?_
  refine mw_iload_n (dT d6_share 2 rfl) rfl ?_
  refine mw_iload_n (dT d6_share 3 rfl) rfl ?_
  refine mw_callVI mv_3_hasLevel ml_X6_136 (by decide) (dT d6_share 4 rfl) (as := [mI _, mI _]) rfl rfl T (fun v1 h1 T => ?_)
  obtain ⟨z, T1, T2⟩ := T
  refine mw_if_ne 14 (dT d6_share 5 rfl) (by decide) z (fun z => ?_) (fun z => ?_)
  · have T := T1 z
    refine mw_aload_n (dT d6_share 8 rfl) rfl (by decide) ?_
    refine mw_getR fl_X6_36 (dT d6_share 9 rfl) ?_
    refine mw_iload_n (dT d6_share 10 rfl) rfl ?_
    refine mw_callVV mv_2_measure ml_X6_219 (by decide) (dT d6_share 11 rfl) (as := [mI _]) rfl rfl T (fun h2 T => ?_)
    refine mw_aload_n (dT d6_share 12 rfl) rfl (by decide) ?_
    refine mw_getR fl_X6_36 (dT d6_share 13 rfl) ?_
    refine mw_callVJ mv_2_sumPaid ml_X6_278 (by decide) (dT d6_share 14 rfl) (as := []) rfl rfl T (fun v2 h3 T => ?_)
    refine mw_lstore_n (dT d6_share 15 rfl) (by decide) ?_
    refine mw_lload_n (dT d6_share 16 rfl) rfl ?_
    refine mw_lconst (dT d6_share 17 rfl) ?_
    obtain ⟨z, T1, T2⟩ := T
    refine mw_lif_gt 39 (dT d6_share 18 rfl) (dT d6_share 19 rfl) (by decide) ⟨z, by decide⟩ (fun z => ?_) (fun z => ?_)
    · have T := T1 z
      refine mw_aload_n (dT d6_share 22 rfl) rfl (by decide) ?_
      refine mw_getR fl_X6_36 (dT d6_share 23 rfl) ?_
      refine mw_getR fl_X6_232 (dT d6_share 24 rfl) ?_
      refine mw_iload_n (dT d6_share 25 rfl) rfl ?_
      refine mw_aload_n (dT d6_share 26 rfl) rfl (by decide) ?_
      refine mw_getR fl_X6_27 (dT d6_share 27 rfl) ?_
      refine mw_iload_n (dT d6_share 28 rfl) rfl ?_
      refine mw_iload_n (dT d6_share 29 rfl) rfl ?_
      refine mw_callVI mv_0_firstOf ml_X6_222 (by decide) (dT d6_share 30 rfl) (as := [mI _, mI _]) rfl rfl T (fun v3 h4 T => ?_)
      refine mw_callSI mt_6_slot ml_X6_149 (by decide) (dT d6_share 31 rfl) (as := [mI _, mI _]) rfl rfl T (fun v4 h5 T => ?_)
      obtain ⟨z, T⟩ := T
      refine mw_laload ro_15 (dT d6_share 32 rfl) z ?_
      refine mw_ldc2 kl_X6_299 (dT d6_share 33 rfl) ?_
      refine mw_lmul (dT d6_share 34 rfl) ?_
      refine mw_lload_n (dT d6_share 35 rfl) rfl ?_
      obtain ⟨z, T⟩ := T
      refine mw_ldiv (dT d6_share 36 rfl) z ?_
      refine mw_l2i (dT d6_share 37 rfl) ?_
      exact mw_iret rfl (dT d6_share 38 rfl) ⟨_, rfl, T⟩
    · have T := T2 z
      refine mw_bipush (by decide) (dT d6_share 20 rfl) ?_
      exact mw_iret rfl (dT d6_share 21 rfl) ⟨_, rfl, T⟩
  · have T := T2 z
    refine mw_iconst (dT d6_share 6 rfl) ?_
    exact mw_iret rfl (dT d6_share 7 rfl) ⟨_, rfl, T⟩
theorem s6_atEnd {K : Int → mH → Prop} {x1 : Int} {x2 : Int} {h : mH} (T : OkI M3_hasFactor [mR 7 0, mI x1] h (fun v1 h1 => (mInR v1) ∧ (v1 = 0 → (K ((-1)) h1)) ∧ (¬ v1 = 0 → (OkI M6_within [mI x2, mI 0, mI 1] h1 (fun v2 h2 => (mInR v2) ∧ (¬ v2 = 0 → ((mInR x2) ∧ (¬ x2 = 0 → ((0 ≤ x1 ∧ x1 < 4) ∧ (OkI M2_countAt [mR 12 0, mI x1, mI (h2 11 0 x1)] h2 (fun v3 h3 => K v3 h3)))) ∧ (x2 = 0 → ((0 ≤ x1 ∧ x1 < 4) ∧ (OkI M2_countAt [mR 12 0, mI x1, mI (h2 10 0 x1)] h2 (fun v4 h4 => K v4 h4)))))) ∧ (v2 = 0 → (K ((-1)) h2))))))) : OkI M6_atEnd [mR 25 0, mI x1, mI x2] h K := by
  refine Ok.of rfl (n := 0) rfl ?_
  show At (mPI K) M6_atEnd 0 [mR 25 0, mI x1, mI x2] [] h
  refine mw_aload_n (dT d6_atEnd 0 rfl) rfl (by decide) ?_
  refine mw_getR fl_X6_20 (dT d6_atEnd 1 rfl) ?_
  refine mw_iload_n (dT d6_atEnd 2 rfl) rfl ?_
  refine mw_callVI mv_3_hasFactor ml_X6_105 (by decide) (dT d6_atEnd 3 rfl) (as := [mI _]) rfl rfl T (fun v1 h1 T => ?_)
  obtain ⟨z, T1, T2⟩ := T
  refine mw_if_eq 20 (dT d6_atEnd 4 rfl) (by decide) z (fun z => ?_) (fun z => ?_)
  · have T := T1 z
    refine mw_iconst (dT d6_atEnd 10 rfl) ?_
    exact mw_iret rfl (dT d6_atEnd 11 rfl) ⟨_, rfl, T⟩
  · have T := T2 z
    refine mw_iload_n (dT d6_atEnd 5 rfl) rfl ?_
    refine mw_iconst (dT d6_atEnd 6 rfl) ?_
    refine mw_iconst (dT d6_atEnd 7 rfl) ?_
    refine mw_callSI mt_6_within ml_X6_115 (by decide) (dT d6_atEnd 8 rfl) (as := [mI _, mI _, mI _]) rfl rfl T (fun v2 h2 T => ?_)
    obtain ⟨z, T1, T2⟩ := T
    refine mw_if_ne 22 (dT d6_atEnd 9 rfl) (by decide) z (fun z => ?_) (fun z => ?_)
    · have T := T1 z
      refine mw_aload_n (dT d6_atEnd 12 rfl) rfl (by decide) ?_
      refine mw_getR fl_X6_36 (dT d6_atEnd 13 rfl) ?_
      refine mw_iload_n (dT d6_atEnd 14 rfl) rfl ?_
      refine mw_iload_n (dT d6_atEnd 15 rfl) rfl ?_
      obtain ⟨z, T1, T2⟩ := T
      refine mw_if_ne 43 (dT d6_atEnd 16 rfl) (by decide) z (fun z => ?_) (fun z => ?_)
      · have T := T1 z
        refine mw_aload_n (dT d6_atEnd 23 rfl) rfl (by decide) ?_
        refine mw_getR fl_X6_20 (dT d6_atEnd 24 rfl) ?_
        refine mw_getR fl_X6_143 (dT d6_atEnd 25 rfl) ?_
        refine mw_iload_n (dT d6_atEnd 26 rfl) rfl ?_
        obtain ⟨z, T⟩ := T
        refine mw_iaload ro_11 (dT d6_atEnd 27 rfl) z ?_
        refine mw_callVI mv_2_countAt ml_X6_301 (by decide) (dT d6_atEnd 28 rfl) (as := [mI _, mI _]) rfl rfl T (fun v3 h3 T => ?_)
        exact mw_iret rfl (dT d6_atEnd 29 rfl) ⟨_, rfl, T⟩
      · have T := T2 z
        refine mw_aload_n (dT d6_atEnd 17 rfl) rfl (by decide) ?_
        refine mw_getR fl_X6_20 (dT d6_atEnd 18 rfl) ?_
        refine mw_getR fl_X6_139 (dT d6_atEnd 19 rfl) ?_
        refine mw_iload_n (dT d6_atEnd 20 rfl) rfl ?_
        obtain ⟨z, T⟩ := T
        refine mw_iaload ro_10 (dT d6_atEnd 21 rfl) z ?_
        refine mw_goto 52 (dT d6_atEnd 22 rfl) (by decide) ?_
        refine mw_callVI mv_2_countAt ml_X6_301 (by decide) (dT d6_atEnd 28 rfl) (as := [mI _, mI _]) rfl rfl T (fun v4 h4 T => ?_)
        exact mw_iret rfl (dT d6_atEnd 29 rfl) ⟨_, rfl, T⟩
    · have T := T2 z
      refine mw_iconst (dT d6_atEnd 10 rfl) ?_
      exact mw_iret rfl (dT d6_atEnd 11 rfl) ⟨_, rfl, T⟩
abbrev A6_mostOff_40 (K : Int → mH → Prop) (x1 x3 x4 x5 x6 : Int) (h : mH) : Prop := At (mPI K) M6_mostOff 40 [mR 25 0, mJ x1, mU, mI x3, mI x4, mI x5, mI x6, mU] [] h
theorem s6_mostOff_40 {K : Int → mH → Prop} {x1 x3 x4 x5 x6 : Int} {h : mH} (T : (mInR x6) ∧ (20 ≤ x6 → (K x3 h)) ∧ (¬ 20 ≤ x6 → ((mInR x4 ∧ mInR x5) ∧ (x5 < x4 → (K x3 h)) ∧ (¬ x5 < x4 → (∀ h1 : mH, h1 = mSet h 1 1 5 (mShr (x4 + x5) 1) → (OkJ M2_sumPaid [mR 12 1] h1 (fun v1 h2 => (mInL v1 ∧ mInL x1) ∧ (v1 < x1 → (A6_mostOff_40 K x1 x3 x4 ((mShr (x4 + x5) 1) - 1) (x6 + 1) h2)) ∧ (¬ v1 < x1 → (A6_mostOff_40 K x1 (mShr (x4 + x5) 1) ((mShr (x4 + x5) 1) + 1) x5 (x6 + 1) h2))))))))) : A6_mostOff_40 K x1 x3 x4 x5 x6 h := by
  refine mw_iload (dT d6_mostOff 20 rfl) rfl ?_
  refine mw_bipush (by decide) (dT d6_mostOff 21 rfl) ?_
  obtain ⟨z, T1, T2⟩ := T
  refine mw_icmp_ge 108 (dT d6_mostOff 22 rfl) (by decide) ⟨z, by decide⟩ (fun z => ?_) (fun z => ?_)
  · have T := T1 z
    refine mw_iload_n (dT d6_mostOff 55 rfl) rfl ?_
    exact mw_iret rfl (dT d6_mostOff 56 rfl) ⟨_, rfl, T⟩
  · have T := T2 z
    refine mw_iload (dT d6_mostOff 23 rfl) rfl ?_
    refine mw_iload (dT d6_mostOff 24 rfl) rfl ?_
    obtain ⟨z, T1, T2⟩ := T
    refine mw_icmp_gt 108 (dT d6_mostOff 25 rfl) (by decide) z (fun z => ?_) (fun z => ?_)
    · have T := T1 z
      refine mw_iload_n (dT d6_mostOff 55 rfl) rfl ?_
      exact mw_iret rfl (dT d6_mostOff 56 rfl) ⟨_, rfl, T⟩
    · have T := T2 z
      refine mw_iload (dT d6_mostOff 26 rfl) rfl ?_
      refine mw_iload (dT d6_mostOff 27 rfl) rfl ?_
      refine mw_iadd (dT d6_mostOff 28 rfl) ?_
      refine mw_iconst (dT d6_mostOff 29 rfl) ?_
      refine mw_ishr (dT d6_mostOff 30 rfl) ?_
      refine mw_istore (dT d6_mostOff 31 rfl) (by decide) ?_
      refine mw_aload_n (dT d6_mostOff 32 rfl) rfl (by decide) ?_
      refine mw_getR fl_X6_49 (dT d6_mostOff 33 rfl) ?_
      refine mw_iload (dT d6_mostOff 34 rfl) rfl ?_
      have T := T _ rfl
      refine mw_putI fp_X6_199 (dT d6_mostOff 35 rfl) ?_
      refine mw_aload_n (dT d6_mostOff 36 rfl) rfl (by decide) ?_
      refine mw_getR fl_X6_52 (dT d6_mostOff 37 rfl) ?_
      refine mw_callVJ mv_2_sumPaid ml_X6_278 (by decide) (dT d6_mostOff 38 rfl) (as := []) rfl rfl T (fun v1 h2 T => ?_)
      refine mw_lload_n (dT d6_mostOff 39 rfl) rfl ?_
      obtain ⟨z, T1, T2⟩ := T
      refine mw_lif_lt 96 (dT d6_mostOff 40 rfl) (dT d6_mostOff 41 rfl) (by decide) z (fun z => ?_) (fun z => ?_)
      · have T := T1 z
        refine mw_iload (dT d6_mostOff 49 rfl) rfl ?_
        refine mw_iconst (dT d6_mostOff 50 rfl) ?_
        refine mw_isub (dT d6_mostOff 51 rfl) ?_
        refine mw_istore (dT d6_mostOff 52 rfl) (by decide) ?_
        refine mw_iinc (dT d6_mostOff 53 rfl) rfl (by decide) ?_
        refine mw_goto 40 (dT d6_mostOff 54 rfl) (by decide) ?_
        exact At.forget [7] T
      · have T := T2 z
        refine mw_iload (dT d6_mostOff 42 rfl) rfl ?_
        refine mw_istore_n (dT d6_mostOff 43 rfl) (by decide) ?_
        refine mw_iload (dT d6_mostOff 44 rfl) rfl ?_
        refine mw_iconst (dT d6_mostOff 45 rfl) ?_
        refine mw_iadd (dT d6_mostOff 46 rfl) ?_
        refine mw_istore (dT d6_mostOff 47 rfl) (by decide) ?_
        refine mw_goto 102 (dT d6_mostOff 48 rfl) (by decide) ?_
        refine mw_iinc (dT d6_mostOff 53 rfl) rfl (by decide) ?_
        refine mw_goto 40 (dT d6_mostOff 54 rfl) (by decide) ?_
        exact At.forget [7] T
theorem s6_mostOff {K : Int → mH → Prop} {h : mH} (T : OkV M0_copyFrom [mR 1 1, mR 1 0] h (fun h1 => OkJ M0_sumOf [mR 1 0, mR 3 0] h1 (fun v1 h2 => A6_mostOff_40 K v1 ((-2)) 0 500 0 h2))) : OkI M6_mostOff [mR 25 0] h K := by
  refine Ok.of rfl (n := 7) rfl ?_
  show At (mPI K) M6_mostOff 0 [mR 25 0, mU, mU, mU, mU, mU, mU, mU] [] h
  refine mw_aload_n (dT d6_mostOff 0 rfl) rfl (by decide) ?_
  refine mw_getR fl_X6_49 (dT d6_mostOff 1 rfl) ?_
  refine mw_aload_n (dT d6_mostOff 2 rfl) rfl (by decide) ?_
  refine mw_getR fl_X6_27 (dT d6_mostOff 3 rfl) ?_
  refine mw_callVV mv_0_copyFrom ml_X6_91 (by decide) (dT d6_mostOff 4 rfl) (as := [mR 1 _]) rfl rfl T (fun h1 T => ?_)
  refine mw_aload_n (dT d6_mostOff 5 rfl) rfl (by decide) ?_
  refine mw_getR fl_X6_27 (dT d6_mostOff 6 rfl) ?_
  refine mw_aload_n (dT d6_mostOff 7 rfl) rfl (by decide) ?_
  refine mw_getR fl_X6_27 (dT d6_mostOff 8 rfl) ?_
  refine mw_getR fl_X6_161 (dT d6_mostOff 9 rfl) ?_
  refine mw_callVJ mv_0_sumOf ml_X6_274 (by decide) (dT d6_mostOff 10 rfl) (as := [mR 3 _]) rfl rfl T (fun v1 h2 T => ?_)
  refine mw_lstore_n (dT d6_mostOff 11 rfl) (by decide) ?_
  refine mw_bipush (by decide) (dT d6_mostOff 12 rfl) ?_
  refine mw_istore_n (dT d6_mostOff 13 rfl) (by decide) ?_
  refine mw_iconst (dT d6_mostOff 14 rfl) ?_
  refine mw_istore (dT d6_mostOff 15 rfl) (by decide) ?_
  refine mw_sipush (by decide) (dT d6_mostOff 16 rfl) ?_
  refine mw_istore (dT d6_mostOff 17 rfl) (by decide) ?_
  refine mw_iconst (dT d6_mostOff 18 rfl) ?_
  refine mw_istore (dT d6_mostOff 19 rfl) (by decide) ?_
  exact T
theorem s6_step {K : Int → mH → Prop} {x1 : Int} {x2 : Int} {h : mH} (T : OkI M0_hasRisk [mR 1 0, mI x1] h (fun v1 h1 => (mInR v1) ∧ (v1 = 0 → (K ((-1)) h1)) ∧ (¬ v1 = 0 → (OkI M6_within [mI x2, mI 0, mI (h1 7 0 0)] h1 (fun v2 h2 => (mInR v2) ∧ (¬ v2 = 0 → ((0 ≤ x1 ∧ x1 < 40) ∧ ((0 ≤ x1 ∧ x1 < 40) ∧ (OkJ M2_behindFactors [mR 12 0, mI (h2 2 0 x1), mI (h2 5 0 x1), mI x2] h2 (fun v3 h3 => K v3 h3))))) ∧ (v2 = 0 → (K ((-1)) h2))))))) : OkJ M6_step [mR 25 0, mI x1, mI x2] h K := by
  refine Ok.of rfl (n := 0) rfl ?_
  show At (mPJ K) M6_step 0 [mR 25 0, mI x1, mI x2] [] h
  refine mw_aload_n (dT d6_step 0 rfl) rfl (by decide) ?_
  refine mw_getR fl_X6_27 (dT d6_step 1 rfl) ?_
  refine mw_iload_n (dT d6_step 2 rfl) rfl ?_
  refine mw_callVI mv_0_hasRisk ml_X6_157 (by decide) (dT d6_step 3 rfl) (as := [mI _]) rfl rfl T (fun v1 h1 T => ?_)
  obtain ⟨z, T1, T2⟩ := T
  refine mw_if_eq 26 (dT d6_step 4 rfl) (by decide) z (fun z => ?_) (fun z => ?_)
  · have T := T1 z
    refine mw_ldc2 kl_X6_288 (dT d6_step 12 rfl) ?_
    exact mw_lret rfl (dT d6_step 13 rfl) ⟨_, rfl, T⟩
  · have T := T2 z
    refine mw_iload_n (dT d6_step 5 rfl) rfl ?_
    refine mw_iconst (dT d6_step 6 rfl) ?_
    refine mw_aload_n (dT d6_step 7 rfl) rfl (by decide) ?_
    refine mw_getR fl_X6_20 (dT d6_step 8 rfl) ?_
    refine mw_getI fl_X6_265 (dT d6_step 9 rfl) ?_
    refine mw_callSI mt_6_within ml_X6_115 (by decide) (dT d6_step 10 rfl) (as := [mI _, mI _, mI _]) rfl rfl T (fun v2 h2 T => ?_)
    obtain ⟨z, T1, T2⟩ := T
    refine mw_if_ne 30 (dT d6_step 11 rfl) (by decide) z (fun z => ?_) (fun z => ?_)
    · have T := T1 z
      refine mw_aload_n (dT d6_step 14 rfl) rfl (by decide) ?_
      refine mw_getR fl_X6_36 (dT d6_step 15 rfl) ?_
      refine mw_aload_n (dT d6_step 16 rfl) rfl (by decide) ?_
      refine mw_getR fl_X6_27 (dT d6_step 17 rfl) ?_
      refine mw_getR fl_X6_246 (dT d6_step 18 rfl) ?_
      refine mw_iload_n (dT d6_step 19 rfl) rfl ?_
      obtain ⟨z, T⟩ := T
      refine mw_iaload ro_2 (dT d6_step 20 rfl) z ?_
      refine mw_aload_n (dT d6_step 21 rfl) rfl (by decide) ?_
      refine mw_getR fl_X6_27 (dT d6_step 22 rfl) ?_
      refine mw_getR fl_X6_268 (dT d6_step 23 rfl) ?_
      refine mw_iload_n (dT d6_step 24 rfl) rfl ?_
      obtain ⟨z, T⟩ := T
      refine mw_iaload ro_5 (dT d6_step 25 rfl) z ?_
      refine mw_iload_n (dT d6_step 26 rfl) rfl ?_
      refine mw_callVJ mv_2_behindFactors ml_X6_304 (by decide) (dT d6_step 27 rfl) (as := [mI _, mI _, mI _]) rfl rfl T (fun v3 h3 T => ?_)
      exact mw_lret rfl (dT d6_step 28 rfl) ⟨_, rfl, T⟩
    · have T := T2 z
      refine mw_ldc2 kl_X6_288 (dT d6_step 12 rfl) ?_
      exact mw_lret rfl (dT d6_step 13 rfl) ⟨_, rfl, T⟩
abbrev A6_swing_63 (K : Int → mH → Prop) (x1 x2 x3 x4 x5 x6 x8 : Int) (h : mH) : Prop := At (mPI K) M6_swing 63 [mR 25 0, mI x1, mI x2, mI x3, mI x4, mI x5, mJ x6, mU, mI x8, mU, mU] [] h
theorem s6_swing_63 {K : Int → mH → Prop} {x1 x2 x3 x4 x5 x6 x8 : Int} {h : mH} (T : (0 ≤ x2 ∧ x2 < 4) ∧ ((mInR x8 ∧ mInR (h 9 0 x2)) ∧ ((h 9 0 x2) ≤ x8 → (K x5 h)) ∧ (¬ (h 9 0 x2) ≤ x8 → ((0 ≤ x1 ∧ x1 < 40) ∧ (OkI M6_slotShift [mI x2] h (fun v1 h1 => OkJ M2_premiumFor [mR 12 0, mI (h 2 0 x1), mI (mOr x4 (mShl x8 v1))] h1 (fun v2 h2 => (mInR x8) ∧ (x8 = 0 → (A6_swing_63 K x1 x2 x3 x4 x8 v2 (x8 + 1) h2)) ∧ (¬ x8 = 0 → ((mInR x3) ∧ (¬ x3 = 0 → ((mInL v2 ∧ mInL x6) ∧ (x6 ≤ v2 → (A6_swing_63 K x1 x2 x3 x4 x5 x6 (x8 + 1) h2)) ∧ (¬ x6 ≤ v2 → (A6_swing_63 K x1 x2 x3 x4 x8 v2 (x8 + 1) h2)))) ∧ (x3 = 0 → ((mInL v2 ∧ mInL x6) ∧ (v2 ≤ x6 → (A6_swing_63 K x1 x2 x3 x4 x5 x6 (x8 + 1) h2)) ∧ (¬ v2 ≤ x6 → (A6_swing_63 K x1 x2 x3 x4 x8 v2 (x8 + 1) h2))))))))))))) : A6_swing_63 K x1 x2 x3 x4 x5 x6 x8 h := by
  refine mw_iload (dT d6_swing 36 rfl) rfl ?_
  refine mw_aload_n (dT d6_swing 37 rfl) rfl (by decide) ?_
  refine mw_getR fl_X6_20 (dT d6_swing 38 rfl) ?_
  refine mw_getR fl_X6_177 (dT d6_swing 39 rfl) ?_
  refine mw_iload_n (dT d6_swing 40 rfl) rfl ?_
  obtain ⟨z, T⟩ := T
  refine mw_iaload ro_9 (dT d6_swing 41 rfl) z ?_
  obtain ⟨z, T1, T2⟩ := T
  refine mw_icmp_ge 147 (dT d6_swing 42 rfl) (by decide) z (fun z => ?_) (fun z => ?_)
  · have T := T1 z
    refine mw_iload (dT d6_swing 77 rfl) rfl ?_
    exact mw_iret rfl (dT d6_swing 78 rfl) ⟨_, rfl, T⟩
  · have T := T2 z
    refine mw_aload_n (dT d6_swing 43 rfl) rfl (by decide) ?_
    refine mw_getR fl_X6_36 (dT d6_swing 44 rfl) ?_
    refine mw_aload_n (dT d6_swing 45 rfl) rfl (by decide) ?_
    refine mw_getR fl_X6_27 (dT d6_swing 46 rfl) ?_
    refine mw_getR fl_X6_246 (dT d6_swing 47 rfl) ?_
    refine mw_iload_n (dT d6_swing 48 rfl) rfl ?_
    obtain ⟨z, T⟩ := T
    refine mw_iaload ro_2 (dT d6_swing 49 rfl) z ?_
    refine mw_iload (dT d6_swing 50 rfl) rfl ?_
    refine mw_iload (dT d6_swing 51 rfl) rfl ?_
    refine mw_iload_n (dT d6_swing 52 rfl) rfl ?_
    refine mw_callSI mt_6_slotShift ml_X6_308 (by decide) (dT d6_swing 53 rfl) (as := [mI _]) rfl rfl T (fun v1 h1 T => ?_)
    refine mw_ishl (dT d6_swing 54 rfl) ?_
    refine mw_ior (dT d6_swing 55 rfl) ?_
    refine mw_callVJ mv_2_premiumFor ml_X6_311 (by decide) (dT d6_swing 56 rfl) (as := [mI _, mI _]) rfl rfl T (fun v2 h2 T => ?_)
    refine mw_lstore (dT d6_swing 57 rfl) (by decide) ?_
    refine mw_iload (dT d6_swing 58 rfl) rfl ?_
    obtain ⟨z, T1, T2⟩ := T
    refine mw_if_eq 133 (dT d6_swing 59 rfl) (by decide) z (fun z => ?_) (fun z => ?_)
    · have T := T1 z
      refine mw_lload (dT d6_swing 71 rfl) rfl ?_
      refine mw_lstore (dT d6_swing 72 rfl) (by decide) ?_
      refine mw_iload (dT d6_swing 73 rfl) rfl ?_
      refine mw_istore (dT d6_swing 74 rfl) (by decide) ?_
      refine mw_iinc (dT d6_swing 75 rfl) rfl (by decide) ?_
      refine mw_goto 63 (dT d6_swing 76 rfl) (by decide) ?_
      exact At.forget [9] T
    · have T := T2 z
      refine mw_iload_n (dT d6_swing 60 rfl) rfl ?_
      obtain ⟨z, T1, T2⟩ := T
      refine mw_if_ne 125 (dT d6_swing 61 rfl) (by decide) z (fun z => ?_) (fun z => ?_)
      · have T := T1 z
        refine mw_lload (dT d6_swing 67 rfl) rfl ?_
        refine mw_lload (dT d6_swing 68 rfl) rfl ?_
        obtain ⟨z, T1, T2⟩ := T
        refine mw_lif_ge 141 (dT d6_swing 69 rfl) (dT d6_swing 70 rfl) (by decide) z (fun z => ?_) (fun z => ?_)
        · have T := T1 z
          refine mw_iinc (dT d6_swing 75 rfl) rfl (by decide) ?_
          refine mw_goto 63 (dT d6_swing 76 rfl) (by decide) ?_
          exact At.forget [9] T
        · have T := T2 z
          refine mw_lload (dT d6_swing 71 rfl) rfl ?_
          refine mw_lstore (dT d6_swing 72 rfl) (by decide) ?_
          refine mw_iload (dT d6_swing 73 rfl) rfl ?_
          refine mw_istore (dT d6_swing 74 rfl) (by decide) ?_
          refine mw_iinc (dT d6_swing 75 rfl) rfl (by decide) ?_
          refine mw_goto 63 (dT d6_swing 76 rfl) (by decide) ?_
          exact At.forget [9] T
      · have T := T2 z
        refine mw_lload (dT d6_swing 62 rfl) rfl ?_
        refine mw_lload (dT d6_swing 63 rfl) rfl ?_
        obtain ⟨z, T1, T2⟩ := T
        refine mw_lif_le 141 (dT d6_swing 64 rfl) (dT d6_swing 65 rfl) (by decide) z (fun z => ?_) (fun z => ?_)
        · have T := T1 z
          refine mw_iinc (dT d6_swing 75 rfl) rfl (by decide) ?_
          refine mw_goto 63 (dT d6_swing 76 rfl) (by decide) ?_
          exact At.forget [9] T
        · have T := T2 z
          refine mw_goto 133 (dT d6_swing 66 rfl) (by decide) ?_
          refine mw_lload (dT d6_swing 71 rfl) rfl ?_
          refine mw_lstore (dT d6_swing 72 rfl) (by decide) ?_
          refine mw_iload (dT d6_swing 73 rfl) rfl ?_
          refine mw_istore (dT d6_swing 74 rfl) (by decide) ?_
          refine mw_iinc (dT d6_swing 75 rfl) rfl (by decide) ?_
          refine mw_goto 63 (dT d6_swing 76 rfl) (by decide) ?_
          exact At.forget [9] T
theorem s6_swing {K : Int → mH → Prop} {x1 : Int} {x2 : Int} {x3 : Int} {h : mH} (T : OkI M0_hasRisk [mR 1 0, mI x1] h (fun v1 h1 => (mInR v1) ∧ (v1 = 0 → (K ((-1)) h1)) ∧ (¬ v1 = 0 → (OkI M3_hasFactor [mR 7 0, mI x2] h1 (fun v2 h2 => (mInR v2) ∧ (v2 = 0 → (K ((-1)) h2)) ∧ (¬ v2 = 0 → (OkI M6_within [mI x3, mI 0, mI 1] h2 (fun v3 h3 => (mInR v3) ∧ (¬ v3 = 0 → ((0 ≤ x1 ∧ x1 < 40) ∧ (OkI M6_slotShift [mI x2] h3 (fun v4 h4 => A6_swing_63 K x1 x2 x3 (mAnd (h3 5 0 x1) (mXor (mShl 7 v4) ((-1)))) 0 0 0 h4)))) ∧ (v3 = 0 → (K ((-1)) h3)))))))))) : OkI M6_swing [mR 25 0, mI x1, mI x2, mI x3] h K := by
  refine Ok.of rfl (n := 7) rfl ?_
  show At (mPI K) M6_swing 0 [mR 25 0, mI x1, mI x2, mI x3, mU, mU, mU, mU, mU, mU, mU] [] h
  refine mw_aload_n (dT d6_swing 0 rfl) rfl (by decide) ?_
  refine mw_getR fl_X6_27 (dT d6_swing 1 rfl) ?_
  refine mw_iload_n (dT d6_swing 2 rfl) rfl ?_
  refine mw_callVI mv_0_hasRisk ml_X6_157 (by decide) (dT d6_swing 3 rfl) (as := [mI _]) rfl rfl T (fun v1 h1 T => ?_)
  obtain ⟨z, T1, T2⟩ := T
  refine mw_if_eq 31 (dT d6_swing 4 rfl) (by decide) z (fun z => ?_) (fun z => ?_)
  · have T := T1 z
    refine mw_iconst (dT d6_swing 15 rfl) ?_
    exact mw_iret rfl (dT d6_swing 16 rfl) ⟨_, rfl, T⟩
  · have T := T2 z
    refine mw_aload_n (dT d6_swing 5 rfl) rfl (by decide) ?_
    refine mw_getR fl_X6_20 (dT d6_swing 6 rfl) ?_
    refine mw_iload_n (dT d6_swing 7 rfl) rfl ?_
    refine mw_callVI mv_3_hasFactor ml_X6_105 (by decide) (dT d6_swing 8 rfl) (as := [mI _]) rfl rfl T (fun v2 h2 T => ?_)
    obtain ⟨z, T1, T2⟩ := T
    refine mw_if_eq 31 (dT d6_swing 9 rfl) (by decide) z (fun z => ?_) (fun z => ?_)
    · have T := T1 z
      refine mw_iconst (dT d6_swing 15 rfl) ?_
      exact mw_iret rfl (dT d6_swing 16 rfl) ⟨_, rfl, T⟩
    · have T := T2 z
      refine mw_iload_n (dT d6_swing 10 rfl) rfl ?_
      refine mw_iconst (dT d6_swing 11 rfl) ?_
      refine mw_iconst (dT d6_swing 12 rfl) ?_
      refine mw_callSI mt_6_within ml_X6_115 (by decide) (dT d6_swing 13 rfl) (as := [mI _, mI _, mI _]) rfl rfl T (fun v3 h3 T => ?_)
      obtain ⟨z, T1, T2⟩ := T
      refine mw_if_ne 33 (dT d6_swing 14 rfl) (by decide) z (fun z => ?_) (fun z => ?_)
      · have T := T1 z
        refine mw_aload_n (dT d6_swing 17 rfl) rfl (by decide) ?_
        refine mw_getR fl_X6_27 (dT d6_swing 18 rfl) ?_
        refine mw_getR fl_X6_268 (dT d6_swing 19 rfl) ?_
        refine mw_iload_n (dT d6_swing 20 rfl) rfl ?_
        obtain ⟨z, T⟩ := T
        refine mw_iaload ro_5 (dT d6_swing 21 rfl) z ?_
        refine mw_bipush (by decide) (dT d6_swing 22 rfl) ?_
        refine mw_iload_n (dT d6_swing 23 rfl) rfl ?_
        refine mw_callSI mt_6_slotShift ml_X6_308 (by decide) (dT d6_swing 24 rfl) (as := [mI _]) rfl rfl T (fun v4 h4 T => ?_)
        refine mw_ishl (dT d6_swing 25 rfl) ?_
        refine mw_iconst (dT d6_swing 26 rfl) ?_
        refine mw_ixor (dT d6_swing 27 rfl) ?_
        refine mw_iand (dT d6_swing 28 rfl) ?_
        refine mw_istore (dT d6_swing 29 rfl) (by decide) ?_
        refine mw_iconst (dT d6_swing 30 rfl) ?_
        refine mw_istore (dT d6_swing 31 rfl) (by decide) ?_
        refine mw_lconst (dT d6_swing 32 rfl) ?_
        refine mw_lstore (dT d6_swing 33 rfl) (by decide) ?_
        refine mw_iconst (dT d6_swing 34 rfl) ?_
        refine mw_istore (dT d6_swing 35 rfl) (by decide) ?_
        exact T
      · have T := T2 z
        refine mw_iconst (dT d6_swing 15 rfl) ?_
        exact mw_iret rfl (dT d6_swing 16 rfl) ⟨_, rfl, T⟩
theorem s6_ratio {K : Int → mH → Prop} {x1 : Int} {x2 : Int} {h : mH} (T : OkI M3_hasLevel [mR 7 0, mI x1, mI x2] h (fun v1 h1 => (mInR v1) ∧ (¬ v1 = 0 → (OkV M2_measure [mR 12 0, mI x1] h1 (fun h2 => OkI M0_firstOf [mR 1 0, mI x1, mI x2] h2 (fun v2 h3 => OkI M6_slot [mI x1, mI v2] h3 (fun v3 h4 => (0 ≤ v3 ∧ v3 < 32) ∧ ((mInL (h4 15 0 v3)) ∧ (0 < (h4 15 0 v3) → ((0 ≤ v3 ∧ v3 < 32) ∧ ((mInL ((h4 14 0 v3) * 1000) ∧ mInL (h4 15 0 v3) ∧ (h4 15 0 v3) ≠ 0) ∧ (K (Int.tdiv ((h4 14 0 v3) * 1000) (h4 15 0 v3)) h4)))) ∧ (¬ 0 < (h4 15 0 v3) → (K ((-2)) h4)))))))) ∧ (v1 = 0 → (K ((-1)) h1)))) : OkJ M6_ratio [mR 25 0, mI x1, mI x2] h K := by
  refine Ok.of rfl (n := 3) rfl ?_
  show At (mPJ K) M6_ratio 0 [mR 25 0, mI x1, mI x2, mU, mU, mU] [] h
  refine mw_aload_n (dT d6_ratio 0 rfl) rfl (by decide) ?_
  refine mw_getR fl_X6_20 (dT d6_ratio 1 rfl) ?_
  refine mw_iload_n (dT d6_ratio 2 rfl) rfl ?_
  refine mw_iload_n (dT d6_ratio 3 rfl) rfl ?_
  refine mw_callVI mv_3_hasLevel ml_X6_136 (by decide) (dT d6_ratio 4 rfl) (as := [mI _, mI _]) rfl rfl T (fun v1 h1 T => ?_)
  obtain ⟨z, T1, T2⟩ := T
  refine mw_if_ne 16 (dT d6_ratio 5 rfl) (by decide) z (fun z => ?_) (fun z => ?_)
  · have T := T1 z
    refine mw_aload_n (dT d6_ratio 8 rfl) rfl (by decide) ?_
    refine mw_getR fl_X6_36 (dT d6_ratio 9 rfl) ?_
    refine mw_iload_n (dT d6_ratio 10 rfl) rfl ?_
    refine mw_callVV mv_2_measure ml_X6_219 (by decide) (dT d6_ratio 11 rfl) (as := [mI _]) rfl rfl T (fun h2 T => ?_)
    refine mw_iload_n (dT d6_ratio 12 rfl) rfl ?_
    refine mw_aload_n (dT d6_ratio 13 rfl) rfl (by decide) ?_
    refine mw_getR fl_X6_27 (dT d6_ratio 14 rfl) ?_
    refine mw_iload_n (dT d6_ratio 15 rfl) rfl ?_
    refine mw_iload_n (dT d6_ratio 16 rfl) rfl ?_
    refine mw_callVI mv_0_firstOf ml_X6_222 (by decide) (dT d6_ratio 17 rfl) (as := [mI _, mI _]) rfl rfl T (fun v2 h3 T => ?_)
    refine mw_callSI mt_6_slot ml_X6_149 (by decide) (dT d6_ratio 18 rfl) (as := [mI _, mI _]) rfl rfl T (fun v3 h4 T => ?_)
    refine mw_istore_n (dT d6_ratio 19 rfl) (by decide) ?_
    refine mw_aload_n (dT d6_ratio 20 rfl) rfl (by decide) ?_
    refine mw_getR fl_X6_36 (dT d6_ratio 21 rfl) ?_
    refine mw_getR fl_X6_232 (dT d6_ratio 22 rfl) ?_
    refine mw_iload_n (dT d6_ratio 23 rfl) rfl ?_
    obtain ⟨z, T⟩ := T
    refine mw_laload ro_15 (dT d6_ratio 24 rfl) z ?_
    refine mw_lstore (dT d6_ratio 25 rfl) (by decide) ?_
    refine mw_lload (dT d6_ratio 26 rfl) rfl ?_
    refine mw_lconst (dT d6_ratio 27 rfl) ?_
    obtain ⟨z, T1, T2⟩ := T
    refine mw_lif_gt 60 (dT d6_ratio 28 rfl) (dT d6_ratio 29 rfl) (by decide) ⟨z, by decide⟩ (fun z => ?_) (fun z => ?_)
    · have T := T1 z
      refine mw_aload_n (dT d6_ratio 32 rfl) rfl (by decide) ?_
      refine mw_getR fl_X6_36 (dT d6_ratio 33 rfl) ?_
      refine mw_getR fl_X6_228 (dT d6_ratio 34 rfl) ?_
      refine mw_iload_n (dT d6_ratio 35 rfl) rfl ?_
      obtain ⟨z, T⟩ := T
      refine mw_laload ro_14 (dT d6_ratio 36 rfl) z ?_
      refine mw_ldc2 kl_X6_299 (dT d6_ratio 37 rfl) ?_
      refine mw_lmul (dT d6_ratio 38 rfl) ?_
      refine mw_lload (dT d6_ratio 39 rfl) rfl ?_
      obtain ⟨z, T⟩ := T
      refine mw_ldiv (dT d6_ratio 40 rfl) z ?_
      exact mw_lret rfl (dT d6_ratio 41 rfl) ⟨_, rfl, T⟩
    · have T := T2 z
      refine mw_ldc2 kl_X6_315 (dT d6_ratio 30 rfl) ?_
      exact mw_lret rfl (dT d6_ratio 31 rfl) ⟨_, rfl, T⟩
  · have T := T2 z
    refine mw_ldc2 kl_X6_288 (dT d6_ratio 6 rfl) ?_
    exact mw_lret rfl (dT d6_ratio 7 rfl) ⟨_, rfl, T⟩
theorem s6_worst {K : Int → mH → Prop} {h : mH} (T : OkI M2_worstSlot [mR 12 0] h (fun v1 h1 => K v1 h1)) : OkI M6_worst [mR 25 0] h K := by
  refine Ok.of rfl (n := 0) rfl ?_
  show At (mPI K) M6_worst 0 [mR 25 0] [] h
  refine mw_aload_n (dT d6_worst 0 rfl) rfl (by decide) ?_
  refine mw_getR fl_X6_36 (dT d6_worst 1 rfl) ?_
  refine mw_callVI mv_2_worstSlot ml_X6_317 (by decide) (dT d6_worst 2 rfl) (as := []) rfl rfl T (fun v1 h1 T => ?_)
  exact mw_iret rfl (dT d6_worst 3 rfl) ⟨_, rfl, T⟩
abbrev A6_hardest_26 (K : Int → mH → Prop) (x1 x2 x3 x5 : Int) (h : mH) : Prop := At (mPI K) M6_hardest 26 [mR 25 0, mI x1, mI x2, mJ x3, mU, mI x5, mU, mU] [] h
abbrev A6_hardest_64 (K : Int → mH → Prop) (x1 x2 x3 x5 s0 : Int) (h : mH) : Prop := At (mPI K) M6_hardest 64 [mR 25 0, mI x1, mI x2, mJ x3, mU, mI x5, mU, mU] [mJ s0] h
theorem s6_hardest_26 {K : Int → mH → Prop} {x1 x2 x3 x5 : Int} {h : mH} (T : (mInR x5 ∧ mInR (h 1 0 0)) ∧ ((h 1 0 0) ≤ x5 → (K x2 h)) ∧ (¬ (h 1 0 0) ≤ x5 → ((mInR x1) ∧ (¬ x1 = 0 → (OkJ M1_changeOf [mR 18 0, mI x5] h (fun v1 h1 => A6_hardest_64 K x1 x2 x3 x5 (-v1) h1))) ∧ (x1 = 0 → (OkJ M1_changeOf [mR 18 0, mI x5] h (fun v2 h2 => A6_hardest_64 K x1 x2 x3 x5 v2 h2)))))) : A6_hardest_26 K x1 x2 x3 x5 h := by
  refine mw_iload (dT d6_hardest 16 rfl) rfl ?_
  refine mw_aload_n (dT d6_hardest 17 rfl) rfl (by decide) ?_
  refine mw_getR fl_X6_27 (dT d6_hardest 18 rfl) ?_
  refine mw_getI fl_X6_167 (dT d6_hardest 19 rfl) ?_
  obtain ⟨z, T1, T2⟩ := T
  refine mw_icmp_ge 90 (dT d6_hardest 20 rfl) (by decide) z (fun z => ?_) (fun z => ?_)
  · have T := T1 z
    refine mw_iload_n (dT d6_hardest 46 rfl) rfl ?_
    exact mw_iret rfl (dT d6_hardest 47 rfl) ⟨_, rfl, T⟩
  · have T := T2 z
    refine mw_iload_n (dT d6_hardest 21 rfl) rfl ?_
    obtain ⟨z, T1, T2⟩ := T
    refine mw_if_ne 54 (dT d6_hardest 22 rfl) (by decide) z (fun z => ?_) (fun z => ?_)
    · have T := T1 z
      refine mw_aload_n (dT d6_hardest 28 rfl) rfl (by decide) ?_
      refine mw_getR fl_X6_45 (dT d6_hardest 29 rfl) ?_
      refine mw_iload (dT d6_hardest 30 rfl) rfl ?_
      refine mw_callVJ mv_1_changeOf ml_X6_262 (by decide) (dT d6_hardest 31 rfl) (as := [mI _]) rfl rfl T (fun v1 h1 T => ?_)
      refine mw_lneg (dT d6_hardest 32 rfl) ?_
      exact T
    · have T := T2 z
      refine mw_aload_n (dT d6_hardest 23 rfl) rfl (by decide) ?_
      refine mw_getR fl_X6_45 (dT d6_hardest 24 rfl) ?_
      refine mw_iload (dT d6_hardest 25 rfl) rfl ?_
      refine mw_callVJ mv_1_changeOf ml_X6_262 (by decide) (dT d6_hardest 26 rfl) (as := [mI _]) rfl rfl T (fun v2 h2 T => ?_)
      refine mw_goto 64 (dT d6_hardest 27 rfl) (by decide) ?_
      exact T
theorem s6_hardest_64 {K : Int → mH → Prop} {x1 x2 x3 x5 s0 : Int} {h : mH} (T : (mInR x5) ∧ (x5 = 0 → (A6_hardest_26 K x1 x5 s0 (x5 + 1) h)) ∧ (¬ x5 = 0 → ((mInL s0 ∧ mInL x3) ∧ (s0 ≤ x3 → (A6_hardest_26 K x1 x2 x3 (x5 + 1) h)) ∧ (¬ s0 ≤ x3 → (A6_hardest_26 K x1 x5 s0 (x5 + 1) h))))) : A6_hardest_64 K x1 x2 x3 x5 s0 h := by
  refine mw_lstore (dT d6_hardest 33 rfl) (by decide) ?_
  refine mw_iload (dT d6_hardest 34 rfl) rfl ?_
  obtain ⟨z, T1, T2⟩ := T
  refine mw_if_eq 78 (dT d6_hardest 35 rfl) (by decide) z (fun z => ?_) (fun z => ?_)
  · have T := T1 z
    refine mw_lload (dT d6_hardest 40 rfl) rfl ?_
    refine mw_lstore_n (dT d6_hardest 41 rfl) (by decide) ?_
    refine mw_iload (dT d6_hardest 42 rfl) rfl ?_
    refine mw_istore_n (dT d6_hardest 43 rfl) (by decide) ?_
    refine mw_iinc (dT d6_hardest 44 rfl) rfl (by decide) ?_
    refine mw_goto 26 (dT d6_hardest 45 rfl) (by decide) ?_
    exact At.forget [6] T
  · have T := T2 z
    refine mw_lload (dT d6_hardest 36 rfl) rfl ?_
    refine mw_lload_n (dT d6_hardest 37 rfl) rfl ?_
    obtain ⟨z, T1, T2⟩ := T
    refine mw_lif_le 84 (dT d6_hardest 38 rfl) (dT d6_hardest 39 rfl) (by decide) z (fun z => ?_) (fun z => ?_)
    · have T := T1 z
      refine mw_iinc (dT d6_hardest 44 rfl) rfl (by decide) ?_
      refine mw_goto 26 (dT d6_hardest 45 rfl) (by decide) ?_
      exact At.forget [6] T
    · have T := T2 z
      refine mw_lload (dT d6_hardest 40 rfl) rfl ?_
      refine mw_lstore_n (dT d6_hardest 41 rfl) (by decide) ?_
      refine mw_iload (dT d6_hardest 42 rfl) rfl ?_
      refine mw_istore_n (dT d6_hardest 43 rfl) (by decide) ?_
      refine mw_iinc (dT d6_hardest 44 rfl) rfl (by decide) ?_
      refine mw_goto 26 (dT d6_hardest 45 rfl) (by decide) ?_
      exact At.forget [6] T
theorem s6_hardest {K : Int → mH → Prop} {x1 : Int} {h : mH} (T : OkI M6_within [mI x1, mI 0, mI 1] h (fun v1 h1 => (mInR v1) ∧ (¬ v1 = 0 → (OkV M1_settle [mR 18 0] h1 (fun h2 => A6_hardest_26 K x1 ((-2)) 0 0 h2))) ∧ (v1 = 0 → (K ((-1)) h1)))) : OkI M6_hardest [mR 25 0, mI x1] h K := by
  refine Ok.of rfl (n := 6) rfl ?_
  show At (mPI K) M6_hardest 0 [mR 25 0, mI x1, mU, mU, mU, mU, mU, mU] [] h
  refine mw_iload_n (dT d6_hardest 0 rfl) rfl ?_
  refine mw_iconst (dT d6_hardest 1 rfl) ?_
  refine mw_iconst (dT d6_hardest 2 rfl) ?_
  refine mw_callSI mt_6_within ml_X6_115 (by decide) (dT d6_hardest 3 rfl) (as := [mI _, mI _, mI _]) rfl rfl T (fun v1 h1 T => ?_)
  obtain ⟨z, T1, T2⟩ := T
  refine mw_if_ne 11 (dT d6_hardest 4 rfl) (by decide) z (fun z => ?_) (fun z => ?_)
  · have T := T1 z
    refine mw_aload_n (dT d6_hardest 7 rfl) rfl (by decide) ?_
    refine mw_getR fl_X6_45 (dT d6_hardest 8 rfl) ?_
    refine mw_callVV mv_1_settle ml_X6_256 (by decide) (dT d6_hardest 9 rfl) (as := []) rfl rfl T (fun h2 T => ?_)
    refine mw_bipush (by decide) (dT d6_hardest 10 rfl) ?_
    refine mw_istore_n (dT d6_hardest 11 rfl) (by decide) ?_
    refine mw_lconst (dT d6_hardest 12 rfl) ?_
    refine mw_lstore_n (dT d6_hardest 13 rfl) (by decide) ?_
    refine mw_iconst (dT d6_hardest 14 rfl) ?_
    refine mw_istore (dT d6_hardest 15 rfl) (by decide) ?_
    exact T
  · have T := T2 z
    refine mw_iconst (dT d6_hardest 5 rfl) ?_
    exact mw_iret rfl (dT d6_hardest 6 rfl) ⟨_, rfl, T⟩
abbrev A6_ranked_15 (K : Int → mH → Prop) (x1 x2 : Int) (h : mH) : Prop := At (mPI K) M6_ranked 15 [mR 25 0, mI x1, mI x2] [] h
theorem s6_ranked_15 {K : Int → mH → Prop} {x1 x2 : Int} {h : mH} (T : (mInR x2 ∧ mInR (h 1 0 0)) ∧ ((h 1 0 0) ≤ x2 → (K ((-2)) h)) ∧ (¬ (h 1 0 0) ≤ x2 → (OkI M1_rankOf [mR 18 0, mI x2] h (fun v1 h1 => (mInR v1 ∧ mInR x1) ∧ (¬ v1 = x1 → (A6_ranked_15 K x1 (x2 + 1) h1)) ∧ (v1 = x1 → (K x2 h1)))))) : A6_ranked_15 K x1 x2 h := by
  refine mw_iload_n (dT d6_ranked 9 rfl) rfl ?_
  refine mw_aload_n (dT d6_ranked 10 rfl) rfl (by decide) ?_
  refine mw_getR fl_X6_27 (dT d6_ranked 11 rfl) ?_
  refine mw_getI fl_X6_167 (dT d6_ranked 12 rfl) ?_
  obtain ⟨z, T1, T2⟩ := T
  refine mw_icmp_ge 46 (dT d6_ranked 13 rfl) (by decide) z (fun z => ?_) (fun z => ?_)
  · have T := T1 z
    refine mw_bipush (by decide) (dT d6_ranked 24 rfl) ?_
    exact mw_iret rfl (dT d6_ranked 25 rfl) ⟨_, rfl, T⟩
  · have T := T2 z
    refine mw_aload_n (dT d6_ranked 14 rfl) rfl (by decide) ?_
    refine mw_getR fl_X6_45 (dT d6_ranked 15 rfl) ?_
    refine mw_iload_n (dT d6_ranked 16 rfl) rfl ?_
    refine mw_callVI mv_1_rankOf ml_X6_320 (by decide) (dT d6_ranked 17 rfl) (as := [mI _]) rfl rfl T (fun v1 h1 T => ?_)
    refine mw_iload_n (dT d6_ranked 18 rfl) rfl ?_
    obtain ⟨z, T1, T2⟩ := T
    refine mw_icmp_ne 40 (dT d6_ranked 19 rfl) (by decide) z (fun z => ?_) (fun z => ?_)
    · have T := T1 z
      refine mw_iinc (dT d6_ranked 22 rfl) rfl (by decide) ?_
      refine mw_goto 15 (dT d6_ranked 23 rfl) (by decide) ?_
      exact T
    · have T := T2 z
      refine mw_iload_n (dT d6_ranked 20 rfl) rfl ?_
      exact mw_iret rfl (dT d6_ranked 21 rfl) ⟨_, rfl, T⟩
theorem s6_ranked {K : Int → mH → Prop} {x1 : Int} {h : mH} (T : (mInR x1) ∧ (0 ≤ x1 → (OkV M1_settle [mR 18 0] h (fun h1 => A6_ranked_15 K x1 0 h1))) ∧ (¬ 0 ≤ x1 → (K ((-1)) h))) : OkI M6_ranked [mR 25 0, mI x1] h K := by
  refine Ok.of rfl (n := 1) rfl ?_
  show At (mPI K) M6_ranked 0 [mR 25 0, mI x1, mU] [] h
  refine mw_iload_n (dT d6_ranked 0 rfl) rfl ?_
  obtain ⟨z, T1, T2⟩ := T
  refine mw_if_ge 6 (dT d6_ranked 1 rfl) (by decide) z (fun z => ?_) (fun z => ?_)
  · have T := T1 z
    refine mw_aload_n (dT d6_ranked 4 rfl) rfl (by decide) ?_
    refine mw_getR fl_X6_45 (dT d6_ranked 5 rfl) ?_
    refine mw_callVV mv_1_settle ml_X6_256 (by decide) (dT d6_ranked 6 rfl) (as := []) rfl rfl T (fun h1 T => ?_)
    refine mw_iconst (dT d6_ranked 7 rfl) ?_
    refine mw_istore_n (dT d6_ranked 8 rfl) (by decide) ?_
    exact T
  · have T := T2 z
    refine mw_iconst (dT d6_ranked 2 rfl) ?_
    exact mw_iret rfl (dT d6_ranked 3 rfl) ⟨_, rfl, T⟩
theorem s6_leastCap {K : Int → mH → Prop} {h : mH} (T : OkI M1_searchCap [mR 18 0] h (fun v1 h1 => K v1 h1)) : OkI M6_leastCap [mR 25 0] h K := by
  refine Ok.of rfl (n := 0) rfl ?_
  show At (mPI K) M6_leastCap 0 [mR 25 0] [] h
  refine mw_aload_n (dT d6_leastCap 0 rfl) rfl (by decide) ?_
  refine mw_getR fl_X6_45 (dT d6_leastCap 1 rfl) ?_
  refine mw_callVI mv_1_searchCap ml_X6_323 (by decide) (dT d6_leastCap 2 rfl) (as := []) rfl rfl T (fun v1 h1 T => ?_)
  exact mw_iret rfl (dT d6_leastCap 3 rfl) ⟨_, rfl, T⟩
theorem s6_withoutFactor {K : Int → mH → Prop} {x1 : Int} {x2 : Int} {h : mH} (T : OkI M3_hasFactor [mR 7 0, mI x1] h (fun v1 h1 => (mInR v1) ∧ (v1 = 0 → (K ((-1)) h1)) ∧ (¬ v1 = 0 → (OkI M6_within [mI x2, mI 0, mI 50] h1 (fun v2 h2 => (mInR v2) ∧ (¬ v2 = 0 → (OkV M0_copyFrom [mR 1 1, mR 1 0] h2 (fun h3 => OkV M0_setAll [mR 1 1, mI x1, mI 10000] h3 (fun h4 => OkI M2_playRounds [mR 12 1, mI x2, mI x1] h4 (fun v3 h5 => OkJ M2_sumMisfit [mR 12 1] h5 (fun v4 h6 => K v4 h6)))))) ∧ (v2 = 0 → (K ((-1)) h2))))))) : OkJ M6_withoutFactor [mR 25 0, mI x1, mI x2] h K := by
  refine Ok.of rfl (n := 0) rfl ?_
  show At (mPJ K) M6_withoutFactor 0 [mR 25 0, mI x1, mI x2] [] h
  refine mw_aload_n (dT d6_withoutFactor 0 rfl) rfl (by decide) ?_
  refine mw_getR fl_X6_20 (dT d6_withoutFactor 1 rfl) ?_
  refine mw_iload_n (dT d6_withoutFactor 2 rfl) rfl ?_
  refine mw_callVI mv_3_hasFactor ml_X6_105 (by decide) (dT d6_withoutFactor 3 rfl) (as := [mI _]) rfl rfl T (fun v1 h1 T => ?_)
  obtain ⟨z, T1, T2⟩ := T
  refine mw_if_eq 21 (dT d6_withoutFactor 4 rfl) (by decide) z (fun z => ?_) (fun z => ?_)
  · have T := T1 z
    refine mw_ldc2 kl_X6_288 (dT d6_withoutFactor 10 rfl) ?_
    exact mw_lret rfl (dT d6_withoutFactor 11 rfl) ⟨_, rfl, T⟩
  · have T := T2 z
    refine mw_iload_n (dT d6_withoutFactor 5 rfl) rfl ?_
    refine mw_iconst (dT d6_withoutFactor 6 rfl) ?_
    refine mw_bipush (by decide) (dT d6_withoutFactor 7 rfl) ?_
    refine mw_callSI mt_6_within ml_X6_115 (by decide) (dT d6_withoutFactor 8 rfl) (as := [mI _, mI _, mI _]) rfl rfl T (fun v2 h2 T => ?_)
    obtain ⟨z, T1, T2⟩ := T
    refine mw_if_ne 25 (dT d6_withoutFactor 9 rfl) (by decide) z (fun z => ?_) (fun z => ?_)
    · have T := T1 z
      refine mw_aload_n (dT d6_withoutFactor 12 rfl) rfl (by decide) ?_
      refine mw_getR fl_X6_49 (dT d6_withoutFactor 13 rfl) ?_
      refine mw_aload_n (dT d6_withoutFactor 14 rfl) rfl (by decide) ?_
      refine mw_getR fl_X6_27 (dT d6_withoutFactor 15 rfl) ?_
      refine mw_callVV mv_0_copyFrom ml_X6_91 (by decide) (dT d6_withoutFactor 16 rfl) (as := [mR 1 _]) rfl rfl T (fun h3 T => ?_)
      refine mw_aload_n (dT d6_withoutFactor 17 rfl) rfl (by decide) ?_
      refine mw_getR fl_X6_49 (dT d6_withoutFactor 18 rfl) ?_
      refine mw_iload_n (dT d6_withoutFactor 19 rfl) rfl ?_
      refine mw_sipush (by decide) (dT d6_withoutFactor 20 rfl) ?_
      refine mw_callVV mv_0_setAll ml_X6_326 (by decide) (dT d6_withoutFactor 21 rfl) (as := [mI _, mI _]) rfl rfl T (fun h4 T => ?_)
      refine mw_aload_n (dT d6_withoutFactor 22 rfl) rfl (by decide) ?_
      refine mw_getR fl_X6_52 (dT d6_withoutFactor 23 rfl) ?_
      refine mw_iload_n (dT d6_withoutFactor 24 rfl) rfl ?_
      refine mw_iload_n (dT d6_withoutFactor 25 rfl) rfl ?_
      refine mw_callVI mv_2_playRounds ml_X6_119 (by decide) (dT d6_withoutFactor 26 rfl) (as := [mI _, mI _]) rfl rfl T (fun v3 h5 T => ?_)
      refine mw_pop (dT d6_withoutFactor 27 rfl) (fun _ z => by cases z) ?_
      refine mw_aload_n (dT d6_withoutFactor 28 rfl) rfl (by decide) ?_
      refine mw_getR fl_X6_52 (dT d6_withoutFactor 29 rfl) ?_
      refine mw_callVJ mv_2_sumMisfit ml_X6_282 (by decide) (dT d6_withoutFactor 30 rfl) (as := []) rfl rfl T (fun v4 h6 T => ?_)
      exact mw_lret rfl (dT d6_withoutFactor 31 rfl) ⟨_, rfl, T⟩
    · have T := T2 z
      refine mw_ldc2 kl_X6_288 (dT d6_withoutFactor 10 rfl) ?_
      exact mw_lret rfl (dT d6_withoutFactor 11 rfl) ⟨_, rfl, T⟩
abbrev A6_bestJoin_32 (K : Int → mH → Prop) (x1 x2 x3 x4 x6 : Int) (h : mH) : Prop := At (mPI K) M6_bestJoin 32 [mR 25 0, mI x1, mI x2, mI x3, mJ x4, mU, mI x6, mU, mU] [] h
theorem s6_bestJoin_32 {K : Int → mH → Prop} {x1 x2 x3 x4 x6 : Int} {h : mH} (T : (0 ≤ x1 ∧ x1 < 4) ∧ ((mInR x6 ∧ mInR ((h 9 0 x1) - 1)) ∧ (((h 9 0 x1) - 1) ≤ x6 → (K x3 h)) ∧ (¬ ((h 9 0 x1) - 1) ≤ x6 → (OkI M0_isJoined [mR 1 0, mI x1, mI x6] h (fun v1 h1 => (mInR v1) ∧ (¬ v1 = 0 → (A6_bestJoin_32 K x1 x2 x3 x4 (x6 + 1) h1)) ∧ (v1 = 0 → (OkJ M6_misfitIfJoined [mR 25 0, mI x1, mI x6, mI x2] h1 (fun v2 h2 => (mInR x3) ∧ (x3 = ((-2)) → (A6_bestJoin_32 K x1 x2 x6 v2 (x6 + 1) h2)) ∧ (¬ x3 = ((-2)) → ((mInL v2 ∧ mInL x4) ∧ (x4 ≤ v2 → (A6_bestJoin_32 K x1 x2 x3 x4 (x6 + 1) h2)) ∧ (¬ x4 ≤ v2 → (A6_bestJoin_32 K x1 x2 x6 v2 (x6 + 1) h2)))))))))))) : A6_bestJoin_32 K x1 x2 x3 x4 x6 h := by
  refine mw_iload (dT d6_bestJoin 18 rfl) rfl ?_
  refine mw_aload_n (dT d6_bestJoin 19 rfl) rfl (by decide) ?_
  refine mw_getR fl_X6_20 (dT d6_bestJoin 20 rfl) ?_
  refine mw_getR fl_X6_177 (dT d6_bestJoin 21 rfl) ?_
  refine mw_iload_n (dT d6_bestJoin 22 rfl) rfl ?_
  obtain ⟨z, T⟩ := T
  refine mw_iaload ro_9 (dT d6_bestJoin 23 rfl) z ?_
  refine mw_iconst (dT d6_bestJoin 24 rfl) ?_
  refine mw_isub (dT d6_bestJoin 25 rfl) ?_
  obtain ⟨z, T1, T2⟩ := T
  refine mw_icmp_ge 98 (dT d6_bestJoin 26 rfl) (by decide) z (fun z => ?_) (fun z => ?_)
  · have T := T1 z
    refine mw_iload_n (dT d6_bestJoin 52 rfl) rfl ?_
    exact mw_iret rfl (dT d6_bestJoin 53 rfl) ⟨_, rfl, T⟩
  · have T := T2 z
    refine mw_aload_n (dT d6_bestJoin 27 rfl) rfl (by decide) ?_
    refine mw_getR fl_X6_27 (dT d6_bestJoin 28 rfl) ?_
    refine mw_iload_n (dT d6_bestJoin 29 rfl) rfl ?_
    refine mw_iload (dT d6_bestJoin 30 rfl) rfl ?_
    refine mw_callVI mv_0_isJoined ml_X6_180 (by decide) (dT d6_bestJoin 31 rfl) (as := [mI _, mI _]) rfl rfl T (fun v1 h1 T => ?_)
    obtain ⟨z, T1, T2⟩ := T
    refine mw_if_ne 92 (dT d6_bestJoin 32 rfl) (by decide) z (fun z => ?_) (fun z => ?_)
    · have T := T1 z
      refine mw_iinc (dT d6_bestJoin 50 rfl) rfl (by decide) ?_
      refine mw_goto 32 (dT d6_bestJoin 51 rfl) (by decide) ?_
      exact T
    · have T := T2 z
      refine mw_aload_n (dT d6_bestJoin 33 rfl) rfl (by decide) ?_
      refine mw_iload_n (dT d6_bestJoin 34 rfl) rfl ?_
      refine mw_iload (dT d6_bestJoin 35 rfl) rfl ?_
      refine mw_iload_n (dT d6_bestJoin 36 rfl) rfl ?_
      refine mw_callVJ mv_6_misfitIfJoined ml_X6_329 (by decide) (dT d6_bestJoin 37 rfl) (as := [mI _, mI _, mI _]) rfl rfl T (fun v2 h2 T => ?_)
      refine mw_lstore (dT d6_bestJoin 38 rfl) (by decide) ?_
      refine mw_iload_n (dT d6_bestJoin 39 rfl) rfl ?_
      refine mw_bipush (by decide) (dT d6_bestJoin 40 rfl) ?_
      obtain ⟨z, T1, T2⟩ := T
      refine mw_icmp_eq 85 (dT d6_bestJoin 41 rfl) (by decide) ⟨z, by decide⟩ (fun z => ?_) (fun z => ?_)
      · have T := T1 z
        refine mw_lload (dT d6_bestJoin 46 rfl) rfl ?_
        refine mw_lstore (dT d6_bestJoin 47 rfl) (by decide) ?_
        refine mw_iload (dT d6_bestJoin 48 rfl) rfl ?_
        refine mw_istore_n (dT d6_bestJoin 49 rfl) (by decide) ?_
        refine mw_iinc (dT d6_bestJoin 50 rfl) rfl (by decide) ?_
        refine mw_goto 32 (dT d6_bestJoin 51 rfl) (by decide) ?_
        exact At.forget [7] T
      · have T := T2 z
        refine mw_lload (dT d6_bestJoin 42 rfl) rfl ?_
        refine mw_lload (dT d6_bestJoin 43 rfl) rfl ?_
        obtain ⟨z, T1, T2⟩ := T
        refine mw_lif_ge 92 (dT d6_bestJoin 44 rfl) (dT d6_bestJoin 45 rfl) (by decide) z (fun z => ?_) (fun z => ?_)
        · have T := T1 z
          refine mw_iinc (dT d6_bestJoin 50 rfl) rfl (by decide) ?_
          refine mw_goto 32 (dT d6_bestJoin 51 rfl) (by decide) ?_
          exact At.forget [7] T
        · have T := T2 z
          refine mw_lload (dT d6_bestJoin 46 rfl) rfl ?_
          refine mw_lstore (dT d6_bestJoin 47 rfl) (by decide) ?_
          refine mw_iload (dT d6_bestJoin 48 rfl) rfl ?_
          refine mw_istore_n (dT d6_bestJoin 49 rfl) (by decide) ?_
          refine mw_iinc (dT d6_bestJoin 50 rfl) rfl (by decide) ?_
          refine mw_goto 32 (dT d6_bestJoin 51 rfl) (by decide) ?_
          exact At.forget [7] T
theorem s6_bestJoin {K : Int → mH → Prop} {x1 : Int} {x2 : Int} {h : mH} (T : OkI M3_hasFactor [mR 7 0, mI x1] h (fun v1 h1 => (mInR v1) ∧ (v1 = 0 → (K ((-1)) h1)) ∧ (¬ v1 = 0 → (OkI M6_within [mI x2, mI 0, mI 50] h1 (fun v2 h2 => (mInR v2) ∧ (¬ v2 = 0 → (A6_bestJoin_32 K x1 x2 ((-2)) 0 0 h2)) ∧ (v2 = 0 → (K ((-1)) h2))))))) : OkI M6_bestJoin [mR 25 0, mI x1, mI x2] h K := by
  refine Ok.of rfl (n := 6) rfl ?_
  show At (mPI K) M6_bestJoin 0 [mR 25 0, mI x1, mI x2, mU, mU, mU, mU, mU, mU] [] h
  refine mw_aload_n (dT d6_bestJoin 0 rfl) rfl (by decide) ?_
  refine mw_getR fl_X6_20 (dT d6_bestJoin 1 rfl) ?_
  refine mw_iload_n (dT d6_bestJoin 2 rfl) rfl ?_
  refine mw_callVI mv_3_hasFactor ml_X6_105 (by decide) (dT d6_bestJoin 3 rfl) (as := [mI _]) rfl rfl T (fun v1 h1 T => ?_)
  obtain ⟨z, T1, T2⟩ := T
  refine mw_if_eq 21 (dT d6_bestJoin 4 rfl) (by decide) z (fun z => ?_) (fun z => ?_)
  · have T := T1 z
    refine mw_iconst (dT d6_bestJoin 10 rfl) ?_
    exact mw_iret rfl (dT d6_bestJoin 11 rfl) ⟨_, rfl, T⟩
  · have T := T2 z
    refine mw_iload_n (dT d6_bestJoin 5 rfl) rfl ?_
    refine mw_iconst (dT d6_bestJoin 6 rfl) ?_
    refine mw_bipush (by decide) (dT d6_bestJoin 7 rfl) ?_
    refine mw_callSI mt_6_within ml_X6_115 (by decide) (dT d6_bestJoin 8 rfl) (as := [mI _, mI _, mI _]) rfl rfl T (fun v2 h2 T => ?_)
    obtain ⟨z, T1, T2⟩ := T
    refine mw_if_ne 23 (dT d6_bestJoin 9 rfl) (by decide) z (fun z => ?_) (fun z => ?_)
    · have T := T1 z
      refine mw_bipush (by decide) (dT d6_bestJoin 12 rfl) ?_
      refine mw_istore_n (dT d6_bestJoin 13 rfl) (by decide) ?_
      refine mw_lconst (dT d6_bestJoin 14 rfl) ?_
      refine mw_lstore (dT d6_bestJoin 15 rfl) (by decide) ?_
      refine mw_iconst (dT d6_bestJoin 16 rfl) ?_
      refine mw_istore (dT d6_bestJoin 17 rfl) (by decide) ?_
      exact T
    · have T := T2 z
      refine mw_iconst (dT d6_bestJoin 10 rfl) ?_
      exact mw_iret rfl (dT d6_bestJoin 11 rfl) ⟨_, rfl, T⟩
theorem s6_misfitIfJoined {K : Int → mH → Prop} {x1 : Int} {x2 : Int} {x3 : Int} {h : mH} (T : OkV M0_copyFrom [mR 1 1, mR 1 0] h (fun h1 => OkV M0_joinToNext [mR 1 1, mI x1, mI x2] h1 (fun h2 => OkI M2_playRounds [mR 12 1, mI x3, mI ((-1))] h2 (fun v1 h3 => OkJ M2_sumMisfit [mR 12 1] h3 (fun v2 h4 => K v2 h4))))) : OkJ M6_misfitIfJoined [mR 25 0, mI x1, mI x2, mI x3] h K := by
  refine Ok.of rfl (n := 0) rfl ?_
  show At (mPJ K) M6_misfitIfJoined 0 [mR 25 0, mI x1, mI x2, mI x3] [] h
  refine mw_aload_n (dT d6_misfitIfJoined 0 rfl) rfl (by decide) ?_
  refine mw_getR fl_X6_49 (dT d6_misfitIfJoined 1 rfl) ?_
  refine mw_aload_n (dT d6_misfitIfJoined 2 rfl) rfl (by decide) ?_
  refine mw_getR fl_X6_27 (dT d6_misfitIfJoined 3 rfl) ?_
  refine mw_callVV mv_0_copyFrom ml_X6_91 (by decide) (dT d6_misfitIfJoined 4 rfl) (as := [mR 1 _]) rfl rfl T (fun h1 T => ?_)
  refine mw_aload_n (dT d6_misfitIfJoined 5 rfl) rfl (by decide) ?_
  refine mw_getR fl_X6_49 (dT d6_misfitIfJoined 6 rfl) ?_
  refine mw_iload_n (dT d6_misfitIfJoined 7 rfl) rfl ?_
  refine mw_iload_n (dT d6_misfitIfJoined 8 rfl) rfl ?_
  refine mw_callVV mv_0_joinToNext ml_X6_187 (by decide) (dT d6_misfitIfJoined 9 rfl) (as := [mI _, mI _]) rfl rfl T (fun h2 T => ?_)
  refine mw_aload_n (dT d6_misfitIfJoined 10 rfl) rfl (by decide) ?_
  refine mw_getR fl_X6_52 (dT d6_misfitIfJoined 11 rfl) ?_
  refine mw_iload_n (dT d6_misfitIfJoined 12 rfl) rfl ?_
  refine mw_iconst (dT d6_misfitIfJoined 13 rfl) ?_
  refine mw_callVI mv_2_playRounds ml_X6_119 (by decide) (dT d6_misfitIfJoined 14 rfl) (as := [mI _, mI _]) rfl rfl T (fun v1 h3 T => ?_)
  refine mw_pop (dT d6_misfitIfJoined 15 rfl) (fun _ z => by cases z) ?_
  refine mw_aload_n (dT d6_misfitIfJoined 16 rfl) rfl (by decide) ?_
  refine mw_getR fl_X6_52 (dT d6_misfitIfJoined 17 rfl) ?_
  refine mw_callVJ mv_2_sumMisfit ml_X6_282 (by decide) (dT d6_misfitIfJoined 18 rfl) (as := []) rfl rfl T (fun v2 h4 T => ?_)
  exact mw_lret rfl (dT d6_misfitIfJoined 19 rfl) ⟨_, rfl, T⟩
theorem s6_withoutRisk {K : Int → mH → Prop} {x1 : Int} {x2 : Int} {h : mH} (T : OkI M0_hasRisk [mR 1 0, mI x1] h (fun v1 h1 => (mInR v1) ∧ (v1 = 0 → (K ((-1)) h1)) ∧ (¬ v1 = 0 → (OkI M6_within [mI x2, mI 0, mI 50] h1 (fun v2 h2 => (mInR v2) ∧ (¬ v2 = 0 → (OkV M0_copyFrom [mR 1 1, mR 1 0] h2 (fun h3 => OkV M0_removeRisk [mR 1 1, mI x1] h3 (fun h4 => OkI M2_playRounds [mR 12 1, mI x2, mI ((-1))] h4 (fun v3 h5 => OkV M2_rebaseBook [mR 12 1] h5 (fun h6 => K (h6 1 1 1) h6)))))) ∧ (v2 = 0 → (K ((-1)) h2))))))) : OkI M6_withoutRisk [mR 25 0, mI x1, mI x2] h K := by
  refine Ok.of rfl (n := 0) rfl ?_
  show At (mPI K) M6_withoutRisk 0 [mR 25 0, mI x1, mI x2] [] h
  refine mw_aload_n (dT d6_withoutRisk 0 rfl) rfl (by decide) ?_
  refine mw_getR fl_X6_27 (dT d6_withoutRisk 1 rfl) ?_
  refine mw_iload_n (dT d6_withoutRisk 2 rfl) rfl ?_
  refine mw_callVI mv_0_hasRisk ml_X6_157 (by decide) (dT d6_withoutRisk 3 rfl) (as := [mI _]) rfl rfl T (fun v1 h1 T => ?_)
  obtain ⟨z, T1, T2⟩ := T
  refine mw_if_eq 21 (dT d6_withoutRisk 4 rfl) (by decide) z (fun z => ?_) (fun z => ?_)
  · have T := T1 z
    refine mw_iconst (dT d6_withoutRisk 10 rfl) ?_
    exact mw_iret rfl (dT d6_withoutRisk 11 rfl) ⟨_, rfl, T⟩
  · have T := T2 z
    refine mw_iload_n (dT d6_withoutRisk 5 rfl) rfl ?_
    refine mw_iconst (dT d6_withoutRisk 6 rfl) ?_
    refine mw_bipush (by decide) (dT d6_withoutRisk 7 rfl) ?_
    refine mw_callSI mt_6_within ml_X6_115 (by decide) (dT d6_withoutRisk 8 rfl) (as := [mI _, mI _, mI _]) rfl rfl T (fun v2 h2 T => ?_)
    obtain ⟨z, T1, T2⟩ := T
    refine mw_if_ne 23 (dT d6_withoutRisk 9 rfl) (by decide) z (fun z => ?_) (fun z => ?_)
    · have T := T1 z
      refine mw_aload_n (dT d6_withoutRisk 12 rfl) rfl (by decide) ?_
      refine mw_getR fl_X6_49 (dT d6_withoutRisk 13 rfl) ?_
      refine mw_aload_n (dT d6_withoutRisk 14 rfl) rfl (by decide) ?_
      refine mw_getR fl_X6_27 (dT d6_withoutRisk 15 rfl) ?_
      refine mw_callVV mv_0_copyFrom ml_X6_91 (by decide) (dT d6_withoutRisk 16 rfl) (as := [mR 1 _]) rfl rfl T (fun h3 T => ?_)
      refine mw_aload_n (dT d6_withoutRisk 17 rfl) rfl (by decide) ?_
      refine mw_getR fl_X6_49 (dT d6_withoutRisk 18 rfl) ?_
      refine mw_iload_n (dT d6_withoutRisk 19 rfl) rfl ?_
      refine mw_callVV mv_0_removeRisk ml_X6_174 (by decide) (dT d6_withoutRisk 20 rfl) (as := [mI _]) rfl rfl T (fun h4 T => ?_)
      refine mw_aload_n (dT d6_withoutRisk 21 rfl) rfl (by decide) ?_
      refine mw_getR fl_X6_52 (dT d6_withoutRisk 22 rfl) ?_
      refine mw_iload_n (dT d6_withoutRisk 23 rfl) rfl ?_
      refine mw_iconst (dT d6_withoutRisk 24 rfl) ?_
      refine mw_callVI mv_2_playRounds ml_X6_119 (by decide) (dT d6_withoutRisk 25 rfl) (as := [mI _, mI _]) rfl rfl T (fun v3 h5 T => ?_)
      refine mw_pop (dT d6_withoutRisk 26 rfl) (fun _ z => by cases z) ?_
      refine mw_aload_n (dT d6_withoutRisk 27 rfl) rfl (by decide) ?_
      refine mw_getR fl_X6_52 (dT d6_withoutRisk 28 rfl) ?_
      refine mw_callVV mv_2_rebaseBook ml_X6_127 (by decide) (dT d6_withoutRisk 29 rfl) (as := []) rfl rfl T (fun h6 T => ?_)
      refine mw_aload_n (dT d6_withoutRisk 30 rfl) rfl (by decide) ?_
      refine mw_getR fl_X6_49 (dT d6_withoutRisk 31 rfl) ?_
      refine mw_getI fl_X6_130 (dT d6_withoutRisk 32 rfl) ?_
      exact mw_iret rfl (dT d6_withoutRisk 33 rfl) ⟨_, rfl, T⟩
    · have T := T2 z
      refine mw_iconst (dT d6_withoutRisk 10 rfl) ?_
      exact mw_iret rfl (dT d6_withoutRisk 11 rfl) ⟨_, rfl, T⟩
theorem s6_quote {K : Int → mH → Prop} {x1 : Int} {x2 : Int} {h : mH} (T : OkI M6_within [mI x1, mI 1, mI 99] h (fun v1 h1 => (mInR v1) ∧ (v1 = 0 → (K ((-1)) h1)) ∧ (¬ v1 = 0 → (OkI M3_hasLevels [mR 7 0, mI x2] h1 (fun v2 h2 => (mInR v2) ∧ (¬ v2 = 0 → (OkJ M2_premiumFor [mR 12 0, mI x1, mI x2] h2 (fun v3 h3 => K v3 h3))) ∧ (v2 = 0 → (K ((-1)) h2))))))) : OkJ M6_quote [mR 25 0, mI x1, mI x2] h K := by
  refine Ok.of rfl (n := 0) rfl ?_
  show At (mPJ K) M6_quote 0 [mR 25 0, mI x1, mI x2] [] h
  refine mw_iload_n (dT d6_quote 0 rfl) rfl ?_
  refine mw_iconst (dT d6_quote 1 rfl) ?_
  refine mw_bipush (by decide) (dT d6_quote 2 rfl) ?_
  refine mw_callSI mt_6_within ml_X6_115 (by decide) (dT d6_quote 3 rfl) (as := [mI _, mI _, mI _]) rfl rfl T (fun v1 h1 T => ?_)
  obtain ⟨z, T1, T2⟩ := T
  refine mw_if_eq 21 (dT d6_quote 4 rfl) (by decide) z (fun z => ?_) (fun z => ?_)
  · have T := T1 z
    refine mw_ldc2 kl_X6_288 (dT d6_quote 10 rfl) ?_
    exact mw_lret rfl (dT d6_quote 11 rfl) ⟨_, rfl, T⟩
  · have T := T2 z
    refine mw_aload_n (dT d6_quote 5 rfl) rfl (by decide) ?_
    refine mw_getR fl_X6_20 (dT d6_quote 6 rfl) ?_
    refine mw_iload_n (dT d6_quote 7 rfl) rfl ?_
    refine mw_callVI mv_3_hasLevels ml_X6_164 (by decide) (dT d6_quote 8 rfl) (as := [mI _]) rfl rfl T (fun v2 h2 T => ?_)
    obtain ⟨z, T1, T2⟩ := T
    refine mw_if_ne 25 (dT d6_quote 9 rfl) (by decide) z (fun z => ?_) (fun z => ?_)
    · have T := T1 z
      refine mw_aload_n (dT d6_quote 12 rfl) rfl (by decide) ?_
      refine mw_getR fl_X6_36 (dT d6_quote 13 rfl) ?_
      refine mw_iload_n (dT d6_quote 14 rfl) rfl ?_
      refine mw_iload_n (dT d6_quote 15 rfl) rfl ?_
      refine mw_callVJ mv_2_premiumFor ml_X6_311 (by decide) (dT d6_quote 16 rfl) (as := [mI _, mI _]) rfl rfl T (fun v3 h3 T => ?_)
      exact mw_lret rfl (dT d6_quote 17 rfl) ⟨_, rfl, T⟩
    · have T := T2 z
      refine mw_ldc2 kl_X6_288 (dT d6_quote 10 rfl) ?_
      exact mw_lret rfl (dT d6_quote 11 rfl) ⟨_, rfl, T⟩
theorem s6_kinds {K : Int → mH → Prop} {x1 : Int} {h : mH} (T : OkI M6_within [mI x1, mI 0, mI 1] h (fun v1 h1 => (mInR v1) ∧ (¬ v1 = 0 → ((mInR x1) ∧ (¬ x1 = 0 → (OkI M3_countKinds [mR 7 0] h1 (fun v2 h2 => OkI M0_countKinds [mR 1 0] h2 (fun v3 h3 => K (v2 - v3) h3)))) ∧ (x1 = 0 → (OkI M3_countKinds [mR 7 0] h1 (fun v4 h4 => K v4 h4))))) ∧ (v1 = 0 → (K ((-1)) h1)))) : OkI M6_kinds [mR 25 0, mI x1] h K := by
  refine Ok.of rfl (n := 0) rfl ?_
  show At (mPI K) M6_kinds 0 [mR 25 0, mI x1] [] h
  refine mw_iload_n (dT d6_kinds 0 rfl) rfl ?_
  refine mw_iconst (dT d6_kinds 1 rfl) ?_
  refine mw_iconst (dT d6_kinds 2 rfl) ?_
  refine mw_callSI mt_6_within ml_X6_115 (by decide) (dT d6_kinds 3 rfl) (as := [mI _, mI _, mI _]) rfl rfl T (fun v1 h1 T => ?_)
  obtain ⟨z, T1, T2⟩ := T
  refine mw_if_ne 11 (dT d6_kinds 4 rfl) (by decide) z (fun z => ?_) (fun z => ?_)
  · have T := T1 z
    refine mw_iload_n (dT d6_kinds 7 rfl) rfl ?_
    obtain ⟨z, T1, T2⟩ := T
    refine mw_if_ne 25 (dT d6_kinds 8 rfl) (by decide) z (fun z => ?_) (fun z => ?_)
    · have T := T1 z
      refine mw_aload_n (dT d6_kinds 13 rfl) rfl (by decide) ?_
      refine mw_getR fl_X6_20 (dT d6_kinds 14 rfl) ?_
      refine mw_callVI mv_3_countKinds ml_X6_332 (by decide) (dT d6_kinds 15 rfl) (as := []) rfl rfl T (fun v2 h2 T => ?_)
      refine mw_aload_n (dT d6_kinds 16 rfl) rfl (by decide) ?_
      refine mw_getR fl_X6_27 (dT d6_kinds 17 rfl) ?_
      refine mw_callVI mv_0_countKinds ml_X6_335 (by decide) (dT d6_kinds 18 rfl) (as := []) rfl rfl T (fun v3 h3 T => ?_)
      refine mw_isub (dT d6_kinds 19 rfl) ?_
      exact mw_iret rfl (dT d6_kinds 20 rfl) ⟨_, rfl, T⟩
    · have T := T2 z
      refine mw_aload_n (dT d6_kinds 9 rfl) rfl (by decide) ?_
      refine mw_getR fl_X6_20 (dT d6_kinds 10 rfl) ?_
      refine mw_callVI mv_3_countKinds ml_X6_332 (by decide) (dT d6_kinds 11 rfl) (as := []) rfl rfl T (fun v4 h4 T => ?_)
      refine mw_goto 40 (dT d6_kinds 12 rfl) (by decide) ?_
      exact mw_iret rfl (dT d6_kinds 20 rfl) ⟨_, rfl, T⟩
  · have T := T2 z
    refine mw_iconst (dT d6_kinds 5 rfl) ?_
    exact mw_iret rfl (dT d6_kinds 6 rfl) ⟨_, rfl, T⟩
abbrev A6_chance_90 (K : Int → mH → Prop) (x1 x2 x3 x4 x5 s0 : Int) (h : mH) : Prop := At (mPJ K) M6_chance 90 [mR 25 0, mI x1, mI x2, mI x3, mI x4, mI x5] [mI s0, mR 1 1] h
theorem s6_chance_90 {K : Int → mH → Prop} {x1 x2 x3 x4 x5 s0 : Int} {h : mH} (T : OkV M0_drawClaims [mR 1 1, mI s0, mI x2, mI (x3 + 1)] h (fun h1 => OkI M2_playRounds [mR 12 1, mI x4, mI ((-1))] h1 (fun v1 h2 => (mInR x5) ∧ (¬ x5 = 0 → ((mInR x5) ∧ (¬ x5 = 1 → (OkI M2_countUnbalanced [mR 12 1] h2 (fun v2 h3 => (mInR v2) ∧ (K v2 h3)))) ∧ (x5 = 1 → (OkJ M2_sumPaid [mR 12 1] h2 (fun v3 h4 => K v3 h4))))) ∧ (x5 = 0 → (OkJ M2_sumMisfit [mR 12 1] h2 (fun v4 h5 => K v4 h5)))))) : A6_chance_90 K x1 x2 x3 x4 x5 s0 h := by
  refine mw_iload_n (dT d6_chance 43 rfl) rfl ?_
  refine mw_iload_n (dT d6_chance 44 rfl) rfl ?_
  refine mw_iconst (dT d6_chance 45 rfl) ?_
  refine mw_iadd (dT d6_chance 46 rfl) ?_
  refine mw_callVV mv_0_drawClaims ml_X6_339 (by decide) (dT d6_chance 47 rfl) (as := [mI _, mI _, mI _]) rfl rfl T (fun h1 T => ?_)
  refine mw_aload_n (dT d6_chance 48 rfl) rfl (by decide) ?_
  refine mw_getR fl_X6_52 (dT d6_chance 49 rfl) ?_
  refine mw_iload (dT d6_chance 50 rfl) rfl ?_
  refine mw_iconst (dT d6_chance 51 rfl) ?_
  refine mw_callVI mv_2_playRounds ml_X6_119 (by decide) (dT d6_chance 52 rfl) (as := [mI _, mI _]) rfl rfl T (fun v1 h2 T => ?_)
  refine mw_pop (dT d6_chance 53 rfl) (fun _ z => by cases z) ?_
  refine mw_iload (dT d6_chance 54 rfl) rfl ?_
  obtain ⟨z, T1, T2⟩ := T
  refine mw_if_ne 121 (dT d6_chance 55 rfl) (by decide) z (fun z => ?_) (fun z => ?_)
  · have T := T1 z
    refine mw_iload (dT d6_chance 60 rfl) rfl ?_
    refine mw_iconst (dT d6_chance 61 rfl) ?_
    obtain ⟨z, T1, T2⟩ := T
    refine mw_icmp_ne 137 (dT d6_chance 62 rfl) (by decide) ⟨z, by decide⟩ (fun z => ?_) (fun z => ?_)
    · have T := T1 z
      refine mw_aload_n (dT d6_chance 67 rfl) rfl (by decide) ?_
      refine mw_getR fl_X6_52 (dT d6_chance 68 rfl) ?_
      refine mw_callVI mv_2_countUnbalanced ml_X6_123 (by decide) (dT d6_chance 69 rfl) (as := []) rfl rfl T (fun v2 h3 T => ?_)
      obtain ⟨z, T⟩ := T
      refine mw_i2l (dT d6_chance 70 rfl) z ?_
      exact mw_lret rfl (dT d6_chance 71 rfl) ⟨_, rfl, T⟩
    · have T := T2 z
      refine mw_aload_n (dT d6_chance 63 rfl) rfl (by decide) ?_
      refine mw_getR fl_X6_52 (dT d6_chance 64 rfl) ?_
      refine mw_callVJ mv_2_sumPaid ml_X6_278 (by decide) (dT d6_chance 65 rfl) (as := []) rfl rfl T (fun v3 h4 T => ?_)
      refine mw_goto 145 (dT d6_chance 66 rfl) (by decide) ?_
      exact mw_lret rfl (dT d6_chance 71 rfl) ⟨_, rfl, T⟩
  · have T := T2 z
    refine mw_aload_n (dT d6_chance 56 rfl) rfl (by decide) ?_
    refine mw_getR fl_X6_52 (dT d6_chance 57 rfl) ?_
    refine mw_callVJ mv_2_sumMisfit ml_X6_282 (by decide) (dT d6_chance 58 rfl) (as := []) rfl rfl T (fun v4 h5 T => ?_)
    exact mw_lret rfl (dT d6_chance 59 rfl) ⟨_, rfl, T⟩
theorem s6_chance {K : Int → mH → Prop} {x1 : Int} {x2 : Int} {x3 : Int} {x4 : Int} {x5 : Int} {h : mH} (T : (mInR x1) ∧ (x1 < ((-1)) → (K ((-1)) h)) ∧ (¬ x1 < ((-1)) → (OkI M6_within [mI x2, mI 1, mI 60] h (fun v1 h1 => (mInR v1) ∧ (v1 = 0 → (K ((-1)) h1)) ∧ (¬ v1 = 0 → (OkI M6_within [mI x3, mI 0, mI 99999] h1 (fun v2 h2 => (mInR v2) ∧ (v2 = 0 → (K ((-1)) h2)) ∧ (¬ v2 = 0 → (OkI M6_within [mI x4, mI 0, mI 20] h2 (fun v3 h3 => (mInR v3) ∧ (v3 = 0 → (K ((-1)) h3)) ∧ (¬ v3 = 0 → (OkI M6_within [mI x5, mI 0, mI 2] h3 (fun v4 h4 => (mInR v4) ∧ (v4 = 0 → (K ((-1)) h4)) ∧ (¬ v4 = 0 → ((mInR (h4 1 0 0)) ∧ (0 < (h4 1 0 0) → (OkV M0_copyFrom [mR 1 1, mR 1 0] h4 (fun h5 => (mInR x1) ∧ (0 ≤ x1 → (A6_chance_90 K x1 x2 x3 x4 x5 x1 h5)) ∧ (¬ 0 ≤ x1 → (A6_chance_90 K x1 x2 x3 x4 x5 (h5 7 0 2) h5))))) ∧ (¬ 0 < (h4 1 0 0) → (K ((-1)) h4))))))))))))))))) : OkJ M6_chance [mR 25 0, mI x1, mI x2, mI x3, mI x4, mI x5] h K := by
  refine Ok.of rfl (n := 0) rfl ?_
  show At (mPJ K) M6_chance 0 [mR 25 0, mI x1, mI x2, mI x3, mI x4, mI x5] [] h
  refine mw_iload_n (dT d6_chance 0 rfl) rfl ?_
  refine mw_iconst (dT d6_chance 1 rfl) ?_
  obtain ⟨z, T1, T2⟩ := T
  refine mw_icmp_lt 56 (dT d6_chance 2 rfl) (by decide) ⟨z, by decide⟩ (fun z => ?_) (fun z => ?_)
  · have T := T1 z
    refine mw_ldc2 kl_X6_288 (dT d6_chance 27 rfl) ?_
    exact mw_lret rfl (dT d6_chance 28 rfl) ⟨_, rfl, T⟩
  · have T := T2 z
    refine mw_iload_n (dT d6_chance 3 rfl) rfl ?_
    refine mw_iconst (dT d6_chance 4 rfl) ?_
    refine mw_bipush (by decide) (dT d6_chance 5 rfl) ?_
    refine mw_callSI mt_6_within ml_X6_115 (by decide) (dT d6_chance 6 rfl) (as := [mI _, mI _, mI _]) rfl rfl T (fun v1 h1 T => ?_)
    obtain ⟨z, T1, T2⟩ := T
    refine mw_if_eq 56 (dT d6_chance 7 rfl) (by decide) z (fun z => ?_) (fun z => ?_)
    · have T := T1 z
      refine mw_ldc2 kl_X6_288 (dT d6_chance 27 rfl) ?_
      exact mw_lret rfl (dT d6_chance 28 rfl) ⟨_, rfl, T⟩
    · have T := T2 z
      refine mw_iload_n (dT d6_chance 8 rfl) rfl ?_
      refine mw_iconst (dT d6_chance 9 rfl) ?_
      refine mw_ldc kc_X6_160 (dT d6_chance 10 rfl) ?_
      refine mw_callSI mt_6_within ml_X6_115 (by decide) (dT d6_chance 11 rfl) (as := [mI _, mI _, mI _]) rfl rfl T (fun v2 h2 T => ?_)
      obtain ⟨z, T1, T2⟩ := T
      refine mw_if_eq 56 (dT d6_chance 12 rfl) (by decide) z (fun z => ?_) (fun z => ?_)
      · have T := T1 z
        refine mw_ldc2 kl_X6_288 (dT d6_chance 27 rfl) ?_
        exact mw_lret rfl (dT d6_chance 28 rfl) ⟨_, rfl, T⟩
      · have T := T2 z
        refine mw_iload (dT d6_chance 13 rfl) rfl ?_
        refine mw_iconst (dT d6_chance 14 rfl) ?_
        refine mw_bipush (by decide) (dT d6_chance 15 rfl) ?_
        refine mw_callSI mt_6_within ml_X6_115 (by decide) (dT d6_chance 16 rfl) (as := [mI _, mI _, mI _]) rfl rfl T (fun v3 h3 T => ?_)
        obtain ⟨z, T1, T2⟩ := T
        refine mw_if_eq 56 (dT d6_chance 17 rfl) (by decide) z (fun z => ?_) (fun z => ?_)
        · have T := T1 z
          refine mw_ldc2 kl_X6_288 (dT d6_chance 27 rfl) ?_
          exact mw_lret rfl (dT d6_chance 28 rfl) ⟨_, rfl, T⟩
        · have T := T2 z
          refine mw_iload (dT d6_chance 18 rfl) rfl ?_
          refine mw_iconst (dT d6_chance 19 rfl) ?_
          refine mw_iconst (dT d6_chance 20 rfl) ?_
          refine mw_callSI mt_6_within ml_X6_115 (by decide) (dT d6_chance 21 rfl) (as := [mI _, mI _, mI _]) rfl rfl T (fun v4 h4 T => ?_)
          obtain ⟨z, T1, T2⟩ := T
          refine mw_if_eq 56 (dT d6_chance 22 rfl) (by decide) z (fun z => ?_) (fun z => ?_)
          · have T := T1 z
            refine mw_ldc2 kl_X6_288 (dT d6_chance 27 rfl) ?_
            exact mw_lret rfl (dT d6_chance 28 rfl) ⟨_, rfl, T⟩
          · have T := T2 z
            refine mw_aload_n (dT d6_chance 23 rfl) rfl (by decide) ?_
            refine mw_getR fl_X6_27 (dT d6_chance 24 rfl) ?_
            refine mw_getI fl_X6_167 (dT d6_chance 25 rfl) ?_
            obtain ⟨z, T1, T2⟩ := T
            refine mw_if_gt 60 (dT d6_chance 26 rfl) (by decide) z (fun z => ?_) (fun z => ?_)
            · have T := T1 z
              refine mw_aload_n (dT d6_chance 29 rfl) rfl (by decide) ?_
              refine mw_getR fl_X6_49 (dT d6_chance 30 rfl) ?_
              refine mw_aload_n (dT d6_chance 31 rfl) rfl (by decide) ?_
              refine mw_getR fl_X6_27 (dT d6_chance 32 rfl) ?_
              refine mw_callVV mv_0_copyFrom ml_X6_91 (by decide) (dT d6_chance 33 rfl) (as := [mR 1 _]) rfl rfl T (fun h5 T => ?_)
              refine mw_aload_n (dT d6_chance 34 rfl) rfl (by decide) ?_
              refine mw_getR fl_X6_49 (dT d6_chance 35 rfl) ?_
              refine mw_iload_n (dT d6_chance 36 rfl) rfl ?_
              obtain ⟨z, T1, T2⟩ := T
              refine mw_if_ge 89 (dT d6_chance 37 rfl) (by decide) z (fun z => ?_) (fun z => ?_)
              · have T := T1 z
                refine mw_iload_n (dT d6_chance 42 rfl) rfl ?_
                exact T
              · have T := T2 z
                refine mw_aload_n (dT d6_chance 38 rfl) rfl (by decide) ?_
                refine mw_getR fl_X6_20 (dT d6_chance 39 rfl) ?_
                refine mw_getI fl_X6_336 (dT d6_chance 40 rfl) ?_
                refine mw_goto 90 (dT d6_chance 41 rfl) (by decide) ?_
                exact T
            · have T := T2 z
              refine mw_ldc2 kl_X6_288 (dT d6_chance 27 rfl) ?_
              exact mw_lret rfl (dT d6_chance 28 rfl) ⟨_, rfl, T⟩
theorem s6_undo {K : Int → mH → Prop} {h : mH} (T : (mInR (h 25 0 15)) ∧ (0 < (h 25 0 15) → (∀ h1 : mH, h1 = mSet h 25 0 15 ((h 25 0 15) - 1) → (OkI M6_historyIndex [mR 25 0, mI (h1 25 0 15)] h1 (fun v1 h2 => (0 ≤ v1 ∧ v1 < 20) ∧ (OkV M0_copyFrom [mR 1 0, mR 1 (4 + v1)] h2 (fun h3 => K (h3 25 0 15) h3)))))) ∧ (¬ 0 < (h 25 0 15) → (K ((-1)) h))) : OkI M6_undo [mR 25 0] h K := by
  refine Ok.of rfl (n := 0) rfl ?_
  show At (mPI K) M6_undo 0 [mR 25 0] [] h
  refine mw_aload_n (dT d6_undo 0 rfl) rfl (by decide) ?_
  refine mw_getI fl_X6_98 (dT d6_undo 1 rfl) ?_
  obtain ⟨z, T1, T2⟩ := T
  refine mw_if_gt 9 (dT d6_undo 2 rfl) (by decide) z (fun z => ?_) (fun z => ?_)
  · have T := T1 z
    refine mw_aload_n (dT d6_undo 5 rfl) rfl (by decide) ?_
    refine mw_dup (dT d6_undo 6 rfl) (fun _ z => by cases z) ?_
    refine mw_getI fl_X6_98 (dT d6_undo 7 rfl) ?_
    refine mw_iconst (dT d6_undo 8 rfl) ?_
    refine mw_isub (dT d6_undo 9 rfl) ?_
    have T := T _ rfl
    refine mw_putI fp_X6_98 (dT d6_undo 10 rfl) ?_
    refine mw_aload_n (dT d6_undo 11 rfl) rfl (by decide) ?_
    refine mw_getR fl_X6_27 (dT d6_undo 12 rfl) ?_
    refine mw_aload_n (dT d6_undo 13 rfl) rfl (by decide) ?_
    refine mw_getR fl_X6_65 (dT d6_undo 14 rfl) ?_
    refine mw_aload_n (dT d6_undo 15 rfl) rfl (by decide) ?_
    refine mw_aload_n (dT d6_undo 16 rfl) rfl (by decide) ?_
    refine mw_getI fl_X6_98 (dT d6_undo 17 rfl) ?_
    refine mw_callVI mv_6_historyIndex ml_X6_342 (by decide) (dT d6_undo 18 rfl) (as := [mI _]) rfl rfl T (fun v1 h2 T => ?_)
    obtain ⟨z, T⟩ := T
    refine mw_aaload ro_27 (dT d6_undo 19 rfl) z ?_
    refine mw_callVV mv_0_copyFrom ml_X6_91 (by decide) (dT d6_undo 20 rfl) (as := [mR 1 _]) rfl rfl T (fun h3 T => ?_)
    refine mw_aload_n (dT d6_undo 21 rfl) rfl (by decide) ?_
    refine mw_getI fl_X6_98 (dT d6_undo 22 rfl) ?_
    exact mw_iret rfl (dT d6_undo 23 rfl) ⟨_, rfl, T⟩
  · have T := T2 z
    refine mw_iconst (dT d6_undo 3 rfl) ?_
    exact mw_iret rfl (dT d6_undo 4 rfl) ⟨_, rfl, T⟩
theorem s6_keep {K : Int → mH → Prop} {h : mH} (T : OkV M0_copyFrom [mR 1 3, mR 1 0] h (fun h1 => ∀ h2 : mH, h2 = mSet h1 25 0 12 1 → (K (h2 1 0 0) h2))) : OkI M6_keep [mR 25 0] h K := by
  refine Ok.of rfl (n := 0) rfl ?_
  show At (mPI K) M6_keep 0 [mR 25 0] [] h
  refine mw_aload_n (dT d6_keep 0 rfl) rfl (by decide) ?_
  refine mw_getR fl_X6_62 (dT d6_keep 1 rfl) ?_
  refine mw_aload_n (dT d6_keep 2 rfl) rfl (by decide) ?_
  refine mw_getR fl_X6_27 (dT d6_keep 3 rfl) ?_
  refine mw_callVV mv_0_copyFrom ml_X6_91 (by decide) (dT d6_keep 4 rfl) (as := [mR 1 _]) rfl rfl T (fun h1 T => ?_)
  refine mw_aload_n (dT d6_keep 5 rfl) rfl (by decide) ?_
  refine mw_iconst (dT d6_keep 6 rfl) ?_
  have T := T _ rfl
  refine mw_putZ fp_X6_94 (dT d6_keep 7 rfl) (Or.inr rfl) ?_
  refine mw_aload_n (dT d6_keep 8 rfl) rfl (by decide) ?_
  refine mw_getR fl_X6_27 (dT d6_keep 9 rfl) ?_
  refine mw_getI fl_X6_167 (dT d6_keep 10 rfl) ?_
  exact mw_iret rfl (dT d6_keep 11 rfl) ⟨_, rfl, T⟩
theorem s6_back {K : Int → mH → Prop} {h : mH} (T : (mInR (h 25 0 12)) ∧ (¬ (h 25 0 12) = 0 → (OkV M0_copyFrom [mR 1 0, mR 1 3] h (fun h1 => ∀ h2 : mH, h2 = mSet h1 25 0 15 0 → (K (h2 1 0 0) h2)))) ∧ ((h 25 0 12) = 0 → (K ((-1)) h))) : OkI M6_back [mR 25 0] h K := by
  refine Ok.of rfl (n := 0) rfl ?_
  show At (mPI K) M6_back 0 [mR 25 0] [] h
  refine mw_aload_n (dT d6_back 0 rfl) rfl (by decide) ?_
  refine mw_getI fl_X6_94 (dT d6_back 1 rfl) ?_
  obtain ⟨z, T1, T2⟩ := T
  refine mw_if_ne 9 (dT d6_back 2 rfl) (by decide) z (fun z => ?_) (fun z => ?_)
  · have T := T1 z
    refine mw_aload_n (dT d6_back 5 rfl) rfl (by decide) ?_
    refine mw_getR fl_X6_27 (dT d6_back 6 rfl) ?_
    refine mw_aload_n (dT d6_back 7 rfl) rfl (by decide) ?_
    refine mw_getR fl_X6_62 (dT d6_back 8 rfl) ?_
    refine mw_callVV mv_0_copyFrom ml_X6_91 (by decide) (dT d6_back 9 rfl) (as := [mR 1 _]) rfl rfl T (fun h1 T => ?_)
    refine mw_aload_n (dT d6_back 10 rfl) rfl (by decide) ?_
    refine mw_iconst (dT d6_back 11 rfl) ?_
    have T := T _ rfl
    refine mw_putI fp_X6_98 (dT d6_back 12 rfl) ?_
    refine mw_aload_n (dT d6_back 13 rfl) rfl (by decide) ?_
    refine mw_getR fl_X6_27 (dT d6_back 14 rfl) ?_
    refine mw_getI fl_X6_167 (dT d6_back 15 rfl) ?_
    exact mw_iret rfl (dT d6_back 16 rfl) ⟨_, rfl, T⟩
  · have T := T2 z
    refine mw_iconst (dT d6_back 3 rfl) ?_
    exact mw_iret rfl (dT d6_back 4 rfl) ⟨_, rfl, T⟩
theorem s6_count {K : Int → mH → Prop} {x1 : Int} {h : mH} (T : mInR x1 ∧ (x1 = 0 → (K (h 7 0 0) h)) ∧ (x1 = 1 → (K (h 1 0 0) h)) ∧ (x1 = 2 → (K (h 1 0 1) h)) ∧ (x1 = 3 → (K (h 7 0 1) h)) ∧ (x1 = 4 → (K (h 1 0 2) h)) ∧ (x1 = 5 → (OkI M2_countAllClasses [mR 12 0, mI 0] h (fun v1 h1 => K v1 h1))) ∧ (x1 = 6 → (OkI M2_countAllClasses [mR 12 0, mI 1] h (fun v2 h2 => K v2 h2))) ∧ (x1 = 7 → (K (h 25 0 15) h)) ∧ (x1 = 8 → (K (h 25 0 1) h)) ∧ (x1 = 9 → (K (h 1 0 3) h)) ∧ (x1 = 10 → (K (h 1 0 4) h)) ∧ (x1 = 11 → (K (h 1 0 5) h)) ∧ (x1 < 0 ∨ 11 < x1 → (K ((-1)) h))) : OkI M6_count [mR 25 0, mI x1] h K := by
  refine Ok.of rfl (n := 0) rfl ?_
  show At (mPI K) M6_count 0 [mR 25 0, mI x1] [] h
  refine mw_iload_n (dT d6_count 0 rfl) rfl ?_
  obtain ⟨z, T0, T1, T2, T3, T4, T5, T6, T7, T8, T9, T10, T11, Td⟩ := T
  by_cases y0 : x1 = 0
  · have T := T0 y0
    refine mw_tableIn 64 (dT d6_count 1 rfl) z (by omega) (by omega) (by rw [y0]; rfl) (by decide) ?_
    refine mw_aload_n (dT d6_count 2 rfl) rfl (by decide) ?_
    refine mw_getR fl_X6_20 (dT d6_count 3 rfl) ?_
    refine mw_getI fl_X6_265 (dT d6_count 4 rfl) ?_
    exact mw_iret rfl (dT d6_count 5 rfl) ⟨_, rfl, T⟩
  by_cases y1 : x1 = 1
  · have T := T1 y1
    refine mw_tableIn 72 (dT d6_count 1 rfl) z (by omega) (by omega) (by rw [y1]; rfl) (by decide) ?_
    refine mw_aload_n (dT d6_count 6 rfl) rfl (by decide) ?_
    refine mw_getR fl_X6_27 (dT d6_count 7 rfl) ?_
    refine mw_getI fl_X6_167 (dT d6_count 8 rfl) ?_
    exact mw_iret rfl (dT d6_count 9 rfl) ⟨_, rfl, T⟩
  by_cases y2 : x1 = 2
  · have T := T2 y2
    refine mw_tableIn 80 (dT d6_count 1 rfl) z (by omega) (by omega) (by rw [y2]; rfl) (by decide) ?_
    refine mw_aload_n (dT d6_count 10 rfl) rfl (by decide) ?_
    refine mw_getR fl_X6_27 (dT d6_count 11 rfl) ?_
    refine mw_getI fl_X6_130 (dT d6_count 12 rfl) ?_
    exact mw_iret rfl (dT d6_count 13 rfl) ⟨_, rfl, T⟩
  by_cases y3 : x1 = 3
  · have T := T3 y3
    refine mw_tableIn 88 (dT d6_count 1 rfl) z (by omega) (by omega) (by rw [y3]; rfl) (by decide) ?_
    refine mw_aload_n (dT d6_count 14 rfl) rfl (by decide) ?_
    refine mw_getR fl_X6_20 (dT d6_count 15 rfl) ?_
    refine mw_getI fl_X6_345 (dT d6_count 16 rfl) ?_
    exact mw_iret rfl (dT d6_count 17 rfl) ⟨_, rfl, T⟩
  by_cases y4 : x1 = 4
  · have T := T4 y4
    refine mw_tableIn 96 (dT d6_count 1 rfl) z (by omega) (by omega) (by rw [y4]; rfl) (by decide) ?_
    refine mw_aload_n (dT d6_count 18 rfl) rfl (by decide) ?_
    refine mw_getR fl_X6_27 (dT d6_count 19 rfl) ?_
    refine mw_getI fl_X6_190 (dT d6_count 20 rfl) ?_
    exact mw_iret rfl (dT d6_count 21 rfl) ⟨_, rfl, T⟩
  by_cases y5 : x1 = 5
  · have T := T5 y5
    refine mw_tableIn 104 (dT d6_count 1 rfl) z (by omega) (by omega) (by rw [y5]; rfl) (by decide) ?_
    refine mw_aload_n (dT d6_count 22 rfl) rfl (by decide) ?_
    refine mw_getR fl_X6_36 (dT d6_count 23 rfl) ?_
    refine mw_iconst (dT d6_count 24 rfl) ?_
    refine mw_callVI mv_2_countAllClasses ml_X6_348 (by decide) (dT d6_count 25 rfl) (as := [mI _]) rfl rfl T (fun v1 h1 T => ?_)
    exact mw_iret rfl (dT d6_count 26 rfl) ⟨_, rfl, T⟩
  by_cases y6 : x1 = 6
  · have T := T6 y6
    refine mw_tableIn 113 (dT d6_count 1 rfl) z (by omega) (by omega) (by rw [y6]; rfl) (by decide) ?_
    refine mw_aload_n (dT d6_count 27 rfl) rfl (by decide) ?_
    refine mw_getR fl_X6_36 (dT d6_count 28 rfl) ?_
    refine mw_iconst (dT d6_count 29 rfl) ?_
    refine mw_callVI mv_2_countAllClasses ml_X6_348 (by decide) (dT d6_count 30 rfl) (as := [mI _]) rfl rfl T (fun v2 h2 T => ?_)
    exact mw_iret rfl (dT d6_count 31 rfl) ⟨_, rfl, T⟩
  by_cases y7 : x1 = 7
  · have T := T7 y7
    refine mw_tableIn 122 (dT d6_count 1 rfl) z (by omega) (by omega) (by rw [y7]; rfl) (by decide) ?_
    refine mw_aload_n (dT d6_count 32 rfl) rfl (by decide) ?_
    refine mw_getI fl_X6_98 (dT d6_count 33 rfl) ?_
    exact mw_iret rfl (dT d6_count 34 rfl) ⟨_, rfl, T⟩
  by_cases y8 : x1 = 8
  · have T := T8 y8
    refine mw_tableIn 127 (dT d6_count 1 rfl) z (by omega) (by omega) (by rw [y8]; rfl) (by decide) ?_
    refine mw_aload_n (dT d6_count 35 rfl) rfl (by decide) ?_
    refine mw_getI fl_X6_69 (dT d6_count 36 rfl) ?_
    exact mw_iret rfl (dT d6_count 37 rfl) ⟨_, rfl, T⟩
  by_cases y9 : x1 = 9
  · have T := T9 y9
    refine mw_tableIn 132 (dT d6_count 1 rfl) z (by omega) (by omega) (by rw [y9]; rfl) (by decide) ?_
    refine mw_aload_n (dT d6_count 38 rfl) rfl (by decide) ?_
    refine mw_getR fl_X6_27 (dT d6_count 39 rfl) ?_
    refine mw_getI fl_X6_193 (dT d6_count 40 rfl) ?_
    exact mw_iret rfl (dT d6_count 41 rfl) ⟨_, rfl, T⟩
  by_cases y10 : x1 = 10
  · have T := T10 y10
    refine mw_tableIn 140 (dT d6_count 1 rfl) z (by omega) (by omega) (by rw [y10]; rfl) (by decide) ?_
    refine mw_aload_n (dT d6_count 42 rfl) rfl (by decide) ?_
    refine mw_getR fl_X6_27 (dT d6_count 43 rfl) ?_
    refine mw_getI fl_X6_196 (dT d6_count 44 rfl) ?_
    exact mw_iret rfl (dT d6_count 45 rfl) ⟨_, rfl, T⟩
  by_cases y11 : x1 = 11
  · have T := T11 y11
    refine mw_tableIn 148 (dT d6_count 1 rfl) z (by omega) (by omega) (by rw [y11]; rfl) (by decide) ?_
    refine mw_aload_n (dT d6_count 46 rfl) rfl (by decide) ?_
    refine mw_getR fl_X6_27 (dT d6_count 47 rfl) ?_
    refine mw_getI fl_X6_199 (dT d6_count 48 rfl) ?_
    exact mw_iret rfl (dT d6_count 49 rfl) ⟨_, rfl, T⟩
  have yd : x1 < 0 ∨ 11 < x1 := by omega
  have T := Td yd
  refine mw_tableOut 156 (dT d6_count 1 rfl) z yd (by decide) ?_
  refine mw_iconst (dT d6_count 50 rfl) ?_
  exact mw_iret rfl (dT d6_count 51 rfl) ⟨_, rfl, T⟩
abbrev A6_remember_28 (K : mH → Prop) (h : mH) : Prop := At (mPV K) M6_remember 28 [mR 25 0] [] h
theorem s6_remember_28 {K : mH → Prop} {h : mH} (T : OkI M6_historyIndex [mR 25 0, mI (h 25 0 15)] h (fun v1 h1 => (0 ≤ v1 ∧ v1 < 20) ∧ (OkV M0_copyFrom [mR 1 (4 + v1), mR 1 0] h1 (fun h2 => ∀ h3 : mH, h3 = mSet h2 25 0 15 ((h2 25 0 15) + 1) → (K h3))))) : A6_remember_28 K  h := by
  refine mw_aload_n (dT d6_remember 15 rfl) rfl (by decide) ?_
  refine mw_getR fl_X6_65 (dT d6_remember 16 rfl) ?_
  refine mw_aload_n (dT d6_remember 17 rfl) rfl (by decide) ?_
  refine mw_aload_n (dT d6_remember 18 rfl) rfl (by decide) ?_
  refine mw_getI fl_X6_98 (dT d6_remember 19 rfl) ?_
  refine mw_callVI mv_6_historyIndex ml_X6_342 (by decide) (dT d6_remember 20 rfl) (as := [mI _]) rfl rfl T (fun v1 h1 T => ?_)
  obtain ⟨z, T⟩ := T
  refine mw_aaload ro_27 (dT d6_remember 21 rfl) z ?_
  refine mw_aload_n (dT d6_remember 22 rfl) rfl (by decide) ?_
  refine mw_getR fl_X6_27 (dT d6_remember 23 rfl) ?_
  refine mw_callVV mv_0_copyFrom ml_X6_91 (by decide) (dT d6_remember 24 rfl) (as := [mR 1 _]) rfl rfl T (fun h2 T => ?_)
  refine mw_aload_n (dT d6_remember 25 rfl) rfl (by decide) ?_
  refine mw_dup (dT d6_remember 26 rfl) (fun _ z => by cases z) ?_
  refine mw_getI fl_X6_98 (dT d6_remember 27 rfl) ?_
  refine mw_iconst (dT d6_remember 28 rfl) ?_
  refine mw_iadd (dT d6_remember 29 rfl) ?_
  have T := T _ rfl
  refine mw_putI fp_X6_98 (dT d6_remember 30 rfl) ?_
  exact mw_vret rfl (dT d6_remember 31 rfl) ⟨rfl, T⟩
theorem s6_remember {K : mH → Prop} {h : mH} (T : (mInR (h 25 0 15)) ∧ ((h 25 0 15) < 20 → (A6_remember_28 K h)) ∧ (¬ (h 25 0 15) < 20 → ((mInR ((h 25 0 14) + 1)) ∧ (∀ h1 : mH, h1 = mSet h 25 0 14 (Int.tmod ((h 25 0 14) + 1) 20) → (∀ h2 : mH, h2 = mSet h1 25 0 15 19 → (A6_remember_28 K h2)))))) : OkV M6_remember [mR 25 0] h K := by
  refine Ok.of rfl (n := 0) rfl ?_
  show At (mPV K) M6_remember 0 [mR 25 0] [] h
  refine mw_aload_n (dT d6_remember 0 rfl) rfl (by decide) ?_
  refine mw_getI fl_X6_98 (dT d6_remember 1 rfl) ?_
  refine mw_bipush (by decide) (dT d6_remember 2 rfl) ?_
  obtain ⟨z, T1, T2⟩ := T
  refine mw_icmp_lt 28 (dT d6_remember 3 rfl) (by decide) ⟨z, by decide⟩ (fun z => ?_) (fun z => ?_)
  · have T := T1 z
    exact T
  · have T := T2 z
    refine mw_aload_n (dT d6_remember 4 rfl) rfl (by decide) ?_
    refine mw_aload_n (dT d6_remember 5 rfl) rfl (by decide) ?_
    refine mw_getI fl_X6_352 (dT d6_remember 6 rfl) ?_
    refine mw_iconst (dT d6_remember 7 rfl) ?_
    refine mw_iadd (dT d6_remember 8 rfl) ?_
    refine mw_bipush (by decide) (dT d6_remember 9 rfl) ?_
    obtain ⟨z, T⟩ := T
    refine mw_irem (dT d6_remember 10 rfl) ⟨z, by decide, by decide⟩ ?_
    have T := T _ rfl
    refine mw_putI fp_X6_352 (dT d6_remember 11 rfl) ?_
    refine mw_aload_n (dT d6_remember 12 rfl) rfl (by decide) ?_
    refine mw_bipush (by decide) (dT d6_remember 13 rfl) ?_
    have T := T _ rfl
    refine mw_putI fp_X6_98 (dT d6_remember 14 rfl) ?_
    exact T
theorem s6_historyIndex {K : Int → mH → Prop} {x1 : Int} {h : mH} (T : (mInR ((h 25 0 14) + x1)) ∧ (K (Int.tmod ((h 25 0 14) + x1) 20) h)) : OkI M6_historyIndex [mR 25 0, mI x1] h K := by
  refine Ok.of rfl (n := 0) rfl ?_
  show At (mPI K) M6_historyIndex 0 [mR 25 0, mI x1] [] h
  refine mw_aload_n (dT d6_historyIndex 0 rfl) rfl (by decide) ?_
  refine mw_getI fl_X6_352 (dT d6_historyIndex 1 rfl) ?_
  refine mw_iload_n (dT d6_historyIndex 2 rfl) rfl ?_
  refine mw_iadd (dT d6_historyIndex 3 rfl) ?_
  refine mw_bipush (by decide) (dT d6_historyIndex 4 rfl) ?_
  obtain ⟨z, T⟩ := T
  refine mw_irem (dT d6_historyIndex 5 rfl) ⟨z, by decide, by decide⟩ ?_
  exact mw_iret rfl (dT d6_historyIndex 6 rfl) ⟨_, rfl, T⟩
theorem s6_within {K : Int → mH → Prop} {x0 : Int} {x1 : Int} {x2 : Int} {h : mH} (T : (mInR x0 ∧ mInR x1) ∧ (x0 < x1 → (K 0 h)) ∧ (¬ x0 < x1 → ((mInR x0 ∧ mInR x2) ∧ (x2 < x0 → (K 0 h)) ∧ (¬ x2 < x0 → (K 1 h))))) : OkI M6_within [mI x0, mI x1, mI x2] h K := by
  refine Ok.of rfl (n := 0) rfl ?_
  show At (mPI K) M6_within 0 [mI x0, mI x1, mI x2] [] h
  refine mw_iload_n (dT d6_within 0 rfl) rfl ?_
  refine mw_iload_n (dT d6_within 1 rfl) rfl ?_
  obtain ⟨z, T1, T2⟩ := T
  refine mw_icmp_lt 14 (dT d6_within 2 rfl) (by decide) z (fun z => ?_) (fun z => ?_)
  · have T := T1 z
    refine mw_iconst (dT d6_within 8 rfl) ?_
    exact mw_zret rfl (dT d6_within 9 rfl) (Or.inl rfl) ⟨_, rfl, T⟩
  · have T := T2 z
    refine mw_iload_n (dT d6_within 3 rfl) rfl ?_
    refine mw_iload_n (dT d6_within 4 rfl) rfl ?_
    obtain ⟨z, T1, T2⟩ := T
    refine mw_icmp_gt 14 (dT d6_within 5 rfl) (by decide) z (fun z => ?_) (fun z => ?_)
    · have T := T1 z
      refine mw_iconst (dT d6_within 8 rfl) ?_
      exact mw_zret rfl (dT d6_within 9 rfl) (Or.inl rfl) ⟨_, rfl, T⟩
    · have T := T2 z
      refine mw_iconst (dT d6_within 6 rfl) ?_
      refine mw_goto 15 (dT d6_within 7 rfl) (by decide) ?_
      exact mw_zret rfl (dT d6_within 9 rfl) (Or.inr rfl) ⟨_, rfl, T⟩
theorem s6_clamp {K : Int → mH → Prop} {x0 : Int} {x2 : Int} {x3 : Int} {h : mH} (T : (mInR x2) ∧ ((mInR x3) ∧ ((mInL x3 ∧ mInL x0) ∧ ((mInL x2 ∧ mInL (min x3 x0)) ∧ (K (max x2 (min x3 x0)) h))))) : OkI M6_clamp [mJ x0, mI x2, mI x3] h K := by
  refine Ok.of rfl (n := 0) rfl ?_
  show At (mPI K) M6_clamp 0 [mJ x0, mU, mI x2, mI x3] [] h
  refine mw_iload_n (dT d6_clamp 0 rfl) rfl ?_
  obtain ⟨z, T⟩ := T
  refine mw_i2l (dT d6_clamp 1 rfl) z ?_
  refine mw_iload_n (dT d6_clamp 2 rfl) rfl ?_
  obtain ⟨z, T⟩ := T
  refine mw_i2l (dT d6_clamp 3 rfl) z ?_
  refine mw_lload_n (dT d6_clamp 4 rfl) rfl ?_
  obtain ⟨z, T⟩ := T
  refine mw_minL mm_X6_355 (by decide) (dT d6_clamp 5 rfl) rfl z ?_
  obtain ⟨z, T⟩ := T
  refine mw_maxL mm_X6_361 (by decide) (dT d6_clamp 6 rfl) rfl z ?_
  refine mw_l2i (dT d6_clamp 7 rfl) ?_
  exact mw_iret rfl (dT d6_clamp 8 rfl) ⟨_, rfl, T⟩
theorem s6_slotShift {K : Int → mH → Prop} {x0 : Int} {h : mH} (T : K (x0 * 3) h) : OkI M6_slotShift [mI x0] h K := by
  refine Ok.of rfl (n := 0) rfl ?_
  show At (mPI K) M6_slotShift 0 [mI x0] [] h
  refine mw_iload_n (dT d6_slotShift 0 rfl) rfl ?_
  refine mw_iconst (dT d6_slotShift 1 rfl) ?_
  refine mw_imul (dT d6_slotShift 2 rfl) ?_
  exact mw_iret rfl (dT d6_slotShift 3 rfl) ⟨_, rfl, T⟩
theorem s6_slot {K : Int → mH → Prop} {x0 : Int} {x1 : Int} {h : mH} (T : K (mOr (mShl x0 3) x1) h) : OkI M6_slot [mI x0, mI x1] h K := by
  refine Ok.of rfl (n := 0) rfl ?_
  show At (mPI K) M6_slot 0 [mI x0, mI x1] [] h
  refine mw_iload_n (dT d6_slot 0 rfl) rfl ?_
  refine mw_iconst (dT d6_slot 1 rfl) ?_
  refine mw_ishl (dT d6_slot 2 rfl) ?_
  refine mw_iload_n (dT d6_slot 3 rfl) rfl ?_
  refine mw_ior (dT d6_slot 4 rfl) ?_
  exact mw_iret rfl (dT d6_slot 5 rfl) ⟨_, rfl, T⟩
theorem s6_levelIn {K : Int → mH → Prop} {x0 : Int} {x1 : Int} {h : mH} (T : OkI M6_slotShift [mI x1] h (fun v1 h1 => K (mAnd (mShr x0 v1) 7) h1)) : OkI M6_levelIn [mI x0, mI x1] h K := by
  refine Ok.of rfl (n := 0) rfl ?_
  show At (mPI K) M6_levelIn 0 [mI x0, mI x1] [] h
  refine mw_iload_n (dT d6_levelIn 0 rfl) rfl ?_
  refine mw_iload_n (dT d6_levelIn 1 rfl) rfl ?_
  refine mw_callSI mt_6_slotShift ml_X6_308 (by decide) (dT d6_levelIn 2 rfl) (as := [mI _]) rfl rfl T (fun v1 h1 T => ?_)
  refine mw_ishr (dT d6_levelIn 3 rfl) ?_
  refine mw_bipush (by decide) (dT d6_levelIn 4 rfl) ?_
  refine mw_iand (dT d6_levelIn 5 rfl) ?_
  exact mw_iret rfl (dT d6_levelIn 6 rfl) ⟨_, rfl, T⟩
