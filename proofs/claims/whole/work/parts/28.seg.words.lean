/-! walks, by program (wip/whole/seg.py) -/
abbrev A5_wordNumber_9 (K : Int → mH → Prop) (x0 x1 x2 x3 x4 : Int) (h : mH) : Prop := At (mPI K) M5_wordNumber 9 [mI x0, mI x1, mI x2, mI x3, mI x4, mU] [] h
theorem s5_wordNumber_9 {K : Int → mH → Prop} {x0 x1 x2 x3 x4 : Int} {h : mH} (T : (mInR x4) ∧ (54 ≤ x4 → (K ((-1)) h)) ∧ (¬ 54 ≤ x4 → ((0 ≤ x4 ∧ x4 < 54) ∧ ((mInR (mCh0 x4)) ∧ ((mCh0 x4) = 32 → ((mInR x3 ∧ mInR x0) ∧ (¬ x3 = x0 → (A5_wordNumber_9 K x0 (x1 + 1) 0 0 (x4 + 1) h)) ∧ (x3 = x0 → (K x1 h)))) ∧ (¬ (mCh0 x4) = 32 → (OkI M5_letterBits [mI (mCh0 x4), mI x2] h (fun v1 h1 => A5_wordNumber_9 K x0 x1 (x2 + 1) (mOr x3 v1) (x4 + 1) h1))))))) : A5_wordNumber_9 K x0 x1 x2 x3 x4 h := by
  refine mw_iload (dT d5_wordNumber 8 rfl) rfl ?_
  refine mw_ldcS0 (dT d5_wordNumber 9 rfl) ?_
  refine mw_strlen0 (dT d5_wordNumber 10 rfl) rfl ?_
  obtain ⟨z, T1, T2⟩ := T
  refine mw_icmp_ge 70 (dT d5_wordNumber 11 rfl) (by decide) ⟨z, by decide⟩ (fun z => ?_) (fun z => ?_)
  · have T := T1 z
    refine mw_iconst (dT d5_wordNumber 39 rfl) ?_
    exact mw_iret rfl (dT d5_wordNumber 40 rfl) ⟨_, rfl, T⟩
  · have T := T2 z
    refine mw_ldcS0 (dT d5_wordNumber 12 rfl) ?_
    refine mw_iload (dT d5_wordNumber 13 rfl) rfl ?_
    obtain ⟨z, T⟩ := T
    refine mw_strat0 (dT d5_wordNumber 14 rfl) rfl z ?_
    refine mw_istore (dT d5_wordNumber 15 rfl) (by decide) ?_
    refine mw_iload (dT d5_wordNumber 16 rfl) rfl ?_
    refine mw_bipush (by decide) (dT d5_wordNumber 17 rfl) ?_
    obtain ⟨z, T1, T2⟩ := T
    refine mw_icmp_eq 50 (dT d5_wordNumber 18 rfl) (by decide) ⟨z, by decide⟩ (fun z => ?_) (fun z => ?_)
    · have T := T1 z
      refine mw_iload_n (dT d5_wordNumber 27 rfl) rfl ?_
      refine mw_iload_n (dT d5_wordNumber 28 rfl) rfl ?_
      obtain ⟨z, T1, T2⟩ := T
      refine mw_icmp_ne 57 (dT d5_wordNumber 29 rfl) (by decide) z (fun z => ?_) (fun z => ?_)
      · have T := T1 z
        refine mw_iinc (dT d5_wordNumber 32 rfl) rfl (by decide) ?_
        refine mw_iconst (dT d5_wordNumber 33 rfl) ?_
        refine mw_istore_n (dT d5_wordNumber 34 rfl) (by decide) ?_
        refine mw_iconst (dT d5_wordNumber 35 rfl) ?_
        refine mw_istore_n (dT d5_wordNumber 36 rfl) (by decide) ?_
        refine mw_iinc (dT d5_wordNumber 37 rfl) rfl (by decide) ?_
        refine mw_goto 9 (dT d5_wordNumber 38 rfl) (by decide) ?_
        exact At.forget [5] T
      · have T := T2 z
        refine mw_iload_n (dT d5_wordNumber 30 rfl) rfl ?_
        exact mw_iret rfl (dT d5_wordNumber 31 rfl) ⟨_, rfl, T⟩
    · have T := T2 z
      refine mw_iload_n (dT d5_wordNumber 19 rfl) rfl ?_
      refine mw_iload (dT d5_wordNumber 20 rfl) rfl ?_
      refine mw_iload_n (dT d5_wordNumber 21 rfl) rfl ?_
      refine mw_callSI mt_5_letterBits ml_X5_55 (by decide) (dT d5_wordNumber 22 rfl) (as := [mI _, mI _]) rfl rfl T (fun v1 h1 T => ?_)
      refine mw_ior (dT d5_wordNumber 23 rfl) ?_
      refine mw_istore_n (dT d5_wordNumber 24 rfl) (by decide) ?_
      refine mw_iinc (dT d5_wordNumber 25 rfl) rfl (by decide) ?_
      refine mw_goto 64 (dT d5_wordNumber 26 rfl) (by decide) ?_
      refine mw_iinc (dT d5_wordNumber 37 rfl) rfl (by decide) ?_
      refine mw_goto 9 (dT d5_wordNumber 38 rfl) (by decide) ?_
      exact At.forget [5] T
theorem s5_wordNumber {K : Int → mH → Prop} {x0 : Int} {h : mH} (T : A5_wordNumber_9 K x0 0 0 0 0 h) : OkI M5_wordNumber [mI x0] h K := by
  refine Ok.of rfl (n := 5) rfl ?_
  show At (mPI K) M5_wordNumber 0 [mI x0, mU, mU, mU, mU, mU] [] h
  refine mw_iconst (dT d5_wordNumber 0 rfl) ?_
  refine mw_istore_n (dT d5_wordNumber 1 rfl) (by decide) ?_
  refine mw_iconst (dT d5_wordNumber 2 rfl) ?_
  refine mw_istore_n (dT d5_wordNumber 3 rfl) (by decide) ?_
  refine mw_iconst (dT d5_wordNumber 4 rfl) ?_
  refine mw_istore_n (dT d5_wordNumber 5 rfl) (by decide) ?_
  refine mw_iconst (dT d5_wordNumber 6 rfl) ?_
  refine mw_istore (dT d5_wordNumber 7 rfl) (by decide) ?_
  exact T
abbrev A7_wordHere_4 (K : Int → mH → Prop) (x1 x2 : Int) (h : mH) : Prop := At (mPI K) M7_wordHere 4 [mR 30 0, mI x1, mI x2, mU] [] h
abbrev A7_wordHere_15 (K : Int → mH → Prop) (x1 x2 x3 : Int) (h : mH) : Prop := At (mPI K) M7_wordHere 15 [mR 30 0, mI x1, mI x2, mI x3] [] h
abbrev A7_wordHere_69 (K : Int → mH → Prop) (x1 x2 x3 : Int) (h : mH) : Prop := At (mPI K) M7_wordHere 69 [mR 30 0, mI x1, mI x2, mI x3] [] h
abbrev A7_wordHere_97 (K : Int → mH → Prop) (x1 x2 x3 : Int) (h : mH) : Prop := At (mPI K) M7_wordHere 97 [mR 30 0, mI x1, mI x2, mI x3] [] h
theorem s7_wordHere_4 {K : Int → mH → Prop} {x1 x2 : Int} {h : mH} (T : (mInR x2) ∧ (54 ≤ x2 → (K ((-1)) h)) ∧ (¬ 54 ≤ x2 → (A7_wordHere_15 K x1 x2 0 h))) : A7_wordHere_4 K x1 x2 h := by
  refine mw_iload_n (dT d7_wordHere 4 rfl) rfl ?_
  refine mw_ldcS1 (dT d7_wordHere 5 rfl) ?_
  refine mw_strlen1 (dT d7_wordHere 6 rfl) rfl ?_
  obtain ⟨z, T1, T2⟩ := T
  refine mw_icmp_ge 123 (dT d7_wordHere 7 rfl) (by decide) ⟨z, by decide⟩ (fun z => ?_) (fun z => ?_)
  · have T := T1 z
    refine mw_iconst (dT d7_wordHere 65 rfl) ?_
    exact mw_iret rfl (dT d7_wordHere 66 rfl) ⟨_, rfl, T⟩
  · have T := T2 z
    refine mw_iconst (dT d7_wordHere 8 rfl) ?_
    refine mw_istore_n (dT d7_wordHere 9 rfl) (by decide) ?_
    exact T
theorem s7_wordHere_15 {K : Int → mH → Prop} {x1 x2 x3 : Int} {h : mH} (T : (0 ≤ (x2 + x3) ∧ (x2 + x3) < 54) ∧ ((mInR (mCh1 (x2 + x3))) ∧ ((mCh1 (x2 + x3)) = 32 → (A7_wordHere_69 K x1 x2 x3 h)) ∧ (¬ (mCh1 (x2 + x3)) = 32 → ((mInR ((h 30 0 15) + x3) ∧ mInR (h 30 0 14)) ∧ ((h 30 0 14) ≤ ((h 30 0 15) + x3) → (A7_wordHere_69 K x1 x2 x3 h)) ∧ (¬ (h 30 0 14) ≤ ((h 30 0 15) + x3) → ((0 ≤ ((h 30 0 15) + x3) ∧ ((h 30 0 15) + x3) < 900) ∧ ((0 ≤ (x2 + x3) ∧ (x2 + x3) < 54) ∧ ((mInR (h 31 0 ((h 30 0 15) + x3)) ∧ mInR (mCh1 (x2 + x3))) ∧ (¬ (h 31 0 ((h 30 0 15) + x3)) = (mCh1 (x2 + x3)) → (A7_wordHere_69 K x1 x2 x3 h)) ∧ ((h 31 0 ((h 30 0 15) + x3)) = (mCh1 (x2 + x3)) → (A7_wordHere_15 K x1 x2 (x3 + 1) h)))))))))) : A7_wordHere_15 K x1 x2 x3 h := by
  refine mw_ldcS1 (dT d7_wordHere 10 rfl) ?_
  refine mw_iload_n (dT d7_wordHere 11 rfl) rfl ?_
  refine mw_iload_n (dT d7_wordHere 12 rfl) rfl ?_
  refine mw_iadd (dT d7_wordHere 13 rfl) ?_
  obtain ⟨z, T⟩ := T
  refine mw_strat1 (dT d7_wordHere 14 rfl) rfl z ?_
  refine mw_bipush (by decide) (dT d7_wordHere 15 rfl) ?_
  obtain ⟨z, T1, T2⟩ := T
  refine mw_icmp_eq 69 (dT d7_wordHere 16 rfl) (by decide) ⟨z, by decide⟩ (fun z => ?_) (fun z => ?_)
  · have T := T1 z
    exact T
  · have T := T2 z
    refine mw_aload_n (dT d7_wordHere 17 rfl) rfl (by decide) ?_
    refine mw_getI fl_X7_85 (dT d7_wordHere 18 rfl) ?_
    refine mw_iload_n (dT d7_wordHere 19 rfl) rfl ?_
    refine mw_iadd (dT d7_wordHere 20 rfl) ?_
    refine mw_aload_n (dT d7_wordHere 21 rfl) rfl (by decide) ?_
    refine mw_getI fl_X7_75 (dT d7_wordHere 22 rfl) ?_
    obtain ⟨z, T1, T2⟩ := T
    refine mw_icmp_ge 69 (dT d7_wordHere 23 rfl) (by decide) z (fun z => ?_) (fun z => ?_)
    · have T := T1 z
      exact T
    · have T := T2 z
      refine mw_aload_n (dT d7_wordHere 24 rfl) rfl (by decide) ?_
      refine mw_getR fl_X7_7 (dT d7_wordHere 25 rfl) ?_
      refine mw_aload_n (dT d7_wordHere 26 rfl) rfl (by decide) ?_
      refine mw_getI fl_X7_85 (dT d7_wordHere 27 rfl) ?_
      refine mw_iload_n (dT d7_wordHere 28 rfl) rfl ?_
      refine mw_iadd (dT d7_wordHere 29 rfl) ?_
      obtain ⟨z, T⟩ := T
      refine mw_iaload ro_31 (dT d7_wordHere 30 rfl) z ?_
      refine mw_ldcS1 (dT d7_wordHere 31 rfl) ?_
      refine mw_iload_n (dT d7_wordHere 32 rfl) rfl ?_
      refine mw_iload_n (dT d7_wordHere 33 rfl) rfl ?_
      refine mw_iadd (dT d7_wordHere 34 rfl) ?_
      obtain ⟨z, T⟩ := T
      refine mw_strat1 (dT d7_wordHere 35 rfl) rfl z ?_
      obtain ⟨z, T1, T2⟩ := T
      refine mw_icmp_ne 69 (dT d7_wordHere 36 rfl) (by decide) z (fun z => ?_) (fun z => ?_)
      · have T := T1 z
        exact T
      · have T := T2 z
        refine mw_iinc (dT d7_wordHere 37 rfl) rfl (by decide) ?_
        refine mw_goto 15 (dT d7_wordHere 38 rfl) (by decide) ?_
        exact T
theorem s7_wordHere_69 {K : Int → mH → Prop} {x1 x2 x3 : Int} {h : mH} (T : (0 ≤ (x2 + x3) ∧ (x2 + x3) < 54) ∧ ((mInR (mCh1 (x2 + x3))) ∧ (¬ (mCh1 (x2 + x3)) = 32 → (A7_wordHere_97 K x1 x2 x3 h)) ∧ ((mCh1 (x2 + x3)) = 32 → ((mInR ((h 30 0 15) + x3) ∧ mInR (h 30 0 14)) ∧ (¬ ((h 30 0 15) + x3) = (h 30 0 14) → (A7_wordHere_97 K x1 x2 x3 h)) ∧ (((h 30 0 15) + x3) = (h 30 0 14) → (K x1 h)))))) : A7_wordHere_69 K x1 x2 x3 h := by
  refine mw_ldcS1 (dT d7_wordHere 39 rfl) ?_
  refine mw_iload_n (dT d7_wordHere 40 rfl) rfl ?_
  refine mw_iload_n (dT d7_wordHere 41 rfl) rfl ?_
  refine mw_iadd (dT d7_wordHere 42 rfl) ?_
  obtain ⟨z, T⟩ := T
  refine mw_strat1 (dT d7_wordHere 43 rfl) rfl z ?_
  refine mw_bipush (by decide) (dT d7_wordHere 44 rfl) ?_
  obtain ⟨z, T1, T2⟩ := T
  refine mw_icmp_ne 97 (dT d7_wordHere 45 rfl) (by decide) ⟨z, by decide⟩ (fun z => ?_) (fun z => ?_)
  · have T := T1 z
    exact T
  · have T := T2 z
    refine mw_aload_n (dT d7_wordHere 46 rfl) rfl (by decide) ?_
    refine mw_getI fl_X7_85 (dT d7_wordHere 47 rfl) ?_
    refine mw_iload_n (dT d7_wordHere 48 rfl) rfl ?_
    refine mw_iadd (dT d7_wordHere 49 rfl) ?_
    refine mw_aload_n (dT d7_wordHere 50 rfl) rfl (by decide) ?_
    refine mw_getI fl_X7_75 (dT d7_wordHere 51 rfl) ?_
    obtain ⟨z, T1, T2⟩ := T
    refine mw_icmp_ne 97 (dT d7_wordHere 52 rfl) (by decide) z (fun z => ?_) (fun z => ?_)
    · have T := T1 z
      exact T
    · have T := T2 z
      refine mw_iload_n (dT d7_wordHere 53 rfl) rfl ?_
      exact mw_iret rfl (dT d7_wordHere 54 rfl) ⟨_, rfl, T⟩
theorem s7_wordHere_97 {K : Int → mH → Prop} {x1 x2 x3 : Int} {h : mH} (T : (0 ≤ x2 ∧ x2 < 54) ∧ ((mInR (mCh1 x2)) ∧ ((mCh1 x2) = 32 → (A7_wordHere_4 K (x1 + 1) (x2 + 1) h)) ∧ (¬ (mCh1 x2) = 32 → (A7_wordHere_97 K x1 (x2 + 1) x3 h)))) : A7_wordHere_97 K x1 x2 x3 h := by
  refine mw_ldcS1 (dT d7_wordHere 55 rfl) ?_
  refine mw_iload_n (dT d7_wordHere 56 rfl) rfl ?_
  obtain ⟨z, T⟩ := T
  refine mw_strat1 (dT d7_wordHere 57 rfl) rfl z ?_
  refine mw_bipush (by decide) (dT d7_wordHere 58 rfl) ?_
  obtain ⟨z, T1, T2⟩ := T
  refine mw_icmp_eq 114 (dT d7_wordHere 59 rfl) (by decide) ⟨z, by decide⟩ (fun z => ?_) (fun z => ?_)
  · have T := T1 z
    refine mw_iinc (dT d7_wordHere 62 rfl) rfl (by decide) ?_
    refine mw_iinc (dT d7_wordHere 63 rfl) rfl (by decide) ?_
    refine mw_goto 4 (dT d7_wordHere 64 rfl) (by decide) ?_
    exact At.forget [3] T
  · have T := T2 z
    refine mw_iinc (dT d7_wordHere 60 rfl) rfl (by decide) ?_
    refine mw_goto 97 (dT d7_wordHere 61 rfl) (by decide) ?_
    exact T
theorem s7_wordHere {K : Int → mH → Prop} {h : mH} (T : A7_wordHere_4 K 0 0 h) : OkI M7_wordHere [mR 30 0] h K := by
  refine Ok.of rfl (n := 3) rfl ?_
  show At (mPI K) M7_wordHere 0 [mR 30 0, mU, mU, mU] [] h
  refine mw_iconst (dT d7_wordHere 0 rfl) ?_
  refine mw_istore_n (dT d7_wordHere 1 rfl) (by decide) ?_
  refine mw_iconst (dT d7_wordHere 2 rfl) ?_
  refine mw_istore_n (dT d7_wordHere 3 rfl) (by decide) ?_
  exact T
