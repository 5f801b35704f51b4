/-! walks, by program (wip/whole/seg.py) -/
abbrev A4_readText_57 (K : Int → mH → Prop) (x2 x3 x4 : Int) (h : mH) : Prop := At (mPI K) M4_readText 57 [mR 24 0, mR 26 0, mI x2, mI x3, mI x4] [] h
theorem s4_readText_57 {K : Int → mH → Prop} {x2 x3 x4 : Int} {h : mH} (T : (mInR x4 ∧ mInR (h 20 0 3)) ∧ ((h 20 0 3) ≤ x4 → (K x3 h)) ∧ (¬ (h 20 0 3) ≤ x4 → ((mInR (h 24 0 4)) ∧ ((h 24 0 4) = 0 → (K x3 h)) ∧ (¬ (h 24 0 4) = 0 → ((mInR (h 24 0 9)) ∧ (¬ (h 24 0 9) = 0 → (K x3 h)) ∧ ((h 24 0 9) = 0 → (OkV M4_readLine [mR 24 0] h (fun h1 => A4_readText_57 K x2 (x3 + 1) (x4 + 1) h1)))))))) : A4_readText_57 K x2 x3 x4 h := by
  refine mw_iload (dT d4_readText 32 rfl) rfl ?_
  refine mw_aload_n (dT d4_readText 33 rfl) rfl (by decide) ?_
  refine mw_getR fl_X4_12 (dT d4_readText 34 rfl) ?_
  refine mw_getI fl_X4_59 (dT d4_readText 35 rfl) ?_
  obtain ⟨z, T1, T2⟩ := T
  refine mw_icmp_ge 96 (dT d4_readText 36 rfl) (by decide) z (fun z => ?_) (fun z => ?_)
  · have T := T1 z
    refine mw_iload_n (dT d4_readText 48 rfl) rfl ?_
    exact mw_iret rfl (dT d4_readText 49 rfl) ⟨_, rfl, T⟩
  · have T := T2 z
    refine mw_aload_n (dT d4_readText 37 rfl) rfl (by decide) ?_
    refine mw_getI fl_X4_62 (dT d4_readText 38 rfl) ?_
    obtain ⟨z, T1, T2⟩ := T
    refine mw_if_eq 96 (dT d4_readText 39 rfl) (by decide) z (fun z => ?_) (fun z => ?_)
    · have T := T1 z
      refine mw_iload_n (dT d4_readText 48 rfl) rfl ?_
      exact mw_iret rfl (dT d4_readText 49 rfl) ⟨_, rfl, T⟩
    · have T := T2 z
      refine mw_aload_n (dT d4_readText 40 rfl) rfl (by decide) ?_
      refine mw_getI fl_X4_43 (dT d4_readText 41 rfl) ?_
      obtain ⟨z, T1, T2⟩ := T
      refine mw_if_ne 96 (dT d4_readText 42 rfl) (by decide) z (fun z => ?_) (fun z => ?_)
      · have T := T1 z
        refine mw_iload_n (dT d4_readText 48 rfl) rfl ?_
        exact mw_iret rfl (dT d4_readText 49 rfl) ⟨_, rfl, T⟩
      · have T := T2 z
        refine mw_aload_n (dT d4_readText 43 rfl) rfl (by decide) ?_
        refine mw_callVV mv_4_readLine ml_X4_65 (by decide) (dT d4_readText 44 rfl) (as := []) rfl rfl T (fun h1 T => ?_)
        refine mw_iinc (dT d4_readText 45 rfl) rfl (by decide) ?_
        refine mw_iinc (dT d4_readText 46 rfl) rfl (by decide) ?_
        refine mw_goto 57 (dT d4_readText 47 rfl) (by decide) ?_
        exact T
theorem s4_readText {K : Int → mH → Prop} {x2 : Int} {h : mH} (T : OkV M3_clear [mR 7 1] h (fun h1 => OkV M0_clear [mR 1 2] h1 (fun h2 => ∀ h3 : mH, h3 = mSet h2 24 0 7 0 → (∀ h4 : mH, h4 = mSet h3 24 0 8 0 → (∀ h5 : mH, h5 = mSet h4 24 0 9 0 → (∀ h6 : mH, h6 = mSet h5 24 0 10 ((-1)) → (OkV M5_scan [mR 20 0, mR 26 0, mI x2] h6 (fun h7 => ∀ h8 : mH, h8 = mSet h7 24 0 3 0 → (OkV M4_advance [mR 24 0] h8 (fun h9 => A4_readText_57 K x2 0 0 h9)))))))))) : OkI M4_readText [mR 24 0, mR 26 0, mI x2] h K := by
  refine Ok.of rfl (n := 2) rfl ?_
  show At (mPI K) M4_readText 0 [mR 24 0, mR 26 0, mI x2, mU, mU] [] h
  refine mw_aload_n (dT d4_readText 0 rfl) rfl (by decide) ?_
  refine mw_getR fl_X4_21 (dT d4_readText 1 rfl) ?_
  refine mw_callVV mv_3_clear ml_X4_32 (by decide) (dT d4_readText 2 rfl) (as := []) rfl rfl T (fun h1 T => ?_)
  refine mw_aload_n (dT d4_readText 3 rfl) rfl (by decide) ?_
  refine mw_getR fl_X4_28 (dT d4_readText 4 rfl) ?_
  refine mw_callVV mv_0_clear ml_X4_35 (by decide) (dT d4_readText 5 rfl) (as := []) rfl rfl T (fun h2 T => ?_)
  refine mw_aload_n (dT d4_readText 6 rfl) rfl (by decide) ?_
  refine mw_iconst (dT d4_readText 7 rfl) ?_
  have T := T _ rfl
  refine mw_putI fp_X4_36 (dT d4_readText 8 rfl) ?_
  refine mw_aload_n (dT d4_readText 9 rfl) rfl (by decide) ?_
  refine mw_iconst (dT d4_readText 10 rfl) ?_
  have T := T _ rfl
  refine mw_putI fp_X4_40 (dT d4_readText 11 rfl) ?_
  refine mw_aload_n (dT d4_readText 12 rfl) rfl (by decide) ?_
  refine mw_iconst (dT d4_readText 13 rfl) ?_
  have T := T _ rfl
  refine mw_putI fp_X4_43 (dT d4_readText 14 rfl) ?_
  refine mw_aload_n (dT d4_readText 15 rfl) rfl (by decide) ?_
  refine mw_iconst (dT d4_readText 16 rfl) ?_
  have T := T _ rfl
  refine mw_putI fp_X4_46 (dT d4_readText 17 rfl) ?_
  refine mw_aload_n (dT d4_readText 18 rfl) rfl (by decide) ?_
  refine mw_getR fl_X4_12 (dT d4_readText 19 rfl) ?_
  refine mw_aload_n (dT d4_readText 20 rfl) rfl (by decide) ?_
  refine mw_iload_n (dT d4_readText 21 rfl) rfl ?_
  refine mw_callVV mv_5_scan ml_X4_49 (by decide) (dT d4_readText 22 rfl) (as := [mR 26 _, mI _]) rfl rfl T (fun h7 T => ?_)
  refine mw_aload_n (dT d4_readText 23 rfl) rfl (by decide) ?_
  refine mw_iconst (dT d4_readText 24 rfl) ?_
  have T := T _ rfl
  refine mw_putI fp_X4_53 (dT d4_readText 25 rfl) ?_
  refine mw_aload_n (dT d4_readText 26 rfl) rfl (by decide) ?_
  refine mw_callVV mv_4_advance ml_X4_56 (by decide) (dT d4_readText 27 rfl) (as := []) rfl rfl T (fun h9 T => ?_)
  refine mw_iconst (dT d4_readText 28 rfl) ?_
  refine mw_istore_n (dT d4_readText 29 rfl) (by decide) ?_
  refine mw_iconst (dT d4_readText 30 rfl) ?_
  refine mw_istore (dT d4_readText 31 rfl) (by decide) ?_
  exact T
theorem s4_advance {K : mH → Prop} {h : mH} (T : (mInR (h 24 0 3)) ∧ ((h 24 0 3) < 0 → (K h)) ∧ (¬ (h 24 0 3) < 0 → ((mInR (h 24 0 3) ∧ mInR (h 20 0 3)) ∧ ((h 20 0 3) ≤ (h 24 0 3) → (K h)) ∧ (¬ (h 20 0 3) ≤ (h 24 0 3) → ((0 ≤ (h 24 0 3) ∧ (h 24 0 3) < 901) ∧ (∀ h1 : mH, h1 = mSet h 24 0 4 (h 21 0 (h 24 0 3)) → ((0 ≤ (h1 24 0 3) ∧ (h1 24 0 3) < 901) ∧ (∀ h2 : mH, h2 = mSet h1 24 0 5 (h1 22 0 (h1 24 0 3)) → ((0 ≤ (h2 24 0 3) ∧ (h2 24 0 3) < 901) ∧ (∀ h3 : mH, h3 = mSet h2 24 0 6 (h2 23 0 (h2 24 0 3)) → (∀ h4 : mH, h4 = mSet h3 24 0 3 ((h3 24 0 3) + 1) → (K h4)))))))))))) : OkV M4_advance [mR 24 0] h K := by
  refine Ok.of rfl (n := 0) rfl ?_
  show At (mPV K) M4_advance 0 [mR 24 0] [] h
  refine mw_aload_n (dT d4_advance 0 rfl) rfl (by decide) ?_
  refine mw_getI fl_X4_53 (dT d4_advance 1 rfl) ?_
  obtain ⟨z, T1, T2⟩ := T
  refine mw_if_lt 79 (dT d4_advance 2 rfl) (by decide) z (fun z => ?_) (fun z => ?_)
  · have T := T1 z
    exact mw_vret rfl (dT d4_advance 39 rfl) ⟨rfl, T⟩
  · have T := T2 z
    refine mw_aload_n (dT d4_advance 3 rfl) rfl (by decide) ?_
    refine mw_getI fl_X4_53 (dT d4_advance 4 rfl) ?_
    refine mw_aload_n (dT d4_advance 5 rfl) rfl (by decide) ?_
    refine mw_getR fl_X4_12 (dT d4_advance 6 rfl) ?_
    refine mw_getI fl_X4_59 (dT d4_advance 7 rfl) ?_
    obtain ⟨z, T1, T2⟩ := T
    refine mw_icmp_ge 79 (dT d4_advance 8 rfl) (by decide) z (fun z => ?_) (fun z => ?_)
    · have T := T1 z
      exact mw_vret rfl (dT d4_advance 39 rfl) ⟨rfl, T⟩
    · have T := T2 z
      refine mw_aload_n (dT d4_advance 9 rfl) rfl (by decide) ?_
      refine mw_aload_n (dT d4_advance 10 rfl) rfl (by decide) ?_
      refine mw_getR fl_X4_12 (dT d4_advance 11 rfl) ?_
      refine mw_getR fl_X4_68 (dT d4_advance 12 rfl) ?_
      refine mw_aload_n (dT d4_advance 13 rfl) rfl (by decide) ?_
      refine mw_getI fl_X4_53 (dT d4_advance 14 rfl) ?_
      obtain ⟨z, T⟩ := T
      refine mw_iaload ro_21 (dT d4_advance 15 rfl) z ?_
      have T := T _ rfl
      refine mw_putI fp_X4_62 (dT d4_advance 16 rfl) ?_
      refine mw_aload_n (dT d4_advance 17 rfl) rfl (by decide) ?_
      refine mw_aload_n (dT d4_advance 18 rfl) rfl (by decide) ?_
      refine mw_getR fl_X4_12 (dT d4_advance 19 rfl) ?_
      refine mw_getR fl_X4_72 (dT d4_advance 20 rfl) ?_
      refine mw_aload_n (dT d4_advance 21 rfl) rfl (by decide) ?_
      refine mw_getI fl_X4_53 (dT d4_advance 22 rfl) ?_
      obtain ⟨z, T⟩ := T
      refine mw_iaload ro_22 (dT d4_advance 23 rfl) z ?_
      have T := T _ rfl
      refine mw_putI fp_X4_75 (dT d4_advance 24 rfl) ?_
      refine mw_aload_n (dT d4_advance 25 rfl) rfl (by decide) ?_
      refine mw_aload_n (dT d4_advance 26 rfl) rfl (by decide) ?_
      refine mw_getR fl_X4_12 (dT d4_advance 27 rfl) ?_
      refine mw_getR fl_X4_78 (dT d4_advance 28 rfl) ?_
      refine mw_aload_n (dT d4_advance 29 rfl) rfl (by decide) ?_
      refine mw_getI fl_X4_53 (dT d4_advance 30 rfl) ?_
      obtain ⟨z, T⟩ := T
      refine mw_iaload ro_23 (dT d4_advance 31 rfl) z ?_
      have T := T _ rfl
      refine mw_putI fp_X4_81 (dT d4_advance 32 rfl) ?_
      refine mw_aload_n (dT d4_advance 33 rfl) rfl (by decide) ?_
      refine mw_dup (dT d4_advance 34 rfl) (fun _ z => by cases z) ?_
      refine mw_getI fl_X4_53 (dT d4_advance 35 rfl) ?_
      refine mw_iconst (dT d4_advance 36 rfl) ?_
      refine mw_iadd (dT d4_advance 37 rfl) ?_
      have T := T _ rfl
      refine mw_putI fp_X4_53 (dT d4_advance 38 rfl) ?_
      exact mw_vret rfl (dT d4_advance 39 rfl) ⟨rfl, T⟩
theorem s4_fail {K : mH → Prop} {x1 : Int} {h : mH} (T : (mInR (h 24 0 9)) ∧ (¬ (h 24 0 9) = 0 → (K h)) ∧ ((h 24 0 9) = 0 → (∀ h1 : mH, h1 = mSet h 24 0 9 x1 → (∀ h2 : mH, h2 = mSet h1 24 0 10 (h1 24 0 6) → (K h2))))) : OkV M4_fail [mR 24 0, mI x1] h K := by
  refine Ok.of rfl (n := 0) rfl ?_
  show At (mPV K) M4_fail 0 [mR 24 0, mI x1] [] h
  refine mw_aload_n (dT d4_fail 0 rfl) rfl (by decide) ?_
  refine mw_getI fl_X4_43 (dT d4_fail 1 rfl) ?_
  obtain ⟨z, T1, T2⟩ := T
  refine mw_if_ne 20 (dT d4_fail 2 rfl) (by decide) z (fun z => ?_) (fun z => ?_)
  · have T := T1 z
    exact mw_vret rfl (dT d4_fail 10 rfl) ⟨rfl, T⟩
  · have T := T2 z
    refine mw_aload_n (dT d4_fail 3 rfl) rfl (by decide) ?_
    refine mw_iload_n (dT d4_fail 4 rfl) rfl ?_
    have T := T _ rfl
    refine mw_putI fp_X4_43 (dT d4_fail 5 rfl) ?_
    refine mw_aload_n (dT d4_fail 6 rfl) rfl (by decide) ?_
    refine mw_aload_n (dT d4_fail 7 rfl) rfl (by decide) ?_
    refine mw_getI fl_X4_81 (dT d4_fail 8 rfl) ?_
    have T := T _ rfl
    refine mw_putI fp_X4_46 (dT d4_fail 9 rfl) ?_
    exact mw_vret rfl (dT d4_fail 10 rfl) ⟨rfl, T⟩
theorem s4_readLine {K : mH → Prop} {h : mH} (T : (mInR (h 24 0 4)) ∧ ((h 24 0 4) = 1 → (mInR (h 24 0 5) ∧ ((h 24 0 5) = 0 → (OkV M4_readFactor [mR 24 0] h (fun h1 => OkV M4_takeStop [mR 24 0] h1 (fun h2 => K h2)))) ∧ ((h 24 0 5) = 1 → (OkV M4_readBand [mR 24 0] h (fun h3 => OkV M4_takeStop [mR 24 0] h3 (fun h4 => K h4)))) ∧ ((h 24 0 5) = 2 → (OkV M4_readJoin [mR 24 0] h (fun h5 => OkV M4_takeStop [mR 24 0] h5 (fun h6 => K h6)))) ∧ ((h 24 0 5) = 3 → (OkV M4_readRisk [mR 24 0] h (fun h7 => OkV M4_takeStop [mR 24 0] h7 (fun h8 => K h8)))) ∧ ((h 24 0 5) < 0 ∨ 3 < (h 24 0 5) → (OkV M4_readSetting [mR 24 0, mI (h 24 0 5)] h (fun h9 => OkV M4_takeStop [mR 24 0] h9 (fun h10 => K h10)))))) ∧ (¬ (h 24 0 4) = 1 → (OkV M4_fail [mR 24 0, mI 1] h (fun h11 => K h11)))) : OkV M4_readLine [mR 24 0] h K := by
  refine Ok.of rfl (n := 0) rfl ?_
  show At (mPV K) M4_readLine 0 [mR 24 0] [] h
  refine mw_aload_n (dT d4_readLine 0 rfl) rfl (by decide) ?_
  refine mw_getI fl_X4_62 (dT d4_readLine 1 rfl) ?_
  refine mw_iconst (dT d4_readLine 2 rfl) ?_
  obtain ⟨z, T1, T2⟩ := T
  refine mw_icmp_eq 14 (dT d4_readLine 3 rfl) (by decide) ⟨z, by decide⟩ (fun z => ?_) (fun z => ?_)
  · have T := T1 z
    refine mw_aload_n (dT d4_readLine 8 rfl) rfl (by decide) ?_
    refine mw_getI fl_X4_75 (dT d4_readLine 9 rfl) ?_
    obtain ⟨z, T0, T1, T2, T3, Td⟩ := T
    by_cases y0 : (h 24 0 5) = 0
    · have T := T0 y0
      refine mw_tableIn 48 (dT d4_readLine 10 rfl) z (by omega) (by omega) (by rw [y0]; rfl) (by decide) ?_
      refine mw_aload_n (dT d4_readLine 11 rfl) rfl (by decide) ?_
      refine mw_callVV mv_4_readFactor ml_X4_88 (by decide) (dT d4_readLine 12 rfl) (as := []) rfl rfl T (fun h1 T => ?_)
      refine mw_goto 84 (dT d4_readLine 13 rfl) (by decide) ?_
      refine mw_aload_n (dT d4_readLine 27 rfl) rfl (by decide) ?_
      refine mw_callVV mv_4_takeStop ml_X4_103 (by decide) (dT d4_readLine 28 rfl) (as := []) rfl rfl T (fun h2 T => ?_)
      exact mw_vret rfl (dT d4_readLine 29 rfl) ⟨rfl, T⟩
    by_cases y1 : (h 24 0 5) = 1
    · have T := T1 y1
      refine mw_tableIn 55 (dT d4_readLine 10 rfl) z (by omega) (by omega) (by rw [y1]; rfl) (by decide) ?_
      refine mw_aload_n (dT d4_readLine 14 rfl) rfl (by decide) ?_
      refine mw_callVV mv_4_readBand ml_X4_91 (by decide) (dT d4_readLine 15 rfl) (as := []) rfl rfl T (fun h3 T => ?_)
      refine mw_goto 84 (dT d4_readLine 16 rfl) (by decide) ?_
      refine mw_aload_n (dT d4_readLine 27 rfl) rfl (by decide) ?_
      refine mw_callVV mv_4_takeStop ml_X4_103 (by decide) (dT d4_readLine 28 rfl) (as := []) rfl rfl T (fun h4 T => ?_)
      exact mw_vret rfl (dT d4_readLine 29 rfl) ⟨rfl, T⟩
    by_cases y2 : (h 24 0 5) = 2
    · have T := T2 y2
      refine mw_tableIn 62 (dT d4_readLine 10 rfl) z (by omega) (by omega) (by rw [y2]; rfl) (by decide) ?_
      refine mw_aload_n (dT d4_readLine 17 rfl) rfl (by decide) ?_
      refine mw_callVV mv_4_readJoin ml_X4_94 (by decide) (dT d4_readLine 18 rfl) (as := []) rfl rfl T (fun h5 T => ?_)
      refine mw_goto 84 (dT d4_readLine 19 rfl) (by decide) ?_
      refine mw_aload_n (dT d4_readLine 27 rfl) rfl (by decide) ?_
      refine mw_callVV mv_4_takeStop ml_X4_103 (by decide) (dT d4_readLine 28 rfl) (as := []) rfl rfl T (fun h6 T => ?_)
      exact mw_vret rfl (dT d4_readLine 29 rfl) ⟨rfl, T⟩
    by_cases y3 : (h 24 0 5) = 3
    · have T := T3 y3
      refine mw_tableIn 69 (dT d4_readLine 10 rfl) z (by omega) (by omega) (by rw [y3]; rfl) (by decide) ?_
      refine mw_aload_n (dT d4_readLine 20 rfl) rfl (by decide) ?_
      refine mw_callVV mv_4_readRisk ml_X4_97 (by decide) (dT d4_readLine 21 rfl) (as := []) rfl rfl T (fun h7 T => ?_)
      refine mw_goto 84 (dT d4_readLine 22 rfl) (by decide) ?_
      refine mw_aload_n (dT d4_readLine 27 rfl) rfl (by decide) ?_
      refine mw_callVV mv_4_takeStop ml_X4_103 (by decide) (dT d4_readLine 28 rfl) (as := []) rfl rfl T (fun h8 T => ?_)
      exact mw_vret rfl (dT d4_readLine 29 rfl) ⟨rfl, T⟩
    have yd : (h 24 0 5) < 0 ∨ 3 < (h 24 0 5) := by omega
    have T := Td yd
    refine mw_tableOut 76 (dT d4_readLine 10 rfl) z yd (by decide) ?_
    refine mw_aload_n (dT d4_readLine 23 rfl) rfl (by decide) ?_
    refine mw_aload_n (dT d4_readLine 24 rfl) rfl (by decide) ?_
    refine mw_getI fl_X4_75 (dT d4_readLine 25 rfl) ?_
    refine mw_callVV mv_4_readSetting ml_X4_100 (by decide) (dT d4_readLine 26 rfl) (as := [mI _]) rfl rfl T (fun h9 T => ?_)
    refine mw_aload_n (dT d4_readLine 27 rfl) rfl (by decide) ?_
    refine mw_callVV mv_4_takeStop ml_X4_103 (by decide) (dT d4_readLine 28 rfl) (as := []) rfl rfl T (fun h10 T => ?_)
    exact mw_vret rfl (dT d4_readLine 29 rfl) ⟨rfl, T⟩
  · have T := T2 z
    refine mw_aload_n (dT d4_readLine 4 rfl) rfl (by decide) ?_
    refine mw_iconst (dT d4_readLine 5 rfl) ?_
    refine mw_callVV mv_4_fail ml_X4_84 (by decide) (dT d4_readLine 6 rfl) (as := [mI _]) rfl rfl T (fun h11 T => ?_)
    exact mw_vret rfl (dT d4_readLine 7 rfl) ⟨rfl, T⟩
theorem s4_takeStop {K : mH → Prop} {h : mH} (T : (mInR (h 24 0 4)) ∧ ((h 24 0 4) = 4 → ((mInR (h 24 0 9)) ∧ (¬ (h 24 0 9) = 0 → (K h)) ∧ ((h 24 0 9) = 0 → (OkV M4_advance [mR 24 0] h (fun h1 => K h1))))) ∧ (¬ (h 24 0 4) = 4 → (OkV M4_fail [mR 24 0, mI 1] h (fun h2 => (mInR (h2 24 0 9)) ∧ (¬ (h2 24 0 9) = 0 → (K h2)) ∧ ((h2 24 0 9) = 0 → (OkV M4_advance [mR 24 0] h2 (fun h3 => K h3))))))) : OkV M4_takeStop [mR 24 0] h K := by
  refine Ok.of rfl (n := 0) rfl ?_
  show At (mPV K) M4_takeStop 0 [mR 24 0] [] h
  refine mw_aload_n (dT d4_takeStop 0 rfl) rfl (by decide) ?_
  refine mw_getI fl_X4_62 (dT d4_takeStop 1 rfl) ?_
  refine mw_iconst (dT d4_takeStop 2 rfl) ?_
  obtain ⟨z, T1, T2⟩ := T
  refine mw_icmp_eq 13 (dT d4_takeStop 3 rfl) (by decide) ⟨z, by decide⟩ (fun z => ?_) (fun z => ?_)
  · have T := T1 z
    refine mw_aload_n (dT d4_takeStop 7 rfl) rfl (by decide) ?_
    refine mw_getI fl_X4_43 (dT d4_takeStop 8 rfl) ?_
    obtain ⟨z, T1, T2⟩ := T
    refine mw_if_ne 24 (dT d4_takeStop 9 rfl) (by decide) z (fun z => ?_) (fun z => ?_)
    · have T := T1 z
      exact mw_vret rfl (dT d4_takeStop 12 rfl) ⟨rfl, T⟩
    · have T := T2 z
      refine mw_aload_n (dT d4_takeStop 10 rfl) rfl (by decide) ?_
      refine mw_callVV mv_4_advance ml_X4_56 (by decide) (dT d4_takeStop 11 rfl) (as := []) rfl rfl T (fun h1 T => ?_)
      exact mw_vret rfl (dT d4_takeStop 12 rfl) ⟨rfl, T⟩
  · have T := T2 z
    refine mw_aload_n (dT d4_takeStop 4 rfl) rfl (by decide) ?_
    refine mw_iconst (dT d4_takeStop 5 rfl) ?_
    refine mw_callVV mv_4_fail ml_X4_84 (by decide) (dT d4_takeStop 6 rfl) (as := [mI _]) rfl rfl T (fun h2 T => ?_)
    refine mw_aload_n (dT d4_takeStop 7 rfl) rfl (by decide) ?_
    refine mw_getI fl_X4_43 (dT d4_takeStop 8 rfl) ?_
    obtain ⟨z, T1, T2⟩ := T
    refine mw_if_ne 24 (dT d4_takeStop 9 rfl) (by decide) z (fun z => ?_) (fun z => ?_)
    · have T := T1 z
      exact mw_vret rfl (dT d4_takeStop 12 rfl) ⟨rfl, T⟩
    · have T := T2 z
      refine mw_aload_n (dT d4_takeStop 10 rfl) rfl (by decide) ?_
      refine mw_callVV mv_4_advance ml_X4_56 (by decide) (dT d4_takeStop 11 rfl) (as := []) rfl rfl T (fun h3 T => ?_)
      exact mw_vret rfl (dT d4_takeStop 12 rfl) ⟨rfl, T⟩
abbrev A4_takeNumber_32 (K : Int → mH → Prop) (x1 x2 : Int) (h : mH) : Prop := At (mPI K) M4_takeNumber 32 [mR 24 0, mI x1, mI x2, mU] [] h
theorem s4_takeNumber_32 {K : Int → mH → Prop} {x1 x2 : Int} {h : mH} (T : OkV M4_fail [mR 24 0, mI 2] h (fun h1 => (mInR (h1 24 0 9)) ∧ ((h1 24 0 9) = 0 → (OkV M4_advance [mR 24 0] h1 (fun h2 => K (h1 24 0 5) h2))) ∧ (¬ (h1 24 0 9) = 0 → (K x1 h1)))) : A4_takeNumber_32 K x1 x2 h := by
  refine mw_aload_n (dT d4_takeNumber 16 rfl) rfl (by decide) ?_
  refine mw_iconst (dT d4_takeNumber 17 rfl) ?_
  refine mw_callVV mv_4_fail ml_X4_84 (by decide) (dT d4_takeNumber 18 rfl) (as := [mI _]) rfl rfl T (fun h1 T => ?_)
  refine mw_aload_n (dT d4_takeNumber 19 rfl) rfl (by decide) ?_
  refine mw_getI fl_X4_43 (dT d4_takeNumber 20 rfl) ?_
  obtain ⟨z, T1, T2⟩ := T
  refine mw_if_eq 46 (dT d4_takeNumber 21 rfl) (by decide) z (fun z => ?_) (fun z => ?_)
  · have T := T1 z
    refine mw_aload_n (dT d4_takeNumber 24 rfl) rfl (by decide) ?_
    refine mw_getI fl_X4_75 (dT d4_takeNumber 25 rfl) ?_
    refine mw_istore_n (dT d4_takeNumber 26 rfl) (by decide) ?_
    refine mw_aload_n (dT d4_takeNumber 27 rfl) rfl (by decide) ?_
    refine mw_callVV mv_4_advance ml_X4_56 (by decide) (dT d4_takeNumber 28 rfl) (as := []) rfl rfl T (fun h2 T => ?_)
    refine mw_iload_n (dT d4_takeNumber 29 rfl) rfl ?_
    exact mw_iret rfl (dT d4_takeNumber 30 rfl) ⟨_, rfl, T⟩
  · have T := T2 z
    refine mw_iload_n (dT d4_takeNumber 22 rfl) rfl ?_
    exact mw_iret rfl (dT d4_takeNumber 23 rfl) ⟨_, rfl, T⟩
theorem s4_takeNumber {K : Int → mH → Prop} {x1 : Int} {x2 : Int} {h : mH} (T : (mInR (h 24 0 4)) ∧ ((h 24 0 4) = 3 → ((mInR (h 24 0 5) ∧ mInR x1) ∧ ((h 24 0 5) < x1 → (A4_takeNumber_32 K x1 x2 h)) ∧ (¬ (h 24 0 5) < x1 → ((mInR (h 24 0 5) ∧ mInR x2) ∧ ((h 24 0 5) ≤ x2 → ((mInR (h 24 0 9)) ∧ ((h 24 0 9) = 0 → (OkV M4_advance [mR 24 0] h (fun h1 => K (h 24 0 5) h1))) ∧ (¬ (h 24 0 9) = 0 → (K x1 h)))) ∧ (¬ (h 24 0 5) ≤ x2 → (A4_takeNumber_32 K x1 x2 h)))))) ∧ (¬ (h 24 0 4) = 3 → (OkV M4_fail [mR 24 0, mI 1] h (fun h2 => (mInR (h2 24 0 9)) ∧ ((h2 24 0 9) = 0 → (OkV M4_advance [mR 24 0] h2 (fun h3 => K (h2 24 0 5) h3))) ∧ (¬ (h2 24 0 9) = 0 → (K x1 h2)))))) : OkI M4_takeNumber [mR 24 0, mI x1, mI x2] h K := by
  refine Ok.of rfl (n := 1) rfl ?_
  show At (mPI K) M4_takeNumber 0 [mR 24 0, mI x1, mI x2, mU] [] h
  refine mw_aload_n (dT d4_takeNumber 0 rfl) rfl (by decide) ?_
  refine mw_getI fl_X4_62 (dT d4_takeNumber 1 rfl) ?_
  refine mw_iconst (dT d4_takeNumber 2 rfl) ?_
  obtain ⟨z, T1, T2⟩ := T
  refine mw_icmp_eq 16 (dT d4_takeNumber 3 rfl) (by decide) ⟨z, by decide⟩ (fun z => ?_) (fun z => ?_)
  · have T := T1 z
    refine mw_aload_n (dT d4_takeNumber 8 rfl) rfl (by decide) ?_
    refine mw_getI fl_X4_75 (dT d4_takeNumber 9 rfl) ?_
    refine mw_iload_n (dT d4_takeNumber 10 rfl) rfl ?_
    obtain ⟨z, T1, T2⟩ := T
    refine mw_icmp_lt 32 (dT d4_takeNumber 11 rfl) (by decide) z (fun z => ?_) (fun z => ?_)
    · have T := T1 z
      exact T
    · have T := T2 z
      refine mw_aload_n (dT d4_takeNumber 12 rfl) rfl (by decide) ?_
      refine mw_getI fl_X4_75 (dT d4_takeNumber 13 rfl) ?_
      refine mw_iload_n (dT d4_takeNumber 14 rfl) rfl ?_
      obtain ⟨z, T1, T2⟩ := T
      refine mw_icmp_le 37 (dT d4_takeNumber 15 rfl) (by decide) z (fun z => ?_) (fun z => ?_)
      · have T := T1 z
        refine mw_aload_n (dT d4_takeNumber 19 rfl) rfl (by decide) ?_
        refine mw_getI fl_X4_43 (dT d4_takeNumber 20 rfl) ?_
        obtain ⟨z, T1, T2⟩ := T
        refine mw_if_eq 46 (dT d4_takeNumber 21 rfl) (by decide) z (fun z => ?_) (fun z => ?_)
        · have T := T1 z
          refine mw_aload_n (dT d4_takeNumber 24 rfl) rfl (by decide) ?_
          refine mw_getI fl_X4_75 (dT d4_takeNumber 25 rfl) ?_
          refine mw_istore_n (dT d4_takeNumber 26 rfl) (by decide) ?_
          refine mw_aload_n (dT d4_takeNumber 27 rfl) rfl (by decide) ?_
          refine mw_callVV mv_4_advance ml_X4_56 (by decide) (dT d4_takeNumber 28 rfl) (as := []) rfl rfl T (fun h1 T => ?_)
          refine mw_iload_n (dT d4_takeNumber 29 rfl) rfl ?_
          exact mw_iret rfl (dT d4_takeNumber 30 rfl) ⟨_, rfl, T⟩
        · have T := T2 z
          refine mw_iload_n (dT d4_takeNumber 22 rfl) rfl ?_
          exact mw_iret rfl (dT d4_takeNumber 23 rfl) ⟨_, rfl, T⟩
      · have T := T2 z
        exact T
  · have T := T2 z
    refine mw_aload_n (dT d4_takeNumber 4 rfl) rfl (by decide) ?_
    refine mw_iconst (dT d4_takeNumber 5 rfl) ?_
    refine mw_callVV mv_4_fail ml_X4_84 (by decide) (dT d4_takeNumber 6 rfl) (as := [mI _]) rfl rfl T (fun h2 T => ?_)
    refine mw_goto 37 (dT d4_takeNumber 7 rfl) (by decide) ?_
    refine mw_aload_n (dT d4_takeNumber 19 rfl) rfl (by decide) ?_
    refine mw_getI fl_X4_43 (dT d4_takeNumber 20 rfl) ?_
    obtain ⟨z, T1, T2⟩ := T
    refine mw_if_eq 46 (dT d4_takeNumber 21 rfl) (by decide) z (fun z => ?_) (fun z => ?_)
    · have T := T1 z
      refine mw_aload_n (dT d4_takeNumber 24 rfl) rfl (by decide) ?_
      refine mw_getI fl_X4_75 (dT d4_takeNumber 25 rfl) ?_
      refine mw_istore_n (dT d4_takeNumber 26 rfl) (by decide) ?_
      refine mw_aload_n (dT d4_takeNumber 27 rfl) rfl (by decide) ?_
      refine mw_callVV mv_4_advance ml_X4_56 (by decide) (dT d4_takeNumber 28 rfl) (as := []) rfl rfl T (fun h3 T => ?_)
      refine mw_iload_n (dT d4_takeNumber 29 rfl) rfl ?_
      exact mw_iret rfl (dT d4_takeNumber 30 rfl) ⟨_, rfl, T⟩
    · have T := T2 z
      refine mw_iload_n (dT d4_takeNumber 22 rfl) rfl ?_
      exact mw_iret rfl (dT d4_takeNumber 23 rfl) ⟨_, rfl, T⟩
abbrev A4_factorHere_23 (K : Int → mH → Prop) (s0 : Int) (h : mH) : Prop := At (mPI K) M4_factorHere 23 [mR 24 0, mU] [mI s0] h
theorem s4_factorHere_23 {K : Int → mH → Prop} {s0 : Int} {h : mH} (T : (mInR (h 24 0 4)) ∧ ((h 24 0 4) = 2 → ((mInR s0) ∧ (¬ s0 = ((-1)) → (K s0 h)) ∧ (s0 = ((-1)) → (OkV M4_fail [mR 24 0, mI 4] h (fun h1 => K s0 h1))))) ∧ (¬ (h 24 0 4) = 2 → (OkV M4_fail [mR 24 0, mI 1] h (fun h2 => K s0 h2)))) : A4_factorHere_23 K s0 h := by
  refine mw_istore_n (dT d4_factorHere 11 rfl) (by decide) ?_
  refine mw_aload_n (dT d4_factorHere 12 rfl) rfl (by decide) ?_
  refine mw_getI fl_X4_62 (dT d4_factorHere 13 rfl) ?_
  refine mw_iconst (dT d4_factorHere 14 rfl) ?_
  obtain ⟨z, T1, T2⟩ := T
  refine mw_icmp_eq 40 (dT d4_factorHere 15 rfl) (by decide) ⟨z, by decide⟩ (fun z => ?_) (fun z => ?_)
  · have T := T1 z
    refine mw_iload_n (dT d4_factorHere 20 rfl) rfl ?_
    refine mw_iconst (dT d4_factorHere 21 rfl) ?_
    obtain ⟨z, T1, T2⟩ := T
    refine mw_icmp_ne 50 (dT d4_factorHere 22 rfl) (by decide) ⟨z, by decide⟩ (fun z => ?_) (fun z => ?_)
    · have T := T1 z
      refine mw_iload_n (dT d4_factorHere 26 rfl) rfl ?_
      exact mw_iret rfl (dT d4_factorHere 27 rfl) ⟨_, rfl, T⟩
    · have T := T2 z
      refine mw_aload_n (dT d4_factorHere 23 rfl) rfl (by decide) ?_
      refine mw_iconst (dT d4_factorHere 24 rfl) ?_
      refine mw_callVV mv_4_fail ml_X4_84 (by decide) (dT d4_factorHere 25 rfl) (as := [mI _]) rfl rfl T (fun h1 T => ?_)
      refine mw_iload_n (dT d4_factorHere 26 rfl) rfl ?_
      exact mw_iret rfl (dT d4_factorHere 27 rfl) ⟨_, rfl, T⟩
  · have T := T2 z
    refine mw_aload_n (dT d4_factorHere 16 rfl) rfl (by decide) ?_
    refine mw_iconst (dT d4_factorHere 17 rfl) ?_
    refine mw_callVV mv_4_fail ml_X4_84 (by decide) (dT d4_factorHere 18 rfl) (as := [mI _]) rfl rfl T (fun h2 T => ?_)
    refine mw_goto 50 (dT d4_factorHere 19 rfl) (by decide) ?_
    refine mw_iload_n (dT d4_factorHere 26 rfl) rfl ?_
    exact mw_iret rfl (dT d4_factorHere 27 rfl) ⟨_, rfl, T⟩
theorem s4_factorHere {K : Int → mH → Prop} {h : mH} (T : (mInR (h 24 0 4)) ∧ (¬ (h 24 0 4) = 2 → (A4_factorHere_23 K ((-1)) h)) ∧ ((h 24 0 4) = 2 → (OkI M3_find [mR 7 1, mI (h 24 0 5)] h (fun v1 h1 => A4_factorHere_23 K v1 h1)))) : OkI M4_factorHere [mR 24 0] h K := by
  refine Ok.of rfl (n := 1) rfl ?_
  show At (mPI K) M4_factorHere 0 [mR 24 0, mU] [] h
  refine mw_aload_n (dT d4_factorHere 0 rfl) rfl (by decide) ?_
  refine mw_getI fl_X4_62 (dT d4_factorHere 1 rfl) ?_
  refine mw_iconst (dT d4_factorHere 2 rfl) ?_
  obtain ⟨z, T1, T2⟩ := T
  refine mw_icmp_ne 22 (dT d4_factorHere 3 rfl) (by decide) ⟨z, by decide⟩ (fun z => ?_) (fun z => ?_)
  · have T := T1 z
    refine mw_iconst (dT d4_factorHere 10 rfl) ?_
    exact T
  · have T := T2 z
    refine mw_aload_n (dT d4_factorHere 4 rfl) rfl (by decide) ?_
    refine mw_getR fl_X4_21 (dT d4_factorHere 5 rfl) ?_
    refine mw_aload_n (dT d4_factorHere 6 rfl) rfl (by decide) ?_
    refine mw_getI fl_X4_75 (dT d4_factorHere 7 rfl) ?_
    refine mw_callVI mv_3_find ml_X4_106 (by decide) (dT d4_factorHere 8 rfl) (as := [mI _]) rfl rfl T (fun v1 h1 T => ?_)
    refine mw_goto 23 (dT d4_factorHere 9 rfl) (by decide) ?_
    exact T
theorem s4_readFactor {K : mH → Prop} {h : mH} (T : (mInR (h 1 2 0)) ∧ ((h 1 2 0) ≤ 0 → ((mInR (h 7 1 0)) ∧ ((h 7 1 0) < 4 → (OkV M4_advance [mR 24 0] h (fun h1 => (mInR (h1 24 0 4)) ∧ ((h1 24 0 4) = 2 → (OkI M3_find [mR 7 1, mI (h1 24 0 5)] h1 (fun v1 h2 => (mInR v1) ∧ (v1 = ((-1)) → (OkV M4_advance [mR 24 0] h2 (fun h3 => OkI M4_takeNumber [mR 24 0, mI 1, mI 6] h3 (fun v2 h4 => OkV M3_addFactor [mR 7 1, mI (h1 24 0 5), mI v2] h4 (fun h5 => K h5))))) ∧ (¬ v1 = ((-1)) → (OkV M4_fail [mR 24 0, mI 3] h2 (fun h6 => K h6)))))) ∧ (¬ (h1 24 0 4) = 2 → (OkV M4_fail [mR 24 0, mI 1] h1 (fun h7 => K h7)))))) ∧ (¬ (h 7 1 0) < 4 → (OkV M4_fail [mR 24 0, mI 2] h (fun h8 => K h8))))) ∧ (¬ (h 1 2 0) ≤ 0 → (OkV M4_fail [mR 24 0, mI 1] h (fun h9 => K h9)))) : OkV M4_readFactor [mR 24 0] h K := by
  refine Ok.of rfl (n := 1) rfl ?_
  show At (mPV K) M4_readFactor 0 [mR 24 0, mU] [] h
  refine mw_aload_n (dT d4_readFactor 0 rfl) rfl (by decide) ?_
  refine mw_getR fl_X4_28 (dT d4_readFactor 1 rfl) ?_
  refine mw_getI fl_X4_110 (dT d4_readFactor 2 rfl) ?_
  obtain ⟨z, T1, T2⟩ := T
  refine mw_if_le 16 (dT d4_readFactor 3 rfl) (by decide) z (fun z => ?_) (fun z => ?_)
  · have T := T1 z
    refine mw_aload_n (dT d4_readFactor 8 rfl) rfl (by decide) ?_
    refine mw_getR fl_X4_21 (dT d4_readFactor 9 rfl) ?_
    refine mw_getI fl_X4_113 (dT d4_readFactor 10 rfl) ?_
    refine mw_iconst (dT d4_readFactor 11 rfl) ?_
    obtain ⟨z, T1, T2⟩ := T
    refine mw_icmp_lt 33 (dT d4_readFactor 12 rfl) (by decide) ⟨z, by decide⟩ (fun z => ?_) (fun z => ?_)
    · have T := T1 z
      refine mw_aload_n (dT d4_readFactor 17 rfl) rfl (by decide) ?_
      refine mw_callVV mv_4_advance ml_X4_56 (by decide) (dT d4_readFactor 18 rfl) (as := []) rfl rfl T (fun h1 T => ?_)
      refine mw_aload_n (dT d4_readFactor 19 rfl) rfl (by decide) ?_
      refine mw_getI fl_X4_75 (dT d4_readFactor 20 rfl) ?_
      refine mw_istore_n (dT d4_readFactor 21 rfl) (by decide) ?_
      refine mw_aload_n (dT d4_readFactor 22 rfl) rfl (by decide) ?_
      refine mw_getI fl_X4_62 (dT d4_readFactor 23 rfl) ?_
      refine mw_iconst (dT d4_readFactor 24 rfl) ?_
      obtain ⟨z, T1, T2⟩ := T
      refine mw_icmp_eq 56 (dT d4_readFactor 25 rfl) (by decide) ⟨z, by decide⟩ (fun z => ?_) (fun z => ?_)
      · have T := T1 z
        refine mw_aload_n (dT d4_readFactor 30 rfl) rfl (by decide) ?_
        refine mw_getR fl_X4_21 (dT d4_readFactor 31 rfl) ?_
        refine mw_iload_n (dT d4_readFactor 32 rfl) rfl ?_
        refine mw_callVI mv_3_find ml_X4_106 (by decide) (dT d4_readFactor 33 rfl) (as := [mI _]) rfl rfl T (fun v1 h2 T => ?_)
        refine mw_iconst (dT d4_readFactor 34 rfl) ?_
        obtain ⟨z, T1, T2⟩ := T
        refine mw_icmp_eq 74 (dT d4_readFactor 35 rfl) (by decide) ⟨z, by decide⟩ (fun z => ?_) (fun z => ?_)
        · have T := T1 z
          refine mw_aload_n (dT d4_readFactor 40 rfl) rfl (by decide) ?_
          refine mw_callVV mv_4_advance ml_X4_56 (by decide) (dT d4_readFactor 41 rfl) (as := []) rfl rfl T (fun h3 T => ?_)
          refine mw_aload_n (dT d4_readFactor 42 rfl) rfl (by decide) ?_
          refine mw_getR fl_X4_21 (dT d4_readFactor 43 rfl) ?_
          refine mw_iload_n (dT d4_readFactor 44 rfl) rfl ?_
          refine mw_aload_n (dT d4_readFactor 45 rfl) rfl (by decide) ?_
          refine mw_iconst (dT d4_readFactor 46 rfl) ?_
          refine mw_bipush (by decide) (dT d4_readFactor 47 rfl) ?_
          refine mw_callVI mv_4_takeNumber ml_X4_116 (by decide) (dT d4_readFactor 48 rfl) (as := [mI _, mI _]) rfl rfl T (fun v2 h4 T => ?_)
          refine mw_callVV mv_3_addFactor ml_X4_120 (by decide) (dT d4_readFactor 49 rfl) (as := [mI _, mI _]) rfl rfl T (fun h5 T => ?_)
          exact mw_vret rfl (dT d4_readFactor 50 rfl) ⟨rfl, T⟩
        · have T := T2 z
          refine mw_aload_n (dT d4_readFactor 36 rfl) rfl (by decide) ?_
          refine mw_iconst (dT d4_readFactor 37 rfl) ?_
          refine mw_callVV mv_4_fail ml_X4_84 (by decide) (dT d4_readFactor 38 rfl) (as := [mI _]) rfl rfl T (fun h6 T => ?_)
          exact mw_vret rfl (dT d4_readFactor 39 rfl) ⟨rfl, T⟩
      · have T := T2 z
        refine mw_aload_n (dT d4_readFactor 26 rfl) rfl (by decide) ?_
        refine mw_iconst (dT d4_readFactor 27 rfl) ?_
        refine mw_callVV mv_4_fail ml_X4_84 (by decide) (dT d4_readFactor 28 rfl) (as := [mI _]) rfl rfl T (fun h7 T => ?_)
        exact mw_vret rfl (dT d4_readFactor 29 rfl) ⟨rfl, T⟩
    · have T := T2 z
      refine mw_aload_n (dT d4_readFactor 13 rfl) rfl (by decide) ?_
      refine mw_iconst (dT d4_readFactor 14 rfl) ?_
      refine mw_callVV mv_4_fail ml_X4_84 (by decide) (dT d4_readFactor 15 rfl) (as := [mI _]) rfl rfl T (fun h8 T => ?_)
      exact mw_vret rfl (dT d4_readFactor 16 rfl) ⟨rfl, T⟩
  · have T := T2 z
    refine mw_aload_n (dT d4_readFactor 4 rfl) rfl (by decide) ?_
    refine mw_iconst (dT d4_readFactor 5 rfl) ?_
    refine mw_callVV mv_4_fail ml_X4_84 (by decide) (dT d4_readFactor 6 rfl) (as := [mI _]) rfl rfl T (fun h9 T => ?_)
    exact mw_vret rfl (dT d4_readFactor 7 rfl) ⟨rfl, T⟩
theorem s4_readBand {K : mH → Prop} {h : mH} (T : OkV M4_advance [mR 24 0] h (fun h1 => OkI M4_factorHere [mR 24 0] h1 (fun v1 h2 => OkI M3_hasFactor [mR 7 1, mI v1] h2 (fun v2 h3 => (mInR v2) ∧ (¬ v2 = 0 → ((mInR (mAnd (mShr (h3 24 0 8) v1) 1)) ∧ ((mAnd (mShr (h3 24 0 8) v1) 1) = 0 → (∀ h4 : mH, h4 = mSet h3 24 0 8 (mOr (h3 24 0 8) (mShl 1 v1)) → (OkV M4_advance [mR 24 0] h4 (fun h5 => OkI M4_takeNumber [mR 24 0, mI 1, mI 10000] h5 (fun v3 h6 => (0 ≤ v1 ∧ v1 < 4) ∧ (∀ h7 : mH, h7 = mSet h6 10 1 v1 v3 → (OkI M4_takeNumber [mR 24 0, mI 10000, mI 99999] h7 (fun v4 h8 => (0 ≤ v1 ∧ v1 < 4) ∧ (∀ h9 : mH, h9 = mSet h8 11 1 v1 v4 → (K h9)))))))))) ∧ (¬ (mAnd (mShr (h3 24 0 8) v1) 1) = 0 → (OkV M4_fail [mR 24 0, mI 3] h3 (fun h10 => K h10))))) ∧ (v2 = 0 → (K h3)))))) : OkV M4_readBand [mR 24 0] h K := by
  refine Ok.of rfl (n := 1) rfl ?_
  show At (mPV K) M4_readBand 0 [mR 24 0, mU] [] h
  refine mw_aload_n (dT d4_readBand 0 rfl) rfl (by decide) ?_
  refine mw_callVV mv_4_advance ml_X4_56 (by decide) (dT d4_readBand 1 rfl) (as := []) rfl rfl T (fun h1 T => ?_)
  refine mw_aload_n (dT d4_readBand 2 rfl) rfl (by decide) ?_
  refine mw_callVI mv_4_factorHere ml_X4_124 (by decide) (dT d4_readBand 3 rfl) (as := []) rfl rfl T (fun v1 h2 T => ?_)
  refine mw_istore_n (dT d4_readBand 4 rfl) (by decide) ?_
  refine mw_aload_n (dT d4_readBand 5 rfl) rfl (by decide) ?_
  refine mw_getR fl_X4_21 (dT d4_readBand 6 rfl) ?_
  refine mw_iload_n (dT d4_readBand 7 rfl) rfl ?_
  refine mw_callVI mv_3_hasFactor ml_X4_128 (by decide) (dT d4_readBand 8 rfl) (as := [mI _]) rfl rfl T (fun v2 h3 T => ?_)
  obtain ⟨z, T1, T2⟩ := T
  refine mw_if_ne 21 (dT d4_readBand 9 rfl) (by decide) z (fun z => ?_) (fun z => ?_)
  · have T := T1 z
    refine mw_aload_n (dT d4_readBand 11 rfl) rfl (by decide) ?_
    refine mw_getI fl_X4_40 (dT d4_readBand 12 rfl) ?_
    refine mw_iload_n (dT d4_readBand 13 rfl) rfl ?_
    refine mw_ishr (dT d4_readBand 14 rfl) ?_
    refine mw_iconst (dT d4_readBand 15 rfl) ?_
    refine mw_iand (dT d4_readBand 16 rfl) ?_
    obtain ⟨z, T1, T2⟩ := T
    refine mw_if_eq 38 (dT d4_readBand 17 rfl) (by decide) z (fun z => ?_) (fun z => ?_)
    · have T := T1 z
      refine mw_aload_n (dT d4_readBand 22 rfl) rfl (by decide) ?_
      refine mw_dup (dT d4_readBand 23 rfl) (fun _ z => by cases z) ?_
      refine mw_getI fl_X4_40 (dT d4_readBand 24 rfl) ?_
      refine mw_iconst (dT d4_readBand 25 rfl) ?_
      refine mw_iload_n (dT d4_readBand 26 rfl) rfl ?_
      refine mw_ishl (dT d4_readBand 27 rfl) ?_
      refine mw_ior (dT d4_readBand 28 rfl) ?_
      have T := T _ rfl
      refine mw_putI fp_X4_40 (dT d4_readBand 29 rfl) ?_
      refine mw_aload_n (dT d4_readBand 30 rfl) rfl (by decide) ?_
      refine mw_callVV mv_4_advance ml_X4_56 (by decide) (dT d4_readBand 31 rfl) (as := []) rfl rfl T (fun h5 T => ?_)
      refine mw_aload_n (dT d4_readBand 32 rfl) rfl (by decide) ?_
      refine mw_getR fl_X4_21 (dT d4_readBand 33 rfl) ?_
      refine mw_getR fl_X4_132 (dT d4_readBand 34 rfl) ?_
      refine mw_iload_n (dT d4_readBand 35 rfl) rfl ?_
      refine mw_aload_n (dT d4_readBand 36 rfl) rfl (by decide) ?_
      refine mw_iconst (dT d4_readBand 37 rfl) ?_
      refine mw_sipush (by decide) (dT d4_readBand 38 rfl) ?_
      refine mw_callVI mv_4_takeNumber ml_X4_116 (by decide) (dT d4_readBand 39 rfl) (as := [mI _, mI _]) rfl rfl T (fun v3 h6 T => ?_)
      obtain ⟨z, T⟩ := T
      have T := T _ rfl
      refine mw_iastore ro_10 (dT d4_readBand 40 rfl) z ?_
      refine mw_aload_n (dT d4_readBand 41 rfl) rfl (by decide) ?_
      refine mw_getR fl_X4_21 (dT d4_readBand 42 rfl) ?_
      refine mw_getR fl_X4_135 (dT d4_readBand 43 rfl) ?_
      refine mw_iload_n (dT d4_readBand 44 rfl) rfl ?_
      refine mw_aload_n (dT d4_readBand 45 rfl) rfl (by decide) ?_
      refine mw_sipush (by decide) (dT d4_readBand 46 rfl) ?_
      refine mw_ldc kc_X4_138 (dT d4_readBand 47 rfl) ?_
      refine mw_callVI mv_4_takeNumber ml_X4_116 (by decide) (dT d4_readBand 48 rfl) (as := [mI _, mI _]) rfl rfl T (fun v4 h8 T => ?_)
      obtain ⟨z, T⟩ := T
      have T := T _ rfl
      refine mw_iastore ro_11 (dT d4_readBand 49 rfl) z ?_
      exact mw_vret rfl (dT d4_readBand 50 rfl) ⟨rfl, T⟩
    · have T := T2 z
      refine mw_aload_n (dT d4_readBand 18 rfl) rfl (by decide) ?_
      refine mw_iconst (dT d4_readBand 19 rfl) ?_
      refine mw_callVV mv_4_fail ml_X4_84 (by decide) (dT d4_readBand 20 rfl) (as := [mI _]) rfl rfl T (fun h10 T => ?_)
      exact mw_vret rfl (dT d4_readBand 21 rfl) ⟨rfl, T⟩
  · have T := T2 z
    exact mw_vret rfl (dT d4_readBand 10 rfl) ⟨rfl, T⟩
abbrev A4_readJoin_68 (K : mH → Prop) (x1 x2 : Int) (h : mH) : Prop := At (mPV K) M4_readJoin 68 [mR 24 0, mI x1, mI x2] [] h
theorem s4_readJoin_68 {K : mH → Prop} {x1 x2 : Int} {h : mH} (T : (0 ≤ x1 ∧ x1 < 4) ∧ (OkI M4_takeNumber [mR 24 0, mI 0, mI ((h 9 1 x1) - 2)] h (fun v1 h1 => (mInR (h1 24 0 9)) ∧ (¬ (h1 24 0 9) = 0 → (K h1)) ∧ ((h1 24 0 9) = 0 → (OkV M0_mark [mR 1 2, mI x1, mI x2] h1 (fun h2 => K h2)))))) : A4_readJoin_68 K x1 x2 h := by
  refine mw_aload_n (dT d4_readJoin 36 rfl) rfl (by decide) ?_
  refine mw_iconst (dT d4_readJoin 37 rfl) ?_
  refine mw_aload_n (dT d4_readJoin 38 rfl) rfl (by decide) ?_
  refine mw_getR fl_X4_21 (dT d4_readJoin 39 rfl) ?_
  refine mw_getR fl_X4_146 (dT d4_readJoin 40 rfl) ?_
  refine mw_iload_n (dT d4_readJoin 41 rfl) rfl ?_
  obtain ⟨z, T⟩ := T
  refine mw_iaload ro_9 (dT d4_readJoin 42 rfl) z ?_
  refine mw_iconst (dT d4_readJoin 43 rfl) ?_
  refine mw_isub (dT d4_readJoin 44 rfl) ?_
  refine mw_callVI mv_4_takeNumber ml_X4_116 (by decide) (dT d4_readJoin 45 rfl) (as := [mI _, mI _]) rfl rfl T (fun v1 h1 T => ?_)
  refine mw_pop (dT d4_readJoin 46 rfl) (fun _ z => by cases z) ?_
  refine mw_aload_n (dT d4_readJoin 47 rfl) rfl (by decide) ?_
  refine mw_getI fl_X4_43 (dT d4_readJoin 48 rfl) ?_
  obtain ⟨z, T1, T2⟩ := T
  refine mw_if_ne 101 (dT d4_readJoin 49 rfl) (by decide) z (fun z => ?_) (fun z => ?_)
  · have T := T1 z
    exact mw_vret rfl (dT d4_readJoin 55 rfl) ⟨rfl, T⟩
  · have T := T2 z
    refine mw_aload_n (dT d4_readJoin 50 rfl) rfl (by decide) ?_
    refine mw_getR fl_X4_28 (dT d4_readJoin 51 rfl) ?_
    refine mw_iload_n (dT d4_readJoin 52 rfl) rfl ?_
    refine mw_iload_n (dT d4_readJoin 53 rfl) rfl ?_
    refine mw_callVV mv_0_mark ml_X4_149 (by decide) (dT d4_readJoin 54 rfl) (as := [mI _, mI _]) rfl rfl T (fun h2 T => ?_)
    exact mw_vret rfl (dT d4_readJoin 55 rfl) ⟨rfl, T⟩
theorem s4_readJoin {K : mH → Prop} {h : mH} (T : OkV M4_advance [mR 24 0] h (fun h1 => OkI M4_factorHere [mR 24 0] h1 (fun v1 h2 => OkI M3_hasFactor [mR 7 1, mI v1] h2 (fun v2 h3 => (mInR v2) ∧ (¬ v2 = 0 → (OkV M4_advance [mR 24 0] h3 (fun h4 => (mInR (h4 24 0 4)) ∧ (¬ (h4 24 0 4) = 3 → (A4_readJoin_68 K v1 (h4 24 0 5) h4)) ∧ ((h4 24 0 4) = 3 → (OkI M3_hasLevel [mR 7 1, mI v1, mI (h4 24 0 5)] h4 (fun v3 h5 => (mInR v3) ∧ (v3 = 0 → (A4_readJoin_68 K v1 (h4 24 0 5) h5)) ∧ (¬ v3 = 0 → (OkI M0_isJoined [mR 1 2, mI v1, mI (h4 24 0 5)] h5 (fun v4 h6 => (mInR v4) ∧ (v4 = 0 → (A4_readJoin_68 K v1 (h4 24 0 5) h6)) ∧ (¬ v4 = 0 → (OkV M4_fail [mR 24 0, mI 3] h6 (fun h7 => K h7)))))))))))) ∧ (v2 = 0 → (K h3)))))) : OkV M4_readJoin [mR 24 0] h K := by
  refine Ok.of rfl (n := 2) rfl ?_
  show At (mPV K) M4_readJoin 0 [mR 24 0, mU, mU] [] h
  refine mw_aload_n (dT d4_readJoin 0 rfl) rfl (by decide) ?_
  refine mw_callVV mv_4_advance ml_X4_56 (by decide) (dT d4_readJoin 1 rfl) (as := []) rfl rfl T (fun h1 T => ?_)
  refine mw_aload_n (dT d4_readJoin 2 rfl) rfl (by decide) ?_
  refine mw_callVI mv_4_factorHere ml_X4_124 (by decide) (dT d4_readJoin 3 rfl) (as := []) rfl rfl T (fun v1 h2 T => ?_)
  refine mw_istore_n (dT d4_readJoin 4 rfl) (by decide) ?_
  refine mw_aload_n (dT d4_readJoin 5 rfl) rfl (by decide) ?_
  refine mw_getR fl_X4_21 (dT d4_readJoin 6 rfl) ?_
  refine mw_iload_n (dT d4_readJoin 7 rfl) rfl ?_
  refine mw_callVI mv_3_hasFactor ml_X4_128 (by decide) (dT d4_readJoin 8 rfl) (as := [mI _]) rfl rfl T (fun v2 h3 T => ?_)
  obtain ⟨z, T1, T2⟩ := T
  refine mw_if_ne 21 (dT d4_readJoin 9 rfl) (by decide) z (fun z => ?_) (fun z => ?_)
  · have T := T1 z
    refine mw_aload_n (dT d4_readJoin 11 rfl) rfl (by decide) ?_
    refine mw_callVV mv_4_advance ml_X4_56 (by decide) (dT d4_readJoin 12 rfl) (as := []) rfl rfl T (fun h4 T => ?_)
    refine mw_aload_n (dT d4_readJoin 13 rfl) rfl (by decide) ?_
    refine mw_getI fl_X4_75 (dT d4_readJoin 14 rfl) ?_
    refine mw_istore_n (dT d4_readJoin 15 rfl) (by decide) ?_
    refine mw_aload_n (dT d4_readJoin 16 rfl) rfl (by decide) ?_
    refine mw_getI fl_X4_62 (dT d4_readJoin 17 rfl) ?_
    refine mw_iconst (dT d4_readJoin 18 rfl) ?_
    obtain ⟨z, T1, T2⟩ := T
    refine mw_icmp_ne 68 (dT d4_readJoin 19 rfl) (by decide) ⟨z, by decide⟩ (fun z => ?_) (fun z => ?_)
    · have T := T1 z
      exact T
    · have T := T2 z
      refine mw_aload_n (dT d4_readJoin 20 rfl) rfl (by decide) ?_
      refine mw_getR fl_X4_21 (dT d4_readJoin 21 rfl) ?_
      refine mw_iload_n (dT d4_readJoin 22 rfl) rfl ?_
      refine mw_iload_n (dT d4_readJoin 23 rfl) rfl ?_
      refine mw_callVI mv_3_hasLevel ml_X4_139 (by decide) (dT d4_readJoin 24 rfl) (as := [mI _, mI _]) rfl rfl T (fun v3 h5 T => ?_)
      obtain ⟨z, T1, T2⟩ := T
      refine mw_if_eq 68 (dT d4_readJoin 25 rfl) (by decide) z (fun z => ?_) (fun z => ?_)
      · have T := T1 z
        exact T
      · have T := T2 z
        refine mw_aload_n (dT d4_readJoin 26 rfl) rfl (by decide) ?_
        refine mw_getR fl_X4_28 (dT d4_readJoin 27 rfl) ?_
        refine mw_iload_n (dT d4_readJoin 28 rfl) rfl ?_
        refine mw_iload_n (dT d4_readJoin 29 rfl) rfl ?_
        refine mw_callVI mv_0_isJoined ml_X4_143 (by decide) (dT d4_readJoin 30 rfl) (as := [mI _, mI _]) rfl rfl T (fun v4 h6 T => ?_)
        obtain ⟨z, T1, T2⟩ := T
        refine mw_if_eq 68 (dT d4_readJoin 31 rfl) (by decide) z (fun z => ?_) (fun z => ?_)
        · have T := T1 z
          exact T
        · have T := T2 z
          refine mw_aload_n (dT d4_readJoin 32 rfl) rfl (by decide) ?_
          refine mw_iconst (dT d4_readJoin 33 rfl) ?_
          refine mw_callVV mv_4_fail ml_X4_84 (by decide) (dT d4_readJoin 34 rfl) (as := [mI _]) rfl rfl T (fun h7 T => ?_)
          exact mw_vret rfl (dT d4_readJoin 35 rfl) ⟨rfl, T⟩
  · have T := T2 z
    exact mw_vret rfl (dT d4_readJoin 10 rfl) ⟨rfl, T⟩
abbrev A4_readRisk_52 (K : mH → Prop) (x1 x2 x3 x4 x5 : Int) (h : mH) : Prop := At (mPV K) M4_readRisk 52 [mR 24 0, mI x1, mI x2, mI x3, mI x4, mI x5] [] h
theorem s4_readRisk_52 {K : mH → Prop} {x1 x2 x3 x4 x5 : Int} {h : mH} (T : (mInR x5 ∧ mInR (h 7 1 0)) ∧ ((h 7 1 0) ≤ x5 → ((mInR (h 24 0 9)) ∧ (¬ (h 24 0 9) = 0 → (K h)) ∧ ((h 24 0 9) = 0 → (OkV M0_addRisk [mR 1 2, mI x1, mI x2, mI x3, mI x4] h (fun h1 => K h1))))) ∧ (¬ (h 7 1 0) ≤ x5 → ((0 ≤ x5 ∧ x5 < 4) ∧ (OkI M4_takeNumber [mR 24 0, mI 0, mI ((h 9 1 x5) - 1)] h (fun v1 h2 => OkI M6_slotShift [mI x5] h2 (fun v2 h3 => A4_readRisk_52 K x1 x2 x3 (mOr x4 (mShl v1 v2)) (x5 + 1) h3)))))) : A4_readRisk_52 K x1 x2 x3 x4 x5 h := by
  refine mw_iload (dT d4_readRisk 30 rfl) rfl ?_
  refine mw_aload_n (dT d4_readRisk 31 rfl) rfl (by decide) ?_
  refine mw_getR fl_X4_21 (dT d4_readRisk 32 rfl) ?_
  refine mw_getI fl_X4_113 (dT d4_readRisk 33 rfl) ?_
  obtain ⟨z, T1, T2⟩ := T
  refine mw_icmp_ge 98 (dT d4_readRisk 34 rfl) (by decide) z (fun z => ?_) (fun z => ?_)
  · have T := T1 z
    refine mw_aload_n (dT d4_readRisk 53 rfl) rfl (by decide) ?_
    refine mw_getI fl_X4_43 (dT d4_readRisk 54 rfl) ?_
    obtain ⟨z, T1, T2⟩ := T
    refine mw_if_ne 117 (dT d4_readRisk 55 rfl) (by decide) z (fun z => ?_) (fun z => ?_)
    · have T := T1 z
      exact mw_vret rfl (dT d4_readRisk 63 rfl) ⟨rfl, T⟩
    · have T := T2 z
      refine mw_aload_n (dT d4_readRisk 56 rfl) rfl (by decide) ?_
      refine mw_getR fl_X4_28 (dT d4_readRisk 57 rfl) ?_
      refine mw_iload_n (dT d4_readRisk 58 rfl) rfl ?_
      refine mw_iload_n (dT d4_readRisk 59 rfl) rfl ?_
      refine mw_iload_n (dT d4_readRisk 60 rfl) rfl ?_
      refine mw_iload (dT d4_readRisk 61 rfl) rfl ?_
      refine mw_callVV mv_0_addRisk ml_X4_155 (by decide) (dT d4_readRisk 62 rfl) (as := [mI _, mI _, mI _, mI _]) rfl rfl T (fun h1 T => ?_)
      exact mw_vret rfl (dT d4_readRisk 63 rfl) ⟨rfl, T⟩
  · have T := T2 z
    refine mw_iload (dT d4_readRisk 35 rfl) rfl ?_
    refine mw_aload_n (dT d4_readRisk 36 rfl) rfl (by decide) ?_
    refine mw_iconst (dT d4_readRisk 37 rfl) ?_
    refine mw_aload_n (dT d4_readRisk 38 rfl) rfl (by decide) ?_
    refine mw_getR fl_X4_21 (dT d4_readRisk 39 rfl) ?_
    refine mw_getR fl_X4_146 (dT d4_readRisk 40 rfl) ?_
    refine mw_iload (dT d4_readRisk 41 rfl) rfl ?_
    obtain ⟨z, T⟩ := T
    refine mw_iaload ro_9 (dT d4_readRisk 42 rfl) z ?_
    refine mw_iconst (dT d4_readRisk 43 rfl) ?_
    refine mw_isub (dT d4_readRisk 44 rfl) ?_
    refine mw_callVI mv_4_takeNumber ml_X4_116 (by decide) (dT d4_readRisk 45 rfl) (as := [mI _, mI _]) rfl rfl T (fun v1 h2 T => ?_)
    refine mw_iload (dT d4_readRisk 46 rfl) rfl ?_
    refine mw_callNI mt_6_slotShift (host := "RateOffice") (by decide) (by decide) (dT d4_readRisk 47 rfl) (as := [mI _]) rfl rfl T (fun v2 h3 T => ?_)
    refine mw_ishl (dT d4_readRisk 48 rfl) ?_
    refine mw_ior (dT d4_readRisk 49 rfl) ?_
    refine mw_istore (dT d4_readRisk 50 rfl) (by decide) ?_
    refine mw_iinc (dT d4_readRisk 51 rfl) rfl (by decide) ?_
    refine mw_goto 52 (dT d4_readRisk 52 rfl) (by decide) ?_
    exact T
theorem s4_readRisk {K : mH → Prop} {h : mH} (T : (mInR (h 1 2 0)) ∧ ((h 1 2 0) < 40 → (OkV M4_advance [mR 24 0] h (fun h1 => OkI M4_takeNumber [mR 24 0, mI 1, mI 99] h1 (fun v1 h2 => OkI M4_takeNumber [mR 24 0, mI 0, mI 99999] h2 (fun v2 h3 => OkI M4_takeNumber [mR 24 0, mI 1, mI 99999] h3 (fun v3 h4 => A4_readRisk_52 K v1 v2 v3 0 0 h4)))))) ∧ (¬ (h 1 2 0) < 40 → (OkV M4_fail [mR 24 0, mI 2] h (fun h5 => K h5)))) : OkV M4_readRisk [mR 24 0] h K := by
  refine Ok.of rfl (n := 5) rfl ?_
  show At (mPV K) M4_readRisk 0 [mR 24 0, mU, mU, mU, mU, mU] [] h
  refine mw_aload_n (dT d4_readRisk 0 rfl) rfl (by decide) ?_
  refine mw_getR fl_X4_28 (dT d4_readRisk 1 rfl) ?_
  refine mw_getI fl_X4_110 (dT d4_readRisk 2 rfl) ?_
  refine mw_bipush (by decide) (dT d4_readRisk 3 rfl) ?_
  obtain ⟨z, T1, T2⟩ := T
  refine mw_icmp_lt 18 (dT d4_readRisk 4 rfl) (by decide) ⟨z, by decide⟩ (fun z => ?_) (fun z => ?_)
  · have T := T1 z
    refine mw_aload_n (dT d4_readRisk 9 rfl) rfl (by decide) ?_
    refine mw_callVV mv_4_advance ml_X4_56 (by decide) (dT d4_readRisk 10 rfl) (as := []) rfl rfl T (fun h1 T => ?_)
    refine mw_aload_n (dT d4_readRisk 11 rfl) rfl (by decide) ?_
    refine mw_iconst (dT d4_readRisk 12 rfl) ?_
    refine mw_bipush (by decide) (dT d4_readRisk 13 rfl) ?_
    refine mw_callVI mv_4_takeNumber ml_X4_116 (by decide) (dT d4_readRisk 14 rfl) (as := [mI _, mI _]) rfl rfl T (fun v1 h2 T => ?_)
    refine mw_istore_n (dT d4_readRisk 15 rfl) (by decide) ?_
    refine mw_aload_n (dT d4_readRisk 16 rfl) rfl (by decide) ?_
    refine mw_iconst (dT d4_readRisk 17 rfl) ?_
    refine mw_ldc kc_X4_138 (dT d4_readRisk 18 rfl) ?_
    refine mw_callVI mv_4_takeNumber ml_X4_116 (by decide) (dT d4_readRisk 19 rfl) (as := [mI _, mI _]) rfl rfl T (fun v2 h3 T => ?_)
    refine mw_istore_n (dT d4_readRisk 20 rfl) (by decide) ?_
    refine mw_aload_n (dT d4_readRisk 21 rfl) rfl (by decide) ?_
    refine mw_iconst (dT d4_readRisk 22 rfl) ?_
    refine mw_ldc kc_X4_138 (dT d4_readRisk 23 rfl) ?_
    refine mw_callVI mv_4_takeNumber ml_X4_116 (by decide) (dT d4_readRisk 24 rfl) (as := [mI _, mI _]) rfl rfl T (fun v3 h4 T => ?_)
    refine mw_istore_n (dT d4_readRisk 25 rfl) (by decide) ?_
    refine mw_iconst (dT d4_readRisk 26 rfl) ?_
    refine mw_istore (dT d4_readRisk 27 rfl) (by decide) ?_
    refine mw_iconst (dT d4_readRisk 28 rfl) ?_
    refine mw_istore (dT d4_readRisk 29 rfl) (by decide) ?_
    exact T
  · have T := T2 z
    refine mw_aload_n (dT d4_readRisk 5 rfl) rfl (by decide) ?_
    refine mw_iconst (dT d4_readRisk 6 rfl) ?_
    refine mw_callVV mv_4_fail ml_X4_84 (by decide) (dT d4_readRisk 7 rfl) (as := [mI _]) rfl rfl T (fun h5 T => ?_)
    exact mw_vret rfl (dT d4_readRisk 8 rfl) ⟨rfl, T⟩
theorem s4_readSetting {K : mH → Prop} {x1 : Int} {h : mH} (T : (mInR (mAnd (mShr (h 24 0 7) x1) 1)) ∧ ((mAnd (mShr (h 24 0 7) x1) 1) = 0 → (∀ h1 : mH, h1 = mSet h 24 0 7 (mOr (h 24 0 7) (mShl 1 x1)) → (OkV M4_advance [mR 24 0] h1 (fun h2 => mInR x1 ∧ (x1 = 4 → (OkI M4_takeNumber [mR 24 0, mI 1, mI 99999] h2 (fun v1 h3 => ∀ h4 : mH, h4 = mSet h3 1 2 1 v1 → (K h4)))) ∧ (x1 = 5 → (OkI M4_takeNumber [mR 24 0, mI 0, mI 999] h2 (fun v2 h5 => ∀ h6 : mH, h6 = mSet h5 7 1 1 v2 → (K h6)))) ∧ (x1 = 6 → (OkI M4_takeNumber [mR 24 0, mI 0, mI 999] h2 (fun v3 h7 => ∀ h8 : mH, h8 = mSet h7 1 2 2 v3 → (K h8)))) ∧ (x1 = 7 → (OkI M4_takeNumber [mR 24 0, mI 0, mI 999] h2 (fun v4 h9 => ∀ h10 : mH, h10 = mSet h9 1 2 3 v4 → (K h10)))) ∧ (x1 = 8 → (OkI M4_takeNumber [mR 24 0, mI 1, mI 99] h2 (fun v5 h11 => ∀ h12 : mH, h12 = mSet h11 1 2 4 v5 → (OkI M4_takeNumber [mR 24 0, mI 0, mI 500] h12 (fun v6 h13 => ∀ h14 : mH, h14 = mSet h13 1 2 5 v6 → (K h14)))))) ∧ (x1 = 9 → (OkI M4_takeNumber [mR 24 0, mI 0, mI 99999] h2 (fun v7 h15 => ∀ h16 : mH, h16 = mSet h15 7 1 2 v7 → (K h16)))) ∧ (x1 < 4 ∨ 9 < x1 → (OkV M4_fail [mR 24 0, mI 1] h2 (fun h17 => K h17))))))) ∧ (¬ (mAnd (mShr (h 24 0 7) x1) 1) = 0 → (OkV M4_fail [mR 24 0, mI 3] h (fun h18 => K h18)))) : OkV M4_readSetting [mR 24 0, mI x1] h K := by
  refine Ok.of rfl (n := 0) rfl ?_
  show At (mPV K) M4_readSetting 0 [mR 24 0, mI x1] [] h
  refine mw_aload_n (dT d4_readSetting 0 rfl) rfl (by decide) ?_
  refine mw_getI fl_X4_36 (dT d4_readSetting 1 rfl) ?_
  refine mw_iload_n (dT d4_readSetting 2 rfl) rfl ?_
  refine mw_ishr (dT d4_readSetting 3 rfl) ?_
  refine mw_iconst (dT d4_readSetting 4 rfl) ?_
  refine mw_iand (dT d4_readSetting 5 rfl) ?_
  obtain ⟨z, T1, T2⟩ := T
  refine mw_if_eq 17 (dT d4_readSetting 6 rfl) (by decide) z (fun z => ?_) (fun z => ?_)
  · have T := T1 z
    refine mw_aload_n (dT d4_readSetting 11 rfl) rfl (by decide) ?_
    refine mw_dup (dT d4_readSetting 12 rfl) (fun _ z => by cases z) ?_
    refine mw_getI fl_X4_36 (dT d4_readSetting 13 rfl) ?_
    refine mw_iconst (dT d4_readSetting 14 rfl) ?_
    refine mw_iload_n (dT d4_readSetting 15 rfl) rfl ?_
    refine mw_ishl (dT d4_readSetting 16 rfl) ?_
    refine mw_ior (dT d4_readSetting 17 rfl) ?_
    have T := T _ rfl
    refine mw_putI fp_X4_36 (dT d4_readSetting 18 rfl) ?_
    refine mw_aload_n (dT d4_readSetting 19 rfl) rfl (by decide) ?_
    refine mw_callVV mv_4_advance ml_X4_56 (by decide) (dT d4_readSetting 20 rfl) (as := []) rfl rfl T (fun h2 T => ?_)
    refine mw_iload_n (dT d4_readSetting 21 rfl) rfl ?_
    obtain ⟨z, T0, T1, T2, T3, T4, T5, Td⟩ := T
    by_cases y0 : x1 = 4
    · have T := T0 y0
      refine mw_tableIn 72 (dT d4_readSetting 22 rfl) z (by omega) (by omega) (by rw [y0]; rfl) (by decide) ?_
      refine mw_aload_n (dT d4_readSetting 23 rfl) rfl (by decide) ?_
      refine mw_getR fl_X4_28 (dT d4_readSetting 24 rfl) ?_
      refine mw_aload_n (dT d4_readSetting 25 rfl) rfl (by decide) ?_
      refine mw_iconst (dT d4_readSetting 26 rfl) ?_
      refine mw_ldc kc_X4_138 (dT d4_readSetting 27 rfl) ?_
      refine mw_callVI mv_4_takeNumber ml_X4_116 (by decide) (dT d4_readSetting 28 rfl) (as := [mI _, mI _]) rfl rfl T (fun v1 h3 T => ?_)
      have T := T _ rfl
      refine mw_putI fp_X4_159 (dT d4_readSetting 29 rfl) ?_
      refine mw_goto 197 (dT d4_readSetting 30 rfl) (by decide) ?_
      exact mw_vret rfl (dT d4_readSetting 81 rfl) ⟨rfl, T⟩
    by_cases y1 : x1 = 5
    · have T := T1 y1
      refine mw_tableIn 89 (dT d4_readSetting 22 rfl) z (by omega) (by omega) (by rw [y1]; rfl) (by decide) ?_
      refine mw_aload_n (dT d4_readSetting 31 rfl) rfl (by decide) ?_
      refine mw_getR fl_X4_21 (dT d4_readSetting 32 rfl) ?_
      refine mw_aload_n (dT d4_readSetting 33 rfl) rfl (by decide) ?_
      refine mw_iconst (dT d4_readSetting 34 rfl) ?_
      refine mw_sipush (by decide) (dT d4_readSetting 35 rfl) ?_
      refine mw_callVI mv_4_takeNumber ml_X4_116 (by decide) (dT d4_readSetting 36 rfl) (as := [mI _, mI _]) rfl rfl T (fun v2 h5 T => ?_)
      have T := T _ rfl
      refine mw_putI fp_X4_162 (dT d4_readSetting 37 rfl) ?_
      refine mw_goto 197 (dT d4_readSetting 38 rfl) (by decide) ?_
      exact mw_vret rfl (dT d4_readSetting 81 rfl) ⟨rfl, T⟩
    by_cases y2 : x1 = 6
    · have T := T2 y2
      refine mw_tableIn 107 (dT d4_readSetting 22 rfl) z (by omega) (by omega) (by rw [y2]; rfl) (by decide) ?_
      refine mw_aload_n (dT d4_readSetting 39 rfl) rfl (by decide) ?_
      refine mw_getR fl_X4_28 (dT d4_readSetting 40 rfl) ?_
      refine mw_aload_n (dT d4_readSetting 41 rfl) rfl (by decide) ?_
      refine mw_iconst (dT d4_readSetting 42 rfl) ?_
      refine mw_sipush (by decide) (dT d4_readSetting 43 rfl) ?_
      refine mw_callVI mv_4_takeNumber ml_X4_116 (by decide) (dT d4_readSetting 44 rfl) (as := [mI _, mI _]) rfl rfl T (fun v3 h7 T => ?_)
      have T := T _ rfl
      refine mw_putI fp_X4_165 (dT d4_readSetting 45 rfl) ?_
      refine mw_goto 197 (dT d4_readSetting 46 rfl) (by decide) ?_
      exact mw_vret rfl (dT d4_readSetting 81 rfl) ⟨rfl, T⟩
    by_cases y3 : x1 = 7
    · have T := T3 y3
      refine mw_tableIn 125 (dT d4_readSetting 22 rfl) z (by omega) (by omega) (by rw [y3]; rfl) (by decide) ?_
      refine mw_aload_n (dT d4_readSetting 47 rfl) rfl (by decide) ?_
      refine mw_getR fl_X4_28 (dT d4_readSetting 48 rfl) ?_
      refine mw_aload_n (dT d4_readSetting 49 rfl) rfl (by decide) ?_
      refine mw_iconst (dT d4_readSetting 50 rfl) ?_
      refine mw_sipush (by decide) (dT d4_readSetting 51 rfl) ?_
      refine mw_callVI mv_4_takeNumber ml_X4_116 (by decide) (dT d4_readSetting 52 rfl) (as := [mI _, mI _]) rfl rfl T (fun v4 h9 T => ?_)
      have T := T _ rfl
      refine mw_putI fp_X4_168 (dT d4_readSetting 53 rfl) ?_
      refine mw_goto 197 (dT d4_readSetting 54 rfl) (by decide) ?_
      exact mw_vret rfl (dT d4_readSetting 81 rfl) ⟨rfl, T⟩
    by_cases y4 : x1 = 8
    · have T := T4 y4
      refine mw_tableIn 143 (dT d4_readSetting 22 rfl) z (by omega) (by omega) (by rw [y4]; rfl) (by decide) ?_
      refine mw_aload_n (dT d4_readSetting 55 rfl) rfl (by decide) ?_
      refine mw_getR fl_X4_28 (dT d4_readSetting 56 rfl) ?_
      refine mw_aload_n (dT d4_readSetting 57 rfl) rfl (by decide) ?_
      refine mw_iconst (dT d4_readSetting 58 rfl) ?_
      refine mw_bipush (by decide) (dT d4_readSetting 59 rfl) ?_
      refine mw_callVI mv_4_takeNumber ml_X4_116 (by decide) (dT d4_readSetting 60 rfl) (as := [mI _, mI _]) rfl rfl T (fun v5 h11 T => ?_)
      have T := T _ rfl
      refine mw_putI fp_X4_171 (dT d4_readSetting 61 rfl) ?_
      refine mw_aload_n (dT d4_readSetting 62 rfl) rfl (by decide) ?_
      refine mw_getR fl_X4_28 (dT d4_readSetting 63 rfl) ?_
      refine mw_aload_n (dT d4_readSetting 64 rfl) rfl (by decide) ?_
      refine mw_iconst (dT d4_readSetting 65 rfl) ?_
      refine mw_sipush (by decide) (dT d4_readSetting 66 rfl) ?_
      refine mw_callVI mv_4_takeNumber ml_X4_116 (by decide) (dT d4_readSetting 67 rfl) (as := [mI _, mI _]) rfl rfl T (fun v6 h13 T => ?_)
      have T := T _ rfl
      refine mw_putI fp_X4_174 (dT d4_readSetting 68 rfl) ?_
      refine mw_goto 197 (dT d4_readSetting 69 rfl) (by decide) ?_
      exact mw_vret rfl (dT d4_readSetting 81 rfl) ⟨rfl, T⟩
    by_cases y5 : x1 = 9
    · have T := T5 y5
      refine mw_tableIn 175 (dT d4_readSetting 22 rfl) z (by omega) (by omega) (by rw [y5]; rfl) (by decide) ?_
      refine mw_aload_n (dT d4_readSetting 70 rfl) rfl (by decide) ?_
      refine mw_getR fl_X4_21 (dT d4_readSetting 71 rfl) ?_
      refine mw_aload_n (dT d4_readSetting 72 rfl) rfl (by decide) ?_
      refine mw_iconst (dT d4_readSetting 73 rfl) ?_
      refine mw_ldc kc_X4_138 (dT d4_readSetting 74 rfl) ?_
      refine mw_callVI mv_4_takeNumber ml_X4_116 (by decide) (dT d4_readSetting 75 rfl) (as := [mI _, mI _]) rfl rfl T (fun v7 h15 T => ?_)
      have T := T _ rfl
      refine mw_putI fp_X4_177 (dT d4_readSetting 76 rfl) ?_
      refine mw_goto 197 (dT d4_readSetting 77 rfl) (by decide) ?_
      exact mw_vret rfl (dT d4_readSetting 81 rfl) ⟨rfl, T⟩
    have yd : x1 < 4 ∨ 9 < x1 := by omega
    have T := Td yd
    refine mw_tableOut 192 (dT d4_readSetting 22 rfl) z yd (by decide) ?_
    refine mw_aload_n (dT d4_readSetting 78 rfl) rfl (by decide) ?_
    refine mw_iconst (dT d4_readSetting 79 rfl) ?_
    refine mw_callVV mv_4_fail ml_X4_84 (by decide) (dT d4_readSetting 80 rfl) (as := [mI _]) rfl rfl T (fun h17 T => ?_)
    exact mw_vret rfl (dT d4_readSetting 81 rfl) ⟨rfl, T⟩
  · have T := T2 z
    refine mw_aload_n (dT d4_readSetting 7 rfl) rfl (by decide) ?_
    refine mw_iconst (dT d4_readSetting 8 rfl) ?_
    refine mw_callVV mv_4_fail ml_X4_84 (by decide) (dT d4_readSetting 9 rfl) (as := [mI _]) rfl rfl T (fun h18 T => ?_)
    exact mw_vret rfl (dT d4_readSetting 10 rfl) ⟨rfl, T⟩
