/-! walks, by program (wip/whole/seg.py) -/
abbrev A5_scan_30 (K : mH → Prop) (x2 x3 x4 : Int) (h : mH) : Prop := At (mPV K) M5_scan 30 [mR 20 0, mR 26 0, mI x2, mI x3, mI x4, mU] [] h
theorem s5_scan_30 {K : mH → Prop} {x2 x3 x4 : Int} {h : mH} (T : (mInR x4 ∧ mInR x3) ∧ (x3 ≤ x4 → (OkV M5_put [mR 20 0, mI 0, mI 0, mI x3] h (fun h1 => K h1))) ∧ (¬ x3 ≤ x4 → ((mInR (h 20 0 4) ∧ mInR x3) ∧ (x3 ≤ (h 20 0 4) → (OkV M5_put [mR 20 0, mI 0, mI 0, mI x3] h (fun h2 => K h2))) ∧ (¬ x3 ≤ (h 20 0 4) → ((0 ≤ (h 20 0 4) ∧ (h 20 0 4) < 900) ∧ (OkI M5_isLetter [mI (h 26 0 (h 20 0 4))] h (fun v1 h3 => (mInR v1) ∧ (v1 = 0 → (OkI M5_isDigit [mI (h 26 0 (h 20 0 4))] h3 (fun v2 h4 => (mInR v2) ∧ (v2 = 0 → ((mInR (h 26 0 (h 20 0 4))) ∧ ((h 26 0 (h 20 0 4)) = 32 → (∀ h5 : mH, h5 = mSet h4 20 0 4 ((h4 20 0 4) + 1) → (A5_scan_30 K x2 x3 (x4 + 1) h5))) ∧ (¬ (h 26 0 (h 20 0 4)) = 32 → ((mInR (h 26 0 (h 20 0 4))) ∧ ((h 26 0 (h 20 0 4)) = 10 → (∀ h6 : mH, h6 = mSet h4 20 0 4 ((h4 20 0 4) + 1) → (A5_scan_30 K x2 x3 (x4 + 1) h6))) ∧ (¬ (h 26 0 (h 20 0 4)) = 10 → ((mInR (h 26 0 (h 20 0 4))) ∧ (¬ (h 26 0 (h 20 0 4)) = 59 → (OkV M5_put [mR 20 0, mI 5, mI 0, mI (h4 20 0 4)] h4 (fun h7 => ∀ h8 : mH, h8 = mSet h7 20 0 4 ((h7 20 0 4) + 1) → (A5_scan_30 K x2 x3 (x4 + 1) h8)))) ∧ ((h 26 0 (h 20 0 4)) = 59 → (OkV M5_put [mR 20 0, mI 4, mI 0, mI (h4 20 0 4)] h4 (fun h9 => ∀ h10 : mH, h10 = mSet h9 20 0 4 ((h9 20 0 4) + 1) → (A5_scan_30 K x2 x3 (x4 + 1) h10)))))))))) ∧ (¬ v2 = 0 → (OkV M5_scanNumber [mR 20 0, mR 26 0, mI x3] h4 (fun h11 => A5_scan_30 K x2 x3 (x4 + 1) h11)))))) ∧ (¬ v1 = 0 → (OkV M5_scanWord [mR 20 0, mR 26 0, mI x3] h3 (fun h12 => A5_scan_30 K x2 x3 (x4 + 1) h12)))))))))) : A5_scan_30 K x2 x3 x4 h := by
  refine mw_iload (dT d5_scan 17 rfl) rfl ?_
  refine mw_iload_n (dT d5_scan 18 rfl) rfl ?_
  obtain ⟨z, T1, T2⟩ := T
  refine mw_icmp_ge 137 (dT d5_scan 19 rfl) (by decide) z (fun z => ?_) (fun z => ?_)
  · have T := T1 z
    refine mw_aload_n (dT d5_scan 70 rfl) rfl (by decide) ?_
    refine mw_iconst (dT d5_scan 71 rfl) ?_
    refine mw_iconst (dT d5_scan 72 rfl) ?_
    refine mw_iload_n (dT d5_scan 73 rfl) rfl ?_
    refine mw_callVV mv_5_put ml_X5_51 (by decide) (dT d5_scan 74 rfl) (as := [mI _, mI _, mI _]) rfl rfl T (fun h1 T => ?_)
    exact mw_vret rfl (dT d5_scan 75 rfl) ⟨rfl, T⟩
  · have T := T2 z
    refine mw_aload_n (dT d5_scan 20 rfl) rfl (by decide) ?_
    refine mw_getI fl_X5_34 (dT d5_scan 21 rfl) ?_
    refine mw_iload_n (dT d5_scan 22 rfl) rfl ?_
    obtain ⟨z, T1, T2⟩ := T
    refine mw_icmp_ge 137 (dT d5_scan 23 rfl) (by decide) z (fun z => ?_) (fun z => ?_)
    · have T := T1 z
      refine mw_aload_n (dT d5_scan 70 rfl) rfl (by decide) ?_
      refine mw_iconst (dT d5_scan 71 rfl) ?_
      refine mw_iconst (dT d5_scan 72 rfl) ?_
      refine mw_iload_n (dT d5_scan 73 rfl) rfl ?_
      refine mw_callVV mv_5_put ml_X5_51 (by decide) (dT d5_scan 74 rfl) (as := [mI _, mI _, mI _]) rfl rfl T (fun h2 T => ?_)
      exact mw_vret rfl (dT d5_scan 75 rfl) ⟨rfl, T⟩
    · have T := T2 z
      refine mw_aload_n (dT d5_scan 24 rfl) rfl (by decide) ?_
      refine mw_aload_n (dT d5_scan 25 rfl) rfl (by decide) ?_
      refine mw_getI fl_X5_34 (dT d5_scan 26 rfl) ?_
      obtain ⟨z, T⟩ := T
      refine mw_baload ro_26 (dT d5_scan 27 rfl) z ?_
      refine mw_istore (dT d5_scan 28 rfl) (by decide) ?_
      refine mw_iload (dT d5_scan 29 rfl) rfl ?_
      refine mw_callSI mt_5_isLetter ml_X5_37 (by decide) (dT d5_scan 30 rfl) (as := [mI _]) rfl rfl T (fun v1 h3 T => ?_)
      obtain ⟨z, T1, T2⟩ := T
      refine mw_if_eq 69 (dT d5_scan 31 rfl) (by decide) z (fun z => ?_) (fun z => ?_)
      · have T := T1 z
        refine mw_iload (dT d5_scan 37 rfl) rfl ?_
        refine mw_callSI mt_5_isDigit ml_X5_45 (by decide) (dT d5_scan 38 rfl) (as := [mI _]) rfl rfl T (fun v2 h4 T => ?_)
        obtain ⟨z, T1, T2⟩ := T
        refine mw_if_eq 86 (dT d5_scan 39 rfl) (by decide) z (fun z => ?_) (fun z => ?_)
        · have T := T1 z
          refine mw_iload (dT d5_scan 45 rfl) rfl ?_
          refine mw_bipush (by decide) (dT d5_scan 46 rfl) ?_
          obtain ⟨z, T1, T2⟩ := T
          refine mw_icmp_eq 121 (dT d5_scan 47 rfl) (by decide) ⟨z, by decide⟩ (fun z => ?_) (fun z => ?_)
          · have T := T1 z
            refine mw_aload_n (dT d5_scan 62 rfl) rfl (by decide) ?_
            refine mw_dup (dT d5_scan 63 rfl) (fun _ z => by cases z) ?_
            refine mw_getI fl_X5_34 (dT d5_scan 64 rfl) ?_
            refine mw_iconst (dT d5_scan 65 rfl) ?_
            refine mw_iadd (dT d5_scan 66 rfl) ?_
            have T := T _ rfl
            refine mw_putI fp_X5_34 (dT d5_scan 67 rfl) ?_
            refine mw_iinc (dT d5_scan 68 rfl) rfl (by decide) ?_
            refine mw_goto 30 (dT d5_scan 69 rfl) (by decide) ?_
            exact At.forget [5] T
          · have T := T2 z
            refine mw_iload (dT d5_scan 48 rfl) rfl ?_
            refine mw_bipush (by decide) (dT d5_scan 49 rfl) ?_
            obtain ⟨z, T1, T2⟩ := T
            refine mw_icmp_eq 121 (dT d5_scan 50 rfl) (by decide) ⟨z, by decide⟩ (fun z => ?_) (fun z => ?_)
            · have T := T1 z
              refine mw_aload_n (dT d5_scan 62 rfl) rfl (by decide) ?_
              refine mw_dup (dT d5_scan 63 rfl) (fun _ z => by cases z) ?_
              refine mw_getI fl_X5_34 (dT d5_scan 64 rfl) ?_
              refine mw_iconst (dT d5_scan 65 rfl) ?_
              refine mw_iadd (dT d5_scan 66 rfl) ?_
              have T := T _ rfl
              refine mw_putI fp_X5_34 (dT d5_scan 67 rfl) ?_
              refine mw_iinc (dT d5_scan 68 rfl) rfl (by decide) ?_
              refine mw_goto 30 (dT d5_scan 69 rfl) (by decide) ?_
              exact At.forget [5] T
            · have T := T2 z
              refine mw_aload_n (dT d5_scan 51 rfl) rfl (by decide) ?_
              refine mw_iload (dT d5_scan 52 rfl) rfl ?_
              refine mw_bipush (by decide) (dT d5_scan 53 rfl) ?_
              obtain ⟨z, T1, T2⟩ := T
              refine mw_icmp_ne 112 (dT d5_scan 54 rfl) (by decide) ⟨z, by decide⟩ (fun z => ?_) (fun z => ?_)
              · have T := T1 z
                refine mw_iconst (dT d5_scan 57 rfl) ?_
                refine mw_iconst (dT d5_scan 58 rfl) ?_
                refine mw_aload_n (dT d5_scan 59 rfl) rfl (by decide) ?_
                refine mw_getI fl_X5_34 (dT d5_scan 60 rfl) ?_
                refine mw_callVV mv_5_put ml_X5_51 (by decide) (dT d5_scan 61 rfl) (as := [mI _, mI _, mI _]) rfl rfl T (fun h7 T => ?_)
                refine mw_aload_n (dT d5_scan 62 rfl) rfl (by decide) ?_
                refine mw_dup (dT d5_scan 63 rfl) (fun _ z => by cases z) ?_
                refine mw_getI fl_X5_34 (dT d5_scan 64 rfl) ?_
                refine mw_iconst (dT d5_scan 65 rfl) ?_
                refine mw_iadd (dT d5_scan 66 rfl) ?_
                have T := T _ rfl
                refine mw_putI fp_X5_34 (dT d5_scan 67 rfl) ?_
                refine mw_iinc (dT d5_scan 68 rfl) rfl (by decide) ?_
                refine mw_goto 30 (dT d5_scan 69 rfl) (by decide) ?_
                exact At.forget [5] T
              · have T := T2 z
                refine mw_iconst (dT d5_scan 55 rfl) ?_
                refine mw_goto 113 (dT d5_scan 56 rfl) (by decide) ?_
                refine mw_iconst (dT d5_scan 58 rfl) ?_
                refine mw_aload_n (dT d5_scan 59 rfl) rfl (by decide) ?_
                refine mw_getI fl_X5_34 (dT d5_scan 60 rfl) ?_
                refine mw_callVV mv_5_put ml_X5_51 (by decide) (dT d5_scan 61 rfl) (as := [mI _, mI _, mI _]) rfl rfl T (fun h9 T => ?_)
                refine mw_aload_n (dT d5_scan 62 rfl) rfl (by decide) ?_
                refine mw_dup (dT d5_scan 63 rfl) (fun _ z => by cases z) ?_
                refine mw_getI fl_X5_34 (dT d5_scan 64 rfl) ?_
                refine mw_iconst (dT d5_scan 65 rfl) ?_
                refine mw_iadd (dT d5_scan 66 rfl) ?_
                have T := T _ rfl
                refine mw_putI fp_X5_34 (dT d5_scan 67 rfl) ?_
                refine mw_iinc (dT d5_scan 68 rfl) rfl (by decide) ?_
                refine mw_goto 30 (dT d5_scan 69 rfl) (by decide) ?_
                exact At.forget [5] T
        · have T := T2 z
          refine mw_aload_n (dT d5_scan 40 rfl) rfl (by decide) ?_
          refine mw_aload_n (dT d5_scan 41 rfl) rfl (by decide) ?_
          refine mw_iload_n (dT d5_scan 42 rfl) rfl ?_
          refine mw_callVV mv_5_scanNumber ml_X5_48 (by decide) (dT d5_scan 43 rfl) (as := [mR 26 _, mI _]) rfl rfl T (fun h11 T => ?_)
          refine mw_goto 131 (dT d5_scan 44 rfl) (by decide) ?_
          refine mw_iinc (dT d5_scan 68 rfl) rfl (by decide) ?_
          refine mw_goto 30 (dT d5_scan 69 rfl) (by decide) ?_
          exact At.forget [5] T
      · have T := T2 z
        refine mw_aload_n (dT d5_scan 32 rfl) rfl (by decide) ?_
        refine mw_aload_n (dT d5_scan 33 rfl) rfl (by decide) ?_
        refine mw_iload_n (dT d5_scan 34 rfl) rfl ?_
        refine mw_callVV mv_5_scanWord ml_X5_41 (by decide) (dT d5_scan 35 rfl) (as := [mR 26 _, mI _]) rfl rfl T (fun h12 T => ?_)
        refine mw_goto 131 (dT d5_scan 36 rfl) (by decide) ?_
        refine mw_iinc (dT d5_scan 68 rfl) rfl (by decide) ?_
        refine mw_goto 30 (dT d5_scan 69 rfl) (by decide) ?_
        exact At.forget [5] T
theorem s5_scan {K : mH → Prop} {x2 : Int} {h : mH} (T : (mInR 900 ∧ mInR 900) ∧ ((mInR x2 ∧ mInR (min 900 900)) ∧ ((mInR 0 ∧ mInR (min x2 (min 900 900))) ∧ (∀ h1 : mH, h1 = mSet h 20 0 3 0 → (∀ h2 : mH, h2 = mSet h1 20 0 4 0 → (A5_scan_30 K x2 (max 0 (min x2 (min 900 900))) 0 h2)))))) : OkV M5_scan [mR 20 0, mR 26 0, mI x2] h K := by
  refine Ok.of rfl (n := 3) rfl ?_
  show At (mPV K) M5_scan 0 [mR 20 0, mR 26 0, mI x2, mU, mU, mU] [] h
  refine mw_iconst (dT d5_scan 0 rfl) ?_
  refine mw_iload_n (dT d5_scan 1 rfl) rfl ?_
  refine mw_aload_n (dT d5_scan 2 rfl) rfl (by decide) ?_
  refine mw_alen ro_26 (by decide) (dT d5_scan 3 rfl) ?_
  refine mw_sipush (by decide) (dT d5_scan 4 rfl) ?_
  obtain ⟨z, T⟩ := T
  refine mw_minI mm_X5_21 (by decide) (dT d5_scan 5 rfl) rfl z ?_
  obtain ⟨z, T⟩ := T
  refine mw_minI mm_X5_21 (by decide) (dT d5_scan 6 rfl) rfl z ?_
  obtain ⟨z, T⟩ := T
  refine mw_maxI mm_X5_27 (by decide) (dT d5_scan 7 rfl) rfl z ?_
  refine mw_istore_n (dT d5_scan 8 rfl) (by decide) ?_
  refine mw_aload_n (dT d5_scan 9 rfl) rfl (by decide) ?_
  refine mw_iconst (dT d5_scan 10 rfl) ?_
  have T := T _ rfl
  refine mw_putI fp_X5_30 (dT d5_scan 11 rfl) ?_
  refine mw_aload_n (dT d5_scan 12 rfl) rfl (by decide) ?_
  refine mw_iconst (dT d5_scan 13 rfl) ?_
  have T := T _ rfl
  refine mw_putI fp_X5_34 (dT d5_scan 14 rfl) ?_
  refine mw_iconst (dT d5_scan 15 rfl) ?_
  refine mw_istore (dT d5_scan 16 rfl) (by decide) ?_
  exact T
theorem s5_put {K : mH → Prop} {x1 : Int} {x2 : Int} {x3 : Int} {h : mH} (T : (mInR (h 20 0 3)) ∧ ((h 20 0 3) < 0 → (K h)) ∧ (¬ (h 20 0 3) < 0 → ((mInR (h 20 0 3)) ∧ (901 ≤ (h 20 0 3) → (K h)) ∧ (¬ 901 ≤ (h 20 0 3) → ((0 ≤ (h 20 0 3) ∧ (h 20 0 3) < 901) ∧ (∀ h1 : mH, h1 = mSet h 21 0 (h 20 0 3) x1 → ((0 ≤ (h1 20 0 3) ∧ (h1 20 0 3) < 901) ∧ (∀ h2 : mH, h2 = mSet h1 22 0 (h1 20 0 3) x2 → ((0 ≤ (h2 20 0 3) ∧ (h2 20 0 3) < 901) ∧ (∀ h3 : mH, h3 = mSet h2 23 0 (h2 20 0 3) x3 → (∀ h4 : mH, h4 = mSet h3 20 0 3 ((h3 20 0 3) + 1) → (K h4)))))))))))) : OkV M5_put [mR 20 0, mI x1, mI x2, mI x3] h K := by
  refine Ok.of rfl (n := 0) rfl ?_
  show At (mPV K) M5_put 0 [mR 20 0, mI x1, mI x2, mI x3] [] h
  refine mw_aload_n (dT d5_put 0 rfl) rfl (by decide) ?_
  refine mw_getI fl_X5_30 (dT d5_put 1 rfl) ?_
  obtain ⟨z, T1, T2⟩ := T
  refine mw_if_lt 59 (dT d5_put 2 rfl) (by decide) z (fun z => ?_) (fun z => ?_)
  · have T := T1 z
    exact mw_vret rfl (dT d5_put 33 rfl) ⟨rfl, T⟩
  · have T := T2 z
    refine mw_aload_n (dT d5_put 3 rfl) rfl (by decide) ?_
    refine mw_getI fl_X5_30 (dT d5_put 4 rfl) ?_
    refine mw_aload_n (dT d5_put 5 rfl) rfl (by decide) ?_
    refine mw_getR fl_X5_9 (dT d5_put 6 rfl) ?_
    refine mw_alen ro_21 (by decide) (dT d5_put 7 rfl) ?_
    obtain ⟨z, T1, T2⟩ := T
    refine mw_icmp_ge 59 (dT d5_put 8 rfl) (by decide) ⟨z, by decide⟩ (fun z => ?_) (fun z => ?_)
    · have T := T1 z
      exact mw_vret rfl (dT d5_put 33 rfl) ⟨rfl, T⟩
    · have T := T2 z
      refine mw_aload_n (dT d5_put 9 rfl) rfl (by decide) ?_
      refine mw_getR fl_X5_9 (dT d5_put 10 rfl) ?_
      refine mw_aload_n (dT d5_put 11 rfl) rfl (by decide) ?_
      refine mw_getI fl_X5_30 (dT d5_put 12 rfl) ?_
      refine mw_iload_n (dT d5_put 13 rfl) rfl ?_
      obtain ⟨z, T⟩ := T
      have T := T _ rfl
      refine mw_iastore ro_21 (dT d5_put 14 rfl) z ?_
      refine mw_aload_n (dT d5_put 15 rfl) rfl (by decide) ?_
      refine mw_getR fl_X5_15 (dT d5_put 16 rfl) ?_
      refine mw_aload_n (dT d5_put 17 rfl) rfl (by decide) ?_
      refine mw_getI fl_X5_30 (dT d5_put 18 rfl) ?_
      refine mw_iload_n (dT d5_put 19 rfl) rfl ?_
      obtain ⟨z, T⟩ := T
      have T := T _ rfl
      refine mw_iastore ro_22 (dT d5_put 20 rfl) z ?_
      refine mw_aload_n (dT d5_put 21 rfl) rfl (by decide) ?_
      refine mw_getR fl_X5_18 (dT d5_put 22 rfl) ?_
      refine mw_aload_n (dT d5_put 23 rfl) rfl (by decide) ?_
      refine mw_getI fl_X5_30 (dT d5_put 24 rfl) ?_
      refine mw_iload_n (dT d5_put 25 rfl) rfl ?_
      obtain ⟨z, T⟩ := T
      have T := T _ rfl
      refine mw_iastore ro_23 (dT d5_put 26 rfl) z ?_
      refine mw_aload_n (dT d5_put 27 rfl) rfl (by decide) ?_
      refine mw_dup (dT d5_put 28 rfl) (fun _ z => by cases z) ?_
      refine mw_getI fl_X5_30 (dT d5_put 29 rfl) ?_
      refine mw_iconst (dT d5_put 30 rfl) ?_
      refine mw_iadd (dT d5_put 31 rfl) ?_
      have T := T _ rfl
      refine mw_putI fp_X5_30 (dT d5_put 32 rfl) ?_
      exact mw_vret rfl (dT d5_put 33 rfl) ⟨rfl, T⟩
abbrev A5_scanWord_11 (K : mH → Prop) (x2 x3 x4 x5 : Int) (h : mH) : Prop := At (mPV K) M5_scanWord 11 [mR 20 0, mR 26 0, mI x2, mI x3, mI x4, mI x5] [] h
abbrev A5_scanWord_57 (K : mH → Prop) (x2 x3 x4 x5 : Int) (h : mH) : Prop := At (mPV K) M5_scanWord 57 [mR 20 0, mR 26 0, mI x2, mI x3, mI x4, mI x5] [] h
theorem s5_scanWord_11 {K : mH → Prop} {x2 x3 x4 x5 : Int} {h : mH} (T : (mInR x5 ∧ mInR x2) ∧ (x2 ≤ x5 → (A5_scanWord_57 K x2 x3 x4 x5 h)) ∧ (¬ x2 ≤ x5 → ((0 ≤ x5 ∧ x5 < 900) ∧ (OkI M5_isLetter [mI (h 26 0 x5)] h (fun v1 h1 => (mInR v1) ∧ (v1 = 0 → (A5_scanWord_57 K x2 x3 x4 x5 h1)) ∧ (¬ v1 = 0 → ((0 ≤ x5 ∧ x5 < 900) ∧ (OkI M5_letterBits [mI (h1 26 0 x5), mI (x5 - x3)] h1 (fun v2 h2 => ∀ h3 : mH, h3 = mSet h2 20 0 4 (x5 + 1) → (A5_scanWord_11 K x2 x3 (mOr x4 v2) (x5 + 1) h3)))))))))) : A5_scanWord_11 K x2 x3 x4 x5 h := by
  refine mw_iload (dT d5_scanWord 7 rfl) rfl ?_
  refine mw_iload_n (dT d5_scanWord 8 rfl) rfl ?_
  obtain ⟨z, T1, T2⟩ := T
  refine mw_icmp_ge 57 (dT d5_scanWord 9 rfl) (by decide) z (fun z => ?_) (fun z => ?_)
  · have T := T1 z
    exact T
  · have T := T2 z
    refine mw_aload_n (dT d5_scanWord 10 rfl) rfl (by decide) ?_
    refine mw_iload (dT d5_scanWord 11 rfl) rfl ?_
    obtain ⟨z, T⟩ := T
    refine mw_baload ro_26 (dT d5_scanWord 12 rfl) z ?_
    refine mw_callSI mt_5_isLetter ml_X5_37 (by decide) (dT d5_scanWord 13 rfl) (as := [mI _]) rfl rfl T (fun v1 h1 T => ?_)
    obtain ⟨z, T1, T2⟩ := T
    refine mw_if_eq 57 (dT d5_scanWord 14 rfl) (by decide) z (fun z => ?_) (fun z => ?_)
    · have T := T1 z
      exact T
    · have T := T2 z
      refine mw_iload (dT d5_scanWord 15 rfl) rfl ?_
      refine mw_aload_n (dT d5_scanWord 16 rfl) rfl (by decide) ?_
      refine mw_iload (dT d5_scanWord 17 rfl) rfl ?_
      obtain ⟨z, T⟩ := T
      refine mw_baload ro_26 (dT d5_scanWord 18 rfl) z ?_
      refine mw_iload (dT d5_scanWord 19 rfl) rfl ?_
      refine mw_iload_n (dT d5_scanWord 20 rfl) rfl ?_
      refine mw_isub (dT d5_scanWord 21 rfl) ?_
      refine mw_callSI mt_5_letterBits ml_X5_55 (by decide) (dT d5_scanWord 22 rfl) (as := [mI _, mI _]) rfl rfl T (fun v2 h2 T => ?_)
      refine mw_ior (dT d5_scanWord 23 rfl) ?_
      refine mw_istore (dT d5_scanWord 24 rfl) (by decide) ?_
      refine mw_aload_n (dT d5_scanWord 25 rfl) rfl (by decide) ?_
      refine mw_iload (dT d5_scanWord 26 rfl) rfl ?_
      refine mw_iconst (dT d5_scanWord 27 rfl) ?_
      refine mw_iadd (dT d5_scanWord 28 rfl) ?_
      have T := T _ rfl
      refine mw_putI fp_X5_34 (dT d5_scanWord 29 rfl) ?_
      refine mw_iinc (dT d5_scanWord 30 rfl) rfl (by decide) ?_
      refine mw_goto 11 (dT d5_scanWord 31 rfl) (by decide) ?_
      exact T
theorem s5_scanWord_57 {K : mH → Prop} {x2 x3 x4 x5 : Int} {h : mH} (T : OkI M5_wordNumber [mI x4] h (fun v1 h1 => (mInR ((h1 20 0 4) - x3)) ∧ (((h1 20 0 4) - x3) ≤ 6 → ((mInR v1) ∧ (v1 = ((-1)) → (OkV M5_put [mR 20 0, mI 2, mI x4, mI x3] h1 (fun h2 => K h2))) ∧ (¬ v1 = ((-1)) → (OkV M5_put [mR 20 0, mI 1, mI v1, mI x3] h1 (fun h3 => K h3))))) ∧ (¬ ((h1 20 0 4) - x3) ≤ 6 → (OkV M5_put [mR 20 0, mI 5, mI 0, mI x3] h1 (fun h4 => K h4))))) : A5_scanWord_57 K x2 x3 x4 x5 h := by
  refine mw_iload (dT d5_scanWord 32 rfl) rfl ?_
  refine mw_callSI mt_5_wordNumber ml_X5_58 (by decide) (dT d5_scanWord 33 rfl) (as := [mI _]) rfl rfl T (fun v1 h1 T => ?_)
  refine mw_istore (dT d5_scanWord 34 rfl) (by decide) ?_
  refine mw_aload_n (dT d5_scanWord 35 rfl) rfl (by decide) ?_
  refine mw_getI fl_X5_34 (dT d5_scanWord 36 rfl) ?_
  refine mw_iload_n (dT d5_scanWord 37 rfl) rfl ?_
  refine mw_isub (dT d5_scanWord 38 rfl) ?_
  refine mw_bipush (by decide) (dT d5_scanWord 39 rfl) ?_
  obtain ⟨z, T1, T2⟩ := T
  refine mw_icmp_le 85 (dT d5_scanWord 40 rfl) (by decide) ⟨z, by decide⟩ (fun z => ?_) (fun z => ?_)
  · have T := T1 z
    refine mw_iload (dT d5_scanWord 47 rfl) rfl ?_
    refine mw_iconst (dT d5_scanWord 48 rfl) ?_
    obtain ⟨z, T1, T2⟩ := T
    refine mw_icmp_eq 102 (dT d5_scanWord 49 rfl) (by decide) ⟨z, by decide⟩ (fun z => ?_) (fun z => ?_)
    · have T := T1 z
      refine mw_aload_n (dT d5_scanWord 56 rfl) rfl (by decide) ?_
      refine mw_iconst (dT d5_scanWord 57 rfl) ?_
      refine mw_iload (dT d5_scanWord 58 rfl) rfl ?_
      refine mw_iload_n (dT d5_scanWord 59 rfl) rfl ?_
      refine mw_callVV mv_5_put ml_X5_51 (by decide) (dT d5_scanWord 60 rfl) (as := [mI _, mI _, mI _]) rfl rfl T (fun h2 T => ?_)
      exact mw_vret rfl (dT d5_scanWord 61 rfl) ⟨rfl, T⟩
    · have T := T2 z
      refine mw_aload_n (dT d5_scanWord 50 rfl) rfl (by decide) ?_
      refine mw_iconst (dT d5_scanWord 51 rfl) ?_
      refine mw_iload (dT d5_scanWord 52 rfl) rfl ?_
      refine mw_iload_n (dT d5_scanWord 53 rfl) rfl ?_
      refine mw_callVV mv_5_put ml_X5_51 (by decide) (dT d5_scanWord 54 rfl) (as := [mI _, mI _, mI _]) rfl rfl T (fun h3 T => ?_)
      refine mw_goto 110 (dT d5_scanWord 55 rfl) (by decide) ?_
      exact mw_vret rfl (dT d5_scanWord 61 rfl) ⟨rfl, T⟩
  · have T := T2 z
    refine mw_aload_n (dT d5_scanWord 41 rfl) rfl (by decide) ?_
    refine mw_iconst (dT d5_scanWord 42 rfl) ?_
    refine mw_iconst (dT d5_scanWord 43 rfl) ?_
    refine mw_iload_n (dT d5_scanWord 44 rfl) rfl ?_
    refine mw_callVV mv_5_put ml_X5_51 (by decide) (dT d5_scanWord 45 rfl) (as := [mI _, mI _, mI _]) rfl rfl T (fun h4 T => ?_)
    refine mw_goto 110 (dT d5_scanWord 46 rfl) (by decide) ?_
    exact mw_vret rfl (dT d5_scanWord 61 rfl) ⟨rfl, T⟩
theorem s5_scanWord {K : mH → Prop} {x2 : Int} {h : mH} (T : A5_scanWord_11 K x2 (h 20 0 4) 0 (h 20 0 4) h) : OkV M5_scanWord [mR 20 0, mR 26 0, mI x2] h K := by
  refine Ok.of rfl (n := 3) rfl ?_
  show At (mPV K) M5_scanWord 0 [mR 20 0, mR 26 0, mI x2, mU, mU, mU] [] h
  refine mw_aload_n (dT d5_scanWord 0 rfl) rfl (by decide) ?_
  refine mw_getI fl_X5_34 (dT d5_scanWord 1 rfl) ?_
  refine mw_istore_n (dT d5_scanWord 2 rfl) (by decide) ?_
  refine mw_iconst (dT d5_scanWord 3 rfl) ?_
  refine mw_istore (dT d5_scanWord 4 rfl) (by decide) ?_
  refine mw_iload_n (dT d5_scanWord 5 rfl) rfl ?_
  refine mw_istore (dT d5_scanWord 6 rfl) (by decide) ?_
  exact T
abbrev A5_scanNumber_11 (K : mH → Prop) (x2 x3 x4 x5 : Int) (h : mH) : Prop := At (mPV K) M5_scanNumber 11 [mR 20 0, mR 26 0, mI x2, mI x3, mI x4, mI x5] [] h
theorem s5_scanNumber_11 {K : mH → Prop} {x2 x3 x4 x5 : Int} {h : mH} (T : (mInR x5 ∧ mInR x2) ∧ (x2 ≤ x5 → (OkV M5_put [mR 20 0, mI 3, mI x4, mI x3] h (fun h1 => K h1))) ∧ (¬ x2 ≤ x5 → ((0 ≤ x5 ∧ x5 < 900) ∧ (OkI M5_isDigit [mI (h 26 0 x5)] h (fun v1 h2 => (mInR v1) ∧ (v1 = 0 → (OkV M5_put [mR 20 0, mI 3, mI x4, mI x3] h2 (fun h3 => K h3))) ∧ (¬ v1 = 0 → ((0 ≤ x5 ∧ x5 < 900) ∧ ((mInR 1000000 ∧ mInR (((x4 * 10) + (h2 26 0 x5)) - 48)) ∧ (∀ h4 : mH, h4 = mSet h2 20 0 4 (x5 + 1) → (A5_scanNumber_11 K x2 x3 (min 1000000 (((x4 * 10) + (h2 26 0 x5)) - 48)) (x5 + 1) h4)))))))))) : A5_scanNumber_11 K x2 x3 x4 x5 h := by
  refine mw_iload (dT d5_scanNumber 7 rfl) rfl ?_
  refine mw_iload_n (dT d5_scanNumber 8 rfl) rfl ?_
  obtain ⟨z, T1, T2⟩ := T
  refine mw_icmp_ge 61 (dT d5_scanNumber 9 rfl) (by decide) z (fun z => ?_) (fun z => ?_)
  · have T := T1 z
    refine mw_aload_n (dT d5_scanNumber 34 rfl) rfl (by decide) ?_
    refine mw_iconst (dT d5_scanNumber 35 rfl) ?_
    refine mw_iload (dT d5_scanNumber 36 rfl) rfl ?_
    refine mw_iload_n (dT d5_scanNumber 37 rfl) rfl ?_
    refine mw_callVV mv_5_put ml_X5_51 (by decide) (dT d5_scanNumber 38 rfl) (as := [mI _, mI _, mI _]) rfl rfl T (fun h1 T => ?_)
    exact mw_vret rfl (dT d5_scanNumber 39 rfl) ⟨rfl, T⟩
  · have T := T2 z
    refine mw_aload_n (dT d5_scanNumber 10 rfl) rfl (by decide) ?_
    refine mw_iload (dT d5_scanNumber 11 rfl) rfl ?_
    obtain ⟨z, T⟩ := T
    refine mw_baload ro_26 (dT d5_scanNumber 12 rfl) z ?_
    refine mw_callSI mt_5_isDigit ml_X5_45 (by decide) (dT d5_scanNumber 13 rfl) (as := [mI _]) rfl rfl T (fun v1 h2 T => ?_)
    obtain ⟨z, T1, T2⟩ := T
    refine mw_if_eq 61 (dT d5_scanNumber 14 rfl) (by decide) z (fun z => ?_) (fun z => ?_)
    · have T := T1 z
      refine mw_aload_n (dT d5_scanNumber 34 rfl) rfl (by decide) ?_
      refine mw_iconst (dT d5_scanNumber 35 rfl) ?_
      refine mw_iload (dT d5_scanNumber 36 rfl) rfl ?_
      refine mw_iload_n (dT d5_scanNumber 37 rfl) rfl ?_
      refine mw_callVV mv_5_put ml_X5_51 (by decide) (dT d5_scanNumber 38 rfl) (as := [mI _, mI _, mI _]) rfl rfl T (fun h3 T => ?_)
      exact mw_vret rfl (dT d5_scanNumber 39 rfl) ⟨rfl, T⟩
    · have T := T2 z
      refine mw_ldc kc_X5_62 (dT d5_scanNumber 15 rfl) ?_
      refine mw_iload (dT d5_scanNumber 16 rfl) rfl ?_
      refine mw_bipush (by decide) (dT d5_scanNumber 17 rfl) ?_
      refine mw_imul (dT d5_scanNumber 18 rfl) ?_
      refine mw_aload_n (dT d5_scanNumber 19 rfl) rfl (by decide) ?_
      refine mw_iload (dT d5_scanNumber 20 rfl) rfl ?_
      obtain ⟨z, T⟩ := T
      refine mw_baload ro_26 (dT d5_scanNumber 21 rfl) z ?_
      refine mw_iadd (dT d5_scanNumber 22 rfl) ?_
      refine mw_bipush (by decide) (dT d5_scanNumber 23 rfl) ?_
      refine mw_isub (dT d5_scanNumber 24 rfl) ?_
      obtain ⟨z, T⟩ := T
      refine mw_minI mm_X5_21 (by decide) (dT d5_scanNumber 25 rfl) rfl z ?_
      refine mw_istore (dT d5_scanNumber 26 rfl) (by decide) ?_
      refine mw_aload_n (dT d5_scanNumber 27 rfl) rfl (by decide) ?_
      refine mw_iload (dT d5_scanNumber 28 rfl) rfl ?_
      refine mw_iconst (dT d5_scanNumber 29 rfl) ?_
      refine mw_iadd (dT d5_scanNumber 30 rfl) ?_
      have T := T _ rfl
      refine mw_putI fp_X5_34 (dT d5_scanNumber 31 rfl) ?_
      refine mw_iinc (dT d5_scanNumber 32 rfl) rfl (by decide) ?_
      refine mw_goto 11 (dT d5_scanNumber 33 rfl) (by decide) ?_
      exact T
theorem s5_scanNumber {K : mH → Prop} {x2 : Int} {h : mH} (T : A5_scanNumber_11 K x2 (h 20 0 4) 0 (h 20 0 4) h) : OkV M5_scanNumber [mR 20 0, mR 26 0, mI x2] h K := by
  refine Ok.of rfl (n := 3) rfl ?_
  show At (mPV K) M5_scanNumber 0 [mR 20 0, mR 26 0, mI x2, mU, mU, mU] [] h
  refine mw_aload_n (dT d5_scanNumber 0 rfl) rfl (by decide) ?_
  refine mw_getI fl_X5_34 (dT d5_scanNumber 1 rfl) ?_
  refine mw_istore_n (dT d5_scanNumber 2 rfl) (by decide) ?_
  refine mw_iconst (dT d5_scanNumber 3 rfl) ?_
  refine mw_istore (dT d5_scanNumber 4 rfl) (by decide) ?_
  refine mw_iload_n (dT d5_scanNumber 5 rfl) rfl ?_
  refine mw_istore (dT d5_scanNumber 6 rfl) (by decide) ?_
  exact T
theorem s5_isLetter {K : Int → mH → Prop} {x0 : Int} {h : mH} (T : (mInR x0) ∧ (x0 < 97 → (K 0 h)) ∧ (¬ x0 < 97 → ((mInR x0) ∧ (122 < x0 → (K 0 h)) ∧ (¬ 122 < x0 → (K 1 h))))) : OkI M5_isLetter [mI x0] h K := by
  refine Ok.of rfl (n := 0) rfl ?_
  show At (mPI K) M5_isLetter 0 [mI x0] [] h
  refine mw_iload_n (dT d5_isLetter 0 rfl) rfl ?_
  refine mw_bipush (by decide) (dT d5_isLetter 1 rfl) ?_
  obtain ⟨z, T1, T2⟩ := T
  refine mw_icmp_lt 16 (dT d5_isLetter 2 rfl) (by decide) ⟨z, by decide⟩ (fun z => ?_) (fun z => ?_)
  · have T := T1 z
    refine mw_iconst (dT d5_isLetter 8 rfl) ?_
    exact mw_zret rfl (dT d5_isLetter 9 rfl) (Or.inl rfl) ⟨_, rfl, T⟩
  · have T := T2 z
    refine mw_iload_n (dT d5_isLetter 3 rfl) rfl ?_
    refine mw_bipush (by decide) (dT d5_isLetter 4 rfl) ?_
    obtain ⟨z, T1, T2⟩ := T
    refine mw_icmp_gt 16 (dT d5_isLetter 5 rfl) (by decide) ⟨z, by decide⟩ (fun z => ?_) (fun z => ?_)
    · have T := T1 z
      refine mw_iconst (dT d5_isLetter 8 rfl) ?_
      exact mw_zret rfl (dT d5_isLetter 9 rfl) (Or.inl rfl) ⟨_, rfl, T⟩
    · have T := T2 z
      refine mw_iconst (dT d5_isLetter 6 rfl) ?_
      refine mw_goto 17 (dT d5_isLetter 7 rfl) (by decide) ?_
      exact mw_zret rfl (dT d5_isLetter 9 rfl) (Or.inr rfl) ⟨_, rfl, T⟩
theorem s5_isDigit {K : Int → mH → Prop} {x0 : Int} {h : mH} (T : (mInR x0) ∧ (x0 < 48 → (K 0 h)) ∧ (¬ x0 < 48 → ((mInR x0) ∧ (57 < x0 → (K 0 h)) ∧ (¬ 57 < x0 → (K 1 h))))) : OkI M5_isDigit [mI x0] h K := by
  refine Ok.of rfl (n := 0) rfl ?_
  show At (mPI K) M5_isDigit 0 [mI x0] [] h
  refine mw_iload_n (dT d5_isDigit 0 rfl) rfl ?_
  refine mw_bipush (by decide) (dT d5_isDigit 1 rfl) ?_
  obtain ⟨z, T1, T2⟩ := T
  refine mw_icmp_lt 16 (dT d5_isDigit 2 rfl) (by decide) ⟨z, by decide⟩ (fun z => ?_) (fun z => ?_)
  · have T := T1 z
    refine mw_iconst (dT d5_isDigit 8 rfl) ?_
    exact mw_zret rfl (dT d5_isDigit 9 rfl) (Or.inl rfl) ⟨_, rfl, T⟩
  · have T := T2 z
    refine mw_iload_n (dT d5_isDigit 3 rfl) rfl ?_
    refine mw_bipush (by decide) (dT d5_isDigit 4 rfl) ?_
    obtain ⟨z, T1, T2⟩ := T
    refine mw_icmp_gt 16 (dT d5_isDigit 5 rfl) (by decide) ⟨z, by decide⟩ (fun z => ?_) (fun z => ?_)
    · have T := T1 z
      refine mw_iconst (dT d5_isDigit 8 rfl) ?_
      exact mw_zret rfl (dT d5_isDigit 9 rfl) (Or.inl rfl) ⟨_, rfl, T⟩
    · have T := T2 z
      refine mw_iconst (dT d5_isDigit 6 rfl) ?_
      refine mw_goto 17 (dT d5_isDigit 7 rfl) (by decide) ?_
      exact mw_zret rfl (dT d5_isDigit 9 rfl) (Or.inr rfl) ⟨_, rfl, T⟩
theorem s5_letterBits {K : Int → mH → Prop} {x0 : Int} {x1 : Int} {h : mH} (T : (mInR (5 - x1)) ∧ (0 ≤ (5 - x1) → (K (mShl ((x0 - 97) + 1) ((5 - x1) * 5)) h)) ∧ (¬ 0 ≤ (5 - x1) → (K 0 h))) : OkI M5_letterBits [mI x0, mI x1] h K := by
  refine Ok.of rfl (n := 1) rfl ?_
  show At (mPI K) M5_letterBits 0 [mI x0, mI x1, mU] [] h
  refine mw_iconst (dT d5_letterBits 0 rfl) ?_
  refine mw_iload_n (dT d5_letterBits 1 rfl) rfl ?_
  refine mw_isub (dT d5_letterBits 2 rfl) ?_
  refine mw_istore_n (dT d5_letterBits 3 rfl) (by decide) ?_
  refine mw_iload_n (dT d5_letterBits 4 rfl) rfl ?_
  obtain ⟨z, T1, T2⟩ := T
  refine mw_if_ge 12 (dT d5_letterBits 5 rfl) (by decide) z (fun z => ?_) (fun z => ?_)
  · have T := T1 z
    refine mw_iload_n (dT d5_letterBits 8 rfl) rfl ?_
    refine mw_bipush (by decide) (dT d5_letterBits 9 rfl) ?_
    refine mw_isub (dT d5_letterBits 10 rfl) ?_
    refine mw_iconst (dT d5_letterBits 11 rfl) ?_
    refine mw_iadd (dT d5_letterBits 12 rfl) ?_
    refine mw_iload_n (dT d5_letterBits 13 rfl) rfl ?_
    refine mw_iconst (dT d5_letterBits 14 rfl) ?_
    refine mw_imul (dT d5_letterBits 15 rfl) ?_
    refine mw_ishl (dT d5_letterBits 16 rfl) ?_
    exact mw_iret rfl (dT d5_letterBits 17 rfl) ⟨_, rfl, T⟩
  · have T := T2 z
    refine mw_iconst (dT d5_letterBits 6 rfl) ?_
    refine mw_goto 22 (dT d5_letterBits 7 rfl) (by decide) ?_
    exact mw_iret rfl (dT d5_letterBits 17 rfl) ⟨_, rfl, T⟩
