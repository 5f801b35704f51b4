/-! walks, by program (wip/whole/seg.py) -/
abbrev A0_clear_37 (K : mH → Prop) (b : Int) (x1 : Int) (h : mH) : Prop := At (mPV K) M0_clear 37 [mR 1 b, mI x1] [] h
theorem s0_clear_37 {K : mH → Prop} {b : Int} {x1 : Int} {h : mH} (T : (mInR x1) ∧ (32 ≤ x1 → (∀ h1 : mH, h1 = mSet h 1 b 6 0 → (K h1))) ∧ (¬ 32 ≤ x1 → ((0 ≤ x1 ∧ x1 < 32) ∧ (∀ h2 : mH, h2 = mSet h 6 b x1 10000 → (A0_clear_37 K b (x1 + 1) h2))))) : A0_clear_37 K b x1 h := by
  refine mw_iload_n (dT d0_clear 20 rfl) rfl ?_
  refine mw_bipush (by decide) (dT d0_clear 21 rfl) ?_
  obtain ⟨z, T1, T2⟩ := T
  refine mw_icmp_ge 58 (dT d0_clear 22 rfl) (by decide) ⟨z, by decide⟩ (fun z => ?_) (fun z => ?_)
  · have T := T1 z
    refine mw_aload_n (dT d0_clear 30 rfl) rfl (by decide) ?_
    refine mw_iconst (dT d0_clear 31 rfl) ?_
    have T := T _ rfl
    refine mw_putI fp_X0_49 (dT d0_clear 32 rfl) ?_
    exact mw_vret rfl (dT d0_clear 33 rfl) ⟨rfl, T⟩
  · have T := T2 z
    refine mw_aload_n (dT d0_clear 23 rfl) rfl (by decide) ?_
    refine mw_getR fl_X0_24 (dT d0_clear 24 rfl) ?_
    refine mw_iload_n (dT d0_clear 25 rfl) rfl ?_
    refine mw_sipush (by decide) (dT d0_clear 26 rfl) ?_
    obtain ⟨z, T⟩ := T
    have T := T _ rfl
    refine mw_iastore ro_6 (dT d0_clear 27 rfl) z ?_
    refine mw_iinc (dT d0_clear 28 rfl) rfl (by decide) ?_
    refine mw_goto 37 (dT d0_clear 29 rfl) (by decide) ?_
    exact T
theorem s0_clear {K : mH → Prop} {b : Int} {h : mH} (T : ∀ h1 : mH, h1 = mSet h 1 b 0 0 → (∀ h2 : mH, h2 = mSet h1 1 b 1 1000 → (∀ h3 : mH, h3 = mSet h2 1 b 2 250 → (∀ h4 : mH, h4 = mSet h3 1 b 3 0 → (∀ h5 : mH, h5 = mSet h4 1 b 4 99 → (∀ h6 : mH, h6 = mSet h5 1 b 5 0 → (A0_clear_37 K b 0 h6))))))) : OkV M0_clear [mR 1 b] h K := by
  refine Ok.of rfl (n := 1) rfl ?_
  show At (mPV K) M0_clear 0 [mR 1 b, mU] [] h
  refine mw_aload_n (dT d0_clear 0 rfl) rfl (by decide) ?_
  refine mw_iconst (dT d0_clear 1 rfl) ?_
  have T := T _ rfl
  refine mw_putI fp_X0_30 (dT d0_clear 2 rfl) ?_
  refine mw_aload_n (dT d0_clear 3 rfl) rfl (by decide) ?_
  refine mw_sipush (by decide) (dT d0_clear 4 rfl) ?_
  have T := T _ rfl
  refine mw_putI fp_X0_34 (dT d0_clear 5 rfl) ?_
  refine mw_aload_n (dT d0_clear 6 rfl) rfl (by decide) ?_
  refine mw_sipush (by decide) (dT d0_clear 7 rfl) ?_
  have T := T _ rfl
  refine mw_putI fp_X0_37 (dT d0_clear 8 rfl) ?_
  refine mw_aload_n (dT d0_clear 9 rfl) rfl (by decide) ?_
  refine mw_iconst (dT d0_clear 10 rfl) ?_
  have T := T _ rfl
  refine mw_putI fp_X0_40 (dT d0_clear 11 rfl) ?_
  refine mw_aload_n (dT d0_clear 12 rfl) rfl (by decide) ?_
  refine mw_bipush (by decide) (dT d0_clear 13 rfl) ?_
  have T := T _ rfl
  refine mw_putI fp_X0_43 (dT d0_clear 14 rfl) ?_
  refine mw_aload_n (dT d0_clear 15 rfl) rfl (by decide) ?_
  refine mw_iconst (dT d0_clear 16 rfl) ?_
  have T := T _ rfl
  refine mw_putI fp_X0_46 (dT d0_clear 17 rfl) ?_
  refine mw_iconst (dT d0_clear 18 rfl) ?_
  refine mw_istore_n (dT d0_clear 19 rfl) (by decide) ?_
  exact T
theorem s0_copyFrom {K : mH → Prop} {b : Int} {b1 : Int} {h : mH} (T : ∀ h1 : mH, h1 = mSet h 1 b 0 (h 1 b1 0) → (∀ h2 : mH, h2 = mSet h1 1 b 1 (h1 1 b1 1) → (∀ h3 : mH, h3 = mSet h2 1 b 2 (h2 1 b1 2) → (∀ h4 : mH, h4 = mSet h3 1 b 3 (h3 1 b1 3) → (∀ h5 : mH, h5 = mSet h4 1 b 4 (h4 1 b1 4) → (∀ h6 : mH, h6 = mSet h5 1 b 5 (h5 1 b1 5) → (∀ h7 : mH, h7 = mSet h6 1 b 6 (h6 1 b1 6) → (∀ h8 : mH, h8 = mCpy h7 2 b1 0 2 b 0 40 → (∀ h9 : mH, h9 = mCpy h8 3 b1 0 3 b 0 40 → (∀ h10 : mH, h10 = mCpy h9 4 b1 0 4 b 0 40 → (∀ h11 : mH, h11 = mCpy h10 5 b1 0 5 b 0 40 → (∀ h12 : mH, h12 = mCpy h11 6 b1 0 6 b 0 32 → (K h12))))))))))))) : OkV M0_copyFrom [mR 1 b, mR 1 b1] h K := by
  refine Ok.of rfl (n := 0) rfl ?_
  show At (mPV K) M0_copyFrom 0 [mR 1 b, mR 1 b1] [] h
  refine mw_aload_n (dT d0_copyFrom 0 rfl) rfl (by decide) ?_
  refine mw_aload_n (dT d0_copyFrom 1 rfl) rfl (by decide) ?_
  refine mw_getI fl_X0_30 (dT d0_copyFrom 2 rfl) ?_
  have T := T _ rfl
  refine mw_putI fp_X0_30 (dT d0_copyFrom 3 rfl) ?_
  refine mw_aload_n (dT d0_copyFrom 4 rfl) rfl (by decide) ?_
  refine mw_aload_n (dT d0_copyFrom 5 rfl) rfl (by decide) ?_
  refine mw_getI fl_X0_34 (dT d0_copyFrom 6 rfl) ?_
  have T := T _ rfl
  refine mw_putI fp_X0_34 (dT d0_copyFrom 7 rfl) ?_
  refine mw_aload_n (dT d0_copyFrom 8 rfl) rfl (by decide) ?_
  refine mw_aload_n (dT d0_copyFrom 9 rfl) rfl (by decide) ?_
  refine mw_getI fl_X0_37 (dT d0_copyFrom 10 rfl) ?_
  have T := T _ rfl
  refine mw_putI fp_X0_37 (dT d0_copyFrom 11 rfl) ?_
  refine mw_aload_n (dT d0_copyFrom 12 rfl) rfl (by decide) ?_
  refine mw_aload_n (dT d0_copyFrom 13 rfl) rfl (by decide) ?_
  refine mw_getI fl_X0_40 (dT d0_copyFrom 14 rfl) ?_
  have T := T _ rfl
  refine mw_putI fp_X0_40 (dT d0_copyFrom 15 rfl) ?_
  refine mw_aload_n (dT d0_copyFrom 16 rfl) rfl (by decide) ?_
  refine mw_aload_n (dT d0_copyFrom 17 rfl) rfl (by decide) ?_
  refine mw_getI fl_X0_43 (dT d0_copyFrom 18 rfl) ?_
  have T := T _ rfl
  refine mw_putI fp_X0_43 (dT d0_copyFrom 19 rfl) ?_
  refine mw_aload_n (dT d0_copyFrom 20 rfl) rfl (by decide) ?_
  refine mw_aload_n (dT d0_copyFrom 21 rfl) rfl (by decide) ?_
  refine mw_getI fl_X0_46 (dT d0_copyFrom 22 rfl) ?_
  have T := T _ rfl
  refine mw_putI fp_X0_46 (dT d0_copyFrom 23 rfl) ?_
  refine mw_aload_n (dT d0_copyFrom 24 rfl) rfl (by decide) ?_
  refine mw_aload_n (dT d0_copyFrom 25 rfl) rfl (by decide) ?_
  refine mw_getI fl_X0_49 (dT d0_copyFrom 26 rfl) ?_
  have T := T _ rfl
  refine mw_putI fp_X0_49 (dT d0_copyFrom 27 rfl) ?_
  refine mw_aload_n (dT d0_copyFrom 28 rfl) rfl (by decide) ?_
  refine mw_getR fl_X0_9 (dT d0_copyFrom 29 rfl) ?_
  refine mw_iconst (dT d0_copyFrom 30 rfl) ?_
  refine mw_aload_n (dT d0_copyFrom 31 rfl) rfl (by decide) ?_
  refine mw_getR fl_X0_9 (dT d0_copyFrom 32 rfl) ?_
  refine mw_iconst (dT d0_copyFrom 33 rfl) ?_
  refine mw_bipush (by decide) (dT d0_copyFrom 34 rfl) ?_
  have T := T _ rfl
  refine mw_copyI ac_X0_52 (by decide) ro_2 ro_2 (dT d0_copyFrom 35 rfl) rfl (by decide) ?_
  refine mw_aload_n (dT d0_copyFrom 36 rfl) rfl (by decide) ?_
  refine mw_getR fl_X0_15 (dT d0_copyFrom 37 rfl) ?_
  refine mw_iconst (dT d0_copyFrom 38 rfl) ?_
  refine mw_aload_n (dT d0_copyFrom 39 rfl) rfl (by decide) ?_
  refine mw_getR fl_X0_15 (dT d0_copyFrom 40 rfl) ?_
  refine mw_iconst (dT d0_copyFrom 41 rfl) ?_
  refine mw_bipush (by decide) (dT d0_copyFrom 42 rfl) ?_
  have T := T _ rfl
  refine mw_copyI ac_X0_52 (by decide) ro_3 ro_3 (dT d0_copyFrom 43 rfl) rfl (by decide) ?_
  refine mw_aload_n (dT d0_copyFrom 44 rfl) rfl (by decide) ?_
  refine mw_getR fl_X0_18 (dT d0_copyFrom 45 rfl) ?_
  refine mw_iconst (dT d0_copyFrom 46 rfl) ?_
  refine mw_aload_n (dT d0_copyFrom 47 rfl) rfl (by decide) ?_
  refine mw_getR fl_X0_18 (dT d0_copyFrom 48 rfl) ?_
  refine mw_iconst (dT d0_copyFrom 49 rfl) ?_
  refine mw_bipush (by decide) (dT d0_copyFrom 50 rfl) ?_
  have T := T _ rfl
  refine mw_copyI ac_X0_52 (by decide) ro_4 ro_4 (dT d0_copyFrom 51 rfl) rfl (by decide) ?_
  refine mw_aload_n (dT d0_copyFrom 52 rfl) rfl (by decide) ?_
  refine mw_getR fl_X0_21 (dT d0_copyFrom 53 rfl) ?_
  refine mw_iconst (dT d0_copyFrom 54 rfl) ?_
  refine mw_aload_n (dT d0_copyFrom 55 rfl) rfl (by decide) ?_
  refine mw_getR fl_X0_21 (dT d0_copyFrom 56 rfl) ?_
  refine mw_iconst (dT d0_copyFrom 57 rfl) ?_
  refine mw_bipush (by decide) (dT d0_copyFrom 58 rfl) ?_
  have T := T _ rfl
  refine mw_copyI ac_X0_52 (by decide) ro_5 ro_5 (dT d0_copyFrom 59 rfl) rfl (by decide) ?_
  refine mw_aload_n (dT d0_copyFrom 60 rfl) rfl (by decide) ?_
  refine mw_getR fl_X0_24 (dT d0_copyFrom 61 rfl) ?_
  refine mw_iconst (dT d0_copyFrom 62 rfl) ?_
  refine mw_aload_n (dT d0_copyFrom 63 rfl) rfl (by decide) ?_
  refine mw_getR fl_X0_24 (dT d0_copyFrom 64 rfl) ?_
  refine mw_iconst (dT d0_copyFrom 65 rfl) ?_
  refine mw_bipush (by decide) (dT d0_copyFrom 66 rfl) ?_
  have T := T _ rfl
  refine mw_copyI ac_X0_52 (by decide) ro_6 ro_6 (dT d0_copyFrom 67 rfl) rfl (by decide) ?_
  exact mw_vret rfl (dT d0_copyFrom 68 rfl) ⟨rfl, T⟩
theorem s0_hasRisk {K : Int → mH → Prop} {b : Int} {x1 : Int} {h : mH} (T : (mInR x1) ∧ (x1 < 0 → (K 0 h)) ∧ (¬ x1 < 0 → ((mInR x1 ∧ mInR (h 1 b 0)) ∧ ((h 1 b 0) ≤ x1 → (K 0 h)) ∧ (¬ (h 1 b 0) ≤ x1 → (K 1 h))))) : OkI M0_hasRisk [mR 1 b, mI x1] h K := by
  refine Ok.of rfl (n := 0) rfl ?_
  show At (mPI K) M0_hasRisk 0 [mR 1 b, mI x1] [] h
  refine mw_iload_n (dT d0_hasRisk 0 rfl) rfl ?_
  obtain ⟨z, T1, T2⟩ := T
  refine mw_if_lt 16 (dT d0_hasRisk 1 rfl) (by decide) z (fun z => ?_) (fun z => ?_)
  · have T := T1 z
    refine mw_iconst (dT d0_hasRisk 8 rfl) ?_
    exact mw_zret rfl (dT d0_hasRisk 9 rfl) (Or.inl rfl) ⟨_, rfl, T⟩
  · have T := T2 z
    refine mw_iload_n (dT d0_hasRisk 2 rfl) rfl ?_
    refine mw_aload_n (dT d0_hasRisk 3 rfl) rfl (by decide) ?_
    refine mw_getI fl_X0_30 (dT d0_hasRisk 4 rfl) ?_
    obtain ⟨z, T1, T2⟩ := T
    refine mw_icmp_ge 16 (dT d0_hasRisk 5 rfl) (by decide) z (fun z => ?_) (fun z => ?_)
    · have T := T1 z
      refine mw_iconst (dT d0_hasRisk 8 rfl) ?_
      exact mw_zret rfl (dT d0_hasRisk 9 rfl) (Or.inl rfl) ⟨_, rfl, T⟩
    · have T := T2 z
      refine mw_iconst (dT d0_hasRisk 6 rfl) ?_
      refine mw_goto 17 (dT d0_hasRisk 7 rfl) (by decide) ?_
      exact mw_zret rfl (dT d0_hasRisk 9 rfl) (Or.inr rfl) ⟨_, rfl, T⟩
theorem s0_addRisk {K : mH → Prop} {b : Int} {x1 : Int} {x2 : Int} {x3 : Int} {x4 : Int} {h : mH} (T : (mInR (h 1 b 0)) ∧ (40 ≤ (h 1 b 0) → (K h)) ∧ (¬ 40 ≤ (h 1 b 0) → ((0 ≤ (h 1 b 0) ∧ (h 1 b 0) < 40) ∧ (∀ h1 : mH, h1 = mSet h 2 b (h 1 b 0) x1 → ((0 ≤ (h1 1 b 0) ∧ (h1 1 b 0) < 40) ∧ (∀ h2 : mH, h2 = mSet h1 3 b (h1 1 b 0) x2 → ((0 ≤ (h2 1 b 0) ∧ (h2 1 b 0) < 40) ∧ (∀ h3 : mH, h3 = mSet h2 4 b (h2 1 b 0) x3 → ((0 ≤ (h3 1 b 0) ∧ (h3 1 b 0) < 40) ∧ (∀ h4 : mH, h4 = mSet h3 5 b (h3 1 b 0) x4 → (∀ h5 : mH, h5 = mSet h4 1 b 0 ((h4 1 b 0) + 1) → (K h5)))))))))))) : OkV M0_addRisk [mR 1 b, mI x1, mI x2, mI x3, mI x4] h K := by
  refine Ok.of rfl (n := 0) rfl ?_
  show At (mPV K) M0_addRisk 0 [mR 1 b, mI x1, mI x2, mI x3, mI x4] [] h
  refine mw_aload_n (dT d0_addRisk 0 rfl) rfl (by decide) ?_
  refine mw_getI fl_X0_30 (dT d0_addRisk 1 rfl) ?_
  refine mw_bipush (by decide) (dT d0_addRisk 2 rfl) ?_
  obtain ⟨z, T1, T2⟩ := T
  refine mw_icmp_ge 60 (dT d0_addRisk 3 rfl) (by decide) ⟨z, by decide⟩ (fun z => ?_) (fun z => ?_)
  · have T := T1 z
    exact mw_vret rfl (dT d0_addRisk 34 rfl) ⟨rfl, T⟩
  · have T := T2 z
    refine mw_aload_n (dT d0_addRisk 4 rfl) rfl (by decide) ?_
    refine mw_getR fl_X0_9 (dT d0_addRisk 5 rfl) ?_
    refine mw_aload_n (dT d0_addRisk 6 rfl) rfl (by decide) ?_
    refine mw_getI fl_X0_30 (dT d0_addRisk 7 rfl) ?_
    refine mw_iload_n (dT d0_addRisk 8 rfl) rfl ?_
    obtain ⟨z, T⟩ := T
    have T := T _ rfl
    refine mw_iastore ro_2 (dT d0_addRisk 9 rfl) z ?_
    refine mw_aload_n (dT d0_addRisk 10 rfl) rfl (by decide) ?_
    refine mw_getR fl_X0_15 (dT d0_addRisk 11 rfl) ?_
    refine mw_aload_n (dT d0_addRisk 12 rfl) rfl (by decide) ?_
    refine mw_getI fl_X0_30 (dT d0_addRisk 13 rfl) ?_
    refine mw_iload_n (dT d0_addRisk 14 rfl) rfl ?_
    obtain ⟨z, T⟩ := T
    have T := T _ rfl
    refine mw_iastore ro_3 (dT d0_addRisk 15 rfl) z ?_
    refine mw_aload_n (dT d0_addRisk 16 rfl) rfl (by decide) ?_
    refine mw_getR fl_X0_18 (dT d0_addRisk 17 rfl) ?_
    refine mw_aload_n (dT d0_addRisk 18 rfl) rfl (by decide) ?_
    refine mw_getI fl_X0_30 (dT d0_addRisk 19 rfl) ?_
    refine mw_iload_n (dT d0_addRisk 20 rfl) rfl ?_
    obtain ⟨z, T⟩ := T
    have T := T _ rfl
    refine mw_iastore ro_4 (dT d0_addRisk 21 rfl) z ?_
    refine mw_aload_n (dT d0_addRisk 22 rfl) rfl (by decide) ?_
    refine mw_getR fl_X0_21 (dT d0_addRisk 23 rfl) ?_
    refine mw_aload_n (dT d0_addRisk 24 rfl) rfl (by decide) ?_
    refine mw_getI fl_X0_30 (dT d0_addRisk 25 rfl) ?_
    refine mw_iload (dT d0_addRisk 26 rfl) rfl ?_
    obtain ⟨z, T⟩ := T
    have T := T _ rfl
    refine mw_iastore ro_5 (dT d0_addRisk 27 rfl) z ?_
    refine mw_aload_n (dT d0_addRisk 28 rfl) rfl (by decide) ?_
    refine mw_dup (dT d0_addRisk 29 rfl) (fun _ z => by cases z) ?_
    refine mw_getI fl_X0_30 (dT d0_addRisk 30 rfl) ?_
    refine mw_iconst (dT d0_addRisk 31 rfl) ?_
    refine mw_iadd (dT d0_addRisk 32 rfl) ?_
    have T := T _ rfl
    refine mw_putI fp_X0_30 (dT d0_addRisk 33 rfl) ?_
    exact mw_vret rfl (dT d0_addRisk 34 rfl) ⟨rfl, T⟩
abbrev A0_removeRisk_21 (K : mH → Prop) (b : Int) (x1 x2 : Int) (h : mH) : Prop := At (mPV K) M0_removeRisk 21 [mR 1 b, mI x1, mI x2] [] h
theorem s0_removeRisk_21 {K : mH → Prop} {b : Int} {x1 x2 : Int} {h : mH} (T : (mInR x2 ∧ mInR (h 1 b 0)) ∧ ((h 1 b 0) ≤ x2 → (K h)) ∧ (¬ (h 1 b 0) ≤ x2 → ((0 ≤ (x2 + 1) ∧ (x2 + 1) < 40) ∧ ((0 ≤ x2 ∧ x2 < 40) ∧ (∀ h1 : mH, h1 = mSet h 2 b x2 (h 2 b (x2 + 1)) → ((0 ≤ (x2 + 1) ∧ (x2 + 1) < 40) ∧ ((0 ≤ x2 ∧ x2 < 40) ∧ (∀ h2 : mH, h2 = mSet h1 3 b x2 (h1 3 b (x2 + 1)) → ((0 ≤ (x2 + 1) ∧ (x2 + 1) < 40) ∧ ((0 ≤ x2 ∧ x2 < 40) ∧ (∀ h3 : mH, h3 = mSet h2 4 b x2 (h2 4 b (x2 + 1)) → ((0 ≤ (x2 + 1) ∧ (x2 + 1) < 40) ∧ ((0 ≤ x2 ∧ x2 < 40) ∧ (∀ h4 : mH, h4 = mSet h3 5 b x2 (h3 5 b (x2 + 1)) → (A0_removeRisk_21 K b x1 (x2 + 1) h4))))))))))))))) : A0_removeRisk_21 K b x1 x2 h := by
  refine mw_iload_n (dT d0_removeRisk 13 rfl) rfl ?_
  refine mw_aload_n (dT d0_removeRisk 14 rfl) rfl (by decide) ?_
  refine mw_getI fl_X0_30 (dT d0_removeRisk 15 rfl) ?_
  obtain ⟨z, T1, T2⟩ := T
  refine mw_icmp_ge 91 (dT d0_removeRisk 16 rfl) (by decide) z (fun z => ?_) (fun z => ?_)
  · have T := T1 z
    exact mw_vret rfl (dT d0_removeRisk 59 rfl) ⟨rfl, T⟩
  · have T := T2 z
    refine mw_aload_n (dT d0_removeRisk 17 rfl) rfl (by decide) ?_
    refine mw_getR fl_X0_9 (dT d0_removeRisk 18 rfl) ?_
    refine mw_iload_n (dT d0_removeRisk 19 rfl) rfl ?_
    refine mw_aload_n (dT d0_removeRisk 20 rfl) rfl (by decide) ?_
    refine mw_getR fl_X0_9 (dT d0_removeRisk 21 rfl) ?_
    refine mw_iload_n (dT d0_removeRisk 22 rfl) rfl ?_
    refine mw_iconst (dT d0_removeRisk 23 rfl) ?_
    refine mw_iadd (dT d0_removeRisk 24 rfl) ?_
    obtain ⟨z, T⟩ := T
    refine mw_iaload ro_2 (dT d0_removeRisk 25 rfl) z ?_
    obtain ⟨z, T⟩ := T
    have T := T _ rfl
    refine mw_iastore ro_2 (dT d0_removeRisk 26 rfl) z ?_
    refine mw_aload_n (dT d0_removeRisk 27 rfl) rfl (by decide) ?_
    refine mw_getR fl_X0_15 (dT d0_removeRisk 28 rfl) ?_
    refine mw_iload_n (dT d0_removeRisk 29 rfl) rfl ?_
    refine mw_aload_n (dT d0_removeRisk 30 rfl) rfl (by decide) ?_
    refine mw_getR fl_X0_15 (dT d0_removeRisk 31 rfl) ?_
    refine mw_iload_n (dT d0_removeRisk 32 rfl) rfl ?_
    refine mw_iconst (dT d0_removeRisk 33 rfl) ?_
    refine mw_iadd (dT d0_removeRisk 34 rfl) ?_
    obtain ⟨z, T⟩ := T
    refine mw_iaload ro_3 (dT d0_removeRisk 35 rfl) z ?_
    obtain ⟨z, T⟩ := T
    have T := T _ rfl
    refine mw_iastore ro_3 (dT d0_removeRisk 36 rfl) z ?_
    refine mw_aload_n (dT d0_removeRisk 37 rfl) rfl (by decide) ?_
    refine mw_getR fl_X0_18 (dT d0_removeRisk 38 rfl) ?_
    refine mw_iload_n (dT d0_removeRisk 39 rfl) rfl ?_
    refine mw_aload_n (dT d0_removeRisk 40 rfl) rfl (by decide) ?_
    refine mw_getR fl_X0_18 (dT d0_removeRisk 41 rfl) ?_
    refine mw_iload_n (dT d0_removeRisk 42 rfl) rfl ?_
    refine mw_iconst (dT d0_removeRisk 43 rfl) ?_
    refine mw_iadd (dT d0_removeRisk 44 rfl) ?_
    obtain ⟨z, T⟩ := T
    refine mw_iaload ro_4 (dT d0_removeRisk 45 rfl) z ?_
    obtain ⟨z, T⟩ := T
    have T := T _ rfl
    refine mw_iastore ro_4 (dT d0_removeRisk 46 rfl) z ?_
    refine mw_aload_n (dT d0_removeRisk 47 rfl) rfl (by decide) ?_
    refine mw_getR fl_X0_21 (dT d0_removeRisk 48 rfl) ?_
    refine mw_iload_n (dT d0_removeRisk 49 rfl) rfl ?_
    refine mw_aload_n (dT d0_removeRisk 50 rfl) rfl (by decide) ?_
    refine mw_getR fl_X0_21 (dT d0_removeRisk 51 rfl) ?_
    refine mw_iload_n (dT d0_removeRisk 52 rfl) rfl ?_
    refine mw_iconst (dT d0_removeRisk 53 rfl) ?_
    refine mw_iadd (dT d0_removeRisk 54 rfl) ?_
    obtain ⟨z, T⟩ := T
    refine mw_iaload ro_5 (dT d0_removeRisk 55 rfl) z ?_
    obtain ⟨z, T⟩ := T
    have T := T _ rfl
    refine mw_iastore ro_5 (dT d0_removeRisk 56 rfl) z ?_
    refine mw_iinc (dT d0_removeRisk 57 rfl) rfl (by decide) ?_
    refine mw_goto 21 (dT d0_removeRisk 58 rfl) (by decide) ?_
    exact T
theorem s0_removeRisk {K : mH → Prop} {b : Int} {x1 : Int} {h : mH} (T : OkI M0_hasRisk [mR 1 b, mI x1] h (fun v1 h1 => (mInR v1) ∧ (¬ v1 = 0 → (∀ h2 : mH, h2 = mSet h1 1 b 0 ((h1 1 b 0) - 1) → (A0_removeRisk_21 K b x1 x1 h2))) ∧ (v1 = 0 → (K h1)))) : OkV M0_removeRisk [mR 1 b, mI x1] h K := by
  refine Ok.of rfl (n := 1) rfl ?_
  show At (mPV K) M0_removeRisk 0 [mR 1 b, mI x1, mU] [] h
  refine mw_aload_n (dT d0_removeRisk 0 rfl) rfl (by decide) ?_
  refine mw_iload_n (dT d0_removeRisk 1 rfl) rfl ?_
  refine mw_callVI mv_0_hasRisk ml_X0_58 (by decide) (dT d0_removeRisk 2 rfl) (as := [mI _]) rfl rfl T (fun v1 h1 T => ?_)
  obtain ⟨z, T1, T2⟩ := T
  refine mw_if_ne 9 (dT d0_removeRisk 3 rfl) (by decide) z (fun z => ?_) (fun z => ?_)
  · have T := T1 z
    refine mw_aload_n (dT d0_removeRisk 5 rfl) rfl (by decide) ?_
    refine mw_dup (dT d0_removeRisk 6 rfl) (fun _ z => by cases z) ?_
    refine mw_getI fl_X0_30 (dT d0_removeRisk 7 rfl) ?_
    refine mw_iconst (dT d0_removeRisk 8 rfl) ?_
    refine mw_isub (dT d0_removeRisk 9 rfl) ?_
    have T := T _ rfl
    refine mw_putI fp_X0_30 (dT d0_removeRisk 10 rfl) ?_
    refine mw_iload_n (dT d0_removeRisk 11 rfl) rfl ?_
    refine mw_istore_n (dT d0_removeRisk 12 rfl) (by decide) ?_
    exact T
  · have T := T2 z
    exact mw_vret rfl (dT d0_removeRisk 4 rfl) ⟨rfl, T⟩
theorem s0_isJoined {K : Int → mH → Prop} {b : Int} {x1 : Int} {x2 : Int} {h : mH} (T : OkI M6_slot [mI x1, mI x2] h (fun v1 h1 => (mInR (mAnd (mShr (h 1 b 6) v1) 1)) ∧ ((mAnd (mShr (h 1 b 6) v1) 1) = 0 → (K 0 h1)) ∧ (¬ (mAnd (mShr (h 1 b 6) v1) 1) = 0 → (K 1 h1)))) : OkI M0_isJoined [mR 1 b, mI x1, mI x2] h K := by
  refine Ok.of rfl (n := 0) rfl ?_
  show At (mPI K) M0_isJoined 0 [mR 1 b, mI x1, mI x2] [] h
  refine mw_aload_n (dT d0_isJoined 0 rfl) rfl (by decide) ?_
  refine mw_getI fl_X0_49 (dT d0_isJoined 1 rfl) ?_
  refine mw_iload_n (dT d0_isJoined 2 rfl) rfl ?_
  refine mw_iload_n (dT d0_isJoined 3 rfl) rfl ?_
  refine mw_callNI mt_6_slot (host := "RateOffice") (by decide) (by decide) (dT d0_isJoined 4 rfl) (as := [mI _, mI _]) rfl rfl T (fun v1 h1 T => ?_)
  refine mw_ishr (dT d0_isJoined 5 rfl) ?_
  refine mw_iconst (dT d0_isJoined 6 rfl) ?_
  refine mw_iand (dT d0_isJoined 7 rfl) ?_
  obtain ⟨z, T1, T2⟩ := T
  refine mw_if_eq 19 (dT d0_isJoined 8 rfl) (by decide) z (fun z => ?_) (fun z => ?_)
  · have T := T1 z
    refine mw_iconst (dT d0_isJoined 11 rfl) ?_
    exact mw_zret rfl (dT d0_isJoined 12 rfl) (Or.inl rfl) ⟨_, rfl, T⟩
  · have T := T2 z
    refine mw_iconst (dT d0_isJoined 9 rfl) ?_
    refine mw_goto 20 (dT d0_isJoined 10 rfl) (by decide) ?_
    exact mw_zret rfl (dT d0_isJoined 12 rfl) (Or.inr rfl) ⟨_, rfl, T⟩
theorem s0_startsClass {K : Int → mH → Prop} {b : Int} {x1 : Int} {x2 : Int} {h : mH} (T : (mInR x2) ∧ (x2 ≤ 0 → (K 1 h)) ∧ (¬ x2 ≤ 0 → (OkI M0_isJoined [mR 1 b, mI x1, mI (x2 - 1)] h (fun v1 h1 => (mInR v1) ∧ (¬ v1 = 0 → (K 0 h1)) ∧ (v1 = 0 → (K 1 h1)))))) : OkI M0_startsClass [mR 1 b, mI x1, mI x2] h K := by
  refine Ok.of rfl (n := 0) rfl ?_
  show At (mPI K) M0_startsClass 0 [mR 1 b, mI x1, mI x2] [] h
  refine mw_iload_n (dT d0_startsClass 0 rfl) rfl ?_
  obtain ⟨z, T1, T2⟩ := T
  refine mw_if_le 15 (dT d0_startsClass 1 rfl) (by decide) z (fun z => ?_) (fun z => ?_)
  · have T := T1 z
    refine mw_iconst (dT d0_startsClass 9 rfl) ?_
    refine mw_goto 20 (dT d0_startsClass 10 rfl) (by decide) ?_
    exact mw_zret rfl (dT d0_startsClass 12 rfl) (Or.inr rfl) ⟨_, rfl, T⟩
  · have T := T2 z
    refine mw_aload_n (dT d0_startsClass 2 rfl) rfl (by decide) ?_
    refine mw_iload_n (dT d0_startsClass 3 rfl) rfl ?_
    refine mw_iload_n (dT d0_startsClass 4 rfl) rfl ?_
    refine mw_iconst (dT d0_startsClass 5 rfl) ?_
    refine mw_isub (dT d0_startsClass 6 rfl) ?_
    refine mw_callVI mv_0_isJoined ml_X0_66 (by decide) (dT d0_startsClass 7 rfl) (as := [mI _, mI _]) rfl rfl T (fun v1 h1 T => ?_)
    obtain ⟨z, T1, T2⟩ := T
    refine mw_if_ne 19 (dT d0_startsClass 8 rfl) (by decide) z (fun z => ?_) (fun z => ?_)
    · have T := T1 z
      refine mw_iconst (dT d0_startsClass 11 rfl) ?_
      exact mw_zret rfl (dT d0_startsClass 12 rfl) (Or.inl rfl) ⟨_, rfl, T⟩
    · have T := T2 z
      refine mw_iconst (dT d0_startsClass 9 rfl) ?_
      refine mw_goto 20 (dT d0_startsClass 10 rfl) (by decide) ?_
      exact mw_zret rfl (dT d0_startsClass 12 rfl) (Or.inr rfl) ⟨_, rfl, T⟩
abbrev A0_firstOf_5 (K : Int → mH → Prop) (b : Int) (x1 x2 x3 x4 : Int) (h : mH) : Prop := At (mPI K) M0_firstOf 5 [mR 1 b, mI x1, mI x2, mI x3, mI x4] [] h
theorem s0_firstOf_5 {K : Int → mH → Prop} {b : Int} {x1 x2 x3 x4 : Int} {h : mH} (T : (mInR x4) ∧ (6 ≤ x4 → (K x3 h)) ∧ (¬ 6 ≤ x4 → ((mInR x3) ∧ (x3 ≤ 0 → (K x3 h)) ∧ (¬ x3 ≤ 0 → (OkI M0_isJoined [mR 1 b, mI x1, mI (x3 - 1)] h (fun v1 h1 => (mInR v1) ∧ (v1 = 0 → (K x3 h1)) ∧ (¬ v1 = 0 → (A0_firstOf_5 K b x1 x2 (x3 + (-1)) (x4 + 1) h1)))))))) : A0_firstOf_5 K b x1 x2 x3 x4 h := by
  refine mw_iload (dT d0_firstOf 4 rfl) rfl ?_
  refine mw_bipush (by decide) (dT d0_firstOf 5 rfl) ?_
  obtain ⟨z, T1, T2⟩ := T
  refine mw_icmp_ge 36 (dT d0_firstOf 6 rfl) (by decide) ⟨z, by decide⟩ (fun z => ?_) (fun z => ?_)
  · have T := T1 z
    refine mw_iload_n (dT d0_firstOf 19 rfl) rfl ?_
    exact mw_iret rfl (dT d0_firstOf 20 rfl) ⟨_, rfl, T⟩
  · have T := T2 z
    refine mw_iload_n (dT d0_firstOf 7 rfl) rfl ?_
    obtain ⟨z, T1, T2⟩ := T
    refine mw_if_le 36 (dT d0_firstOf 8 rfl) (by decide) z (fun z => ?_) (fun z => ?_)
    · have T := T1 z
      refine mw_iload_n (dT d0_firstOf 19 rfl) rfl ?_
      exact mw_iret rfl (dT d0_firstOf 20 rfl) ⟨_, rfl, T⟩
    · have T := T2 z
      refine mw_aload_n (dT d0_firstOf 9 rfl) rfl (by decide) ?_
      refine mw_iload_n (dT d0_firstOf 10 rfl) rfl ?_
      refine mw_iload_n (dT d0_firstOf 11 rfl) rfl ?_
      refine mw_iconst (dT d0_firstOf 12 rfl) ?_
      refine mw_isub (dT d0_firstOf 13 rfl) ?_
      refine mw_callVI mv_0_isJoined ml_X0_66 (by decide) (dT d0_firstOf 14 rfl) (as := [mI _, mI _]) rfl rfl T (fun v1 h1 T => ?_)
      obtain ⟨z, T1, T2⟩ := T
      refine mw_if_eq 36 (dT d0_firstOf 15 rfl) (by decide) z (fun z => ?_) (fun z => ?_)
      · have T := T1 z
        refine mw_iload_n (dT d0_firstOf 19 rfl) rfl ?_
        exact mw_iret rfl (dT d0_firstOf 20 rfl) ⟨_, rfl, T⟩
      · have T := T2 z
        refine mw_iinc (dT d0_firstOf 16 rfl) rfl (by decide) ?_
        refine mw_iinc (dT d0_firstOf 17 rfl) rfl (by decide) ?_
        refine mw_goto 5 (dT d0_firstOf 18 rfl) (by decide) ?_
        exact T
theorem s0_firstOf {K : Int → mH → Prop} {b : Int} {x1 : Int} {x2 : Int} {h : mH} (T : A0_firstOf_5 K b x1 x2 x2 0 h) : OkI M0_firstOf [mR 1 b, mI x1, mI x2] h K := by
  refine Ok.of rfl (n := 2) rfl ?_
  show At (mPI K) M0_firstOf 0 [mR 1 b, mI x1, mI x2, mU, mU] [] h
  refine mw_iload_n (dT d0_firstOf 0 rfl) rfl ?_
  refine mw_istore_n (dT d0_firstOf 1 rfl) (by decide) ?_
  refine mw_iconst (dT d0_firstOf 2 rfl) ?_
  refine mw_istore (dT d0_firstOf 3 rfl) (by decide) ?_
  exact T
abbrev A0_lastOf_5 (K : Int → mH → Prop) (b : Int) (x1 x2 x3 x4 : Int) (h : mH) : Prop := At (mPI K) M0_lastOf 5 [mR 1 b, mI x1, mI x2, mI x3, mI x4] [] h
theorem s0_lastOf_5 {K : Int → mH → Prop} {b : Int} {x1 x2 x3 x4 : Int} {h : mH} (T : (mInR x4) ∧ (6 ≤ x4 → (K x3 h)) ∧ (¬ 6 ≤ x4 → ((mInR x3) ∧ (5 ≤ x3 → (K x3 h)) ∧ (¬ 5 ≤ x3 → (OkI M0_isJoined [mR 1 b, mI x1, mI x3] h (fun v1 h1 => (mInR v1) ∧ (v1 = 0 → (K x3 h1)) ∧ (¬ v1 = 0 → (A0_lastOf_5 K b x1 x2 (x3 + 1) (x4 + 1) h1)))))))) : A0_lastOf_5 K b x1 x2 x3 x4 h := by
  refine mw_iload (dT d0_lastOf 4 rfl) rfl ?_
  refine mw_bipush (by decide) (dT d0_lastOf 5 rfl) ?_
  obtain ⟨z, T1, T2⟩ := T
  refine mw_icmp_ge 35 (dT d0_lastOf 6 rfl) (by decide) ⟨z, by decide⟩ (fun z => ?_) (fun z => ?_)
  · have T := T1 z
    refine mw_iload_n (dT d0_lastOf 18 rfl) rfl ?_
    exact mw_iret rfl (dT d0_lastOf 19 rfl) ⟨_, rfl, T⟩
  · have T := T2 z
    refine mw_iload_n (dT d0_lastOf 7 rfl) rfl ?_
    refine mw_iconst (dT d0_lastOf 8 rfl) ?_
    obtain ⟨z, T1, T2⟩ := T
    refine mw_icmp_ge 35 (dT d0_lastOf 9 rfl) (by decide) ⟨z, by decide⟩ (fun z => ?_) (fun z => ?_)
    · have T := T1 z
      refine mw_iload_n (dT d0_lastOf 18 rfl) rfl ?_
      exact mw_iret rfl (dT d0_lastOf 19 rfl) ⟨_, rfl, T⟩
    · have T := T2 z
      refine mw_aload_n (dT d0_lastOf 10 rfl) rfl (by decide) ?_
      refine mw_iload_n (dT d0_lastOf 11 rfl) rfl ?_
      refine mw_iload_n (dT d0_lastOf 12 rfl) rfl ?_
      refine mw_callVI mv_0_isJoined ml_X0_66 (by decide) (dT d0_lastOf 13 rfl) (as := [mI _, mI _]) rfl rfl T (fun v1 h1 T => ?_)
      obtain ⟨z, T1, T2⟩ := T
      refine mw_if_eq 35 (dT d0_lastOf 14 rfl) (by decide) z (fun z => ?_) (fun z => ?_)
      · have T := T1 z
        refine mw_iload_n (dT d0_lastOf 18 rfl) rfl ?_
        exact mw_iret rfl (dT d0_lastOf 19 rfl) ⟨_, rfl, T⟩
      · have T := T2 z
        refine mw_iinc (dT d0_lastOf 15 rfl) rfl (by decide) ?_
        refine mw_iinc (dT d0_lastOf 16 rfl) rfl (by decide) ?_
        refine mw_goto 5 (dT d0_lastOf 17 rfl) (by decide) ?_
        exact T
theorem s0_lastOf {K : Int → mH → Prop} {b : Int} {x1 : Int} {x2 : Int} {h : mH} (T : A0_lastOf_5 K b x1 x2 x2 0 h) : OkI M0_lastOf [mR 1 b, mI x1, mI x2] h K := by
  refine Ok.of rfl (n := 2) rfl ?_
  show At (mPI K) M0_lastOf 0 [mR 1 b, mI x1, mI x2, mU, mU] [] h
  refine mw_iload_n (dT d0_lastOf 0 rfl) rfl ?_
  refine mw_istore_n (dT d0_lastOf 1 rfl) (by decide) ?_
  refine mw_iconst (dT d0_lastOf 2 rfl) ?_
  refine mw_istore (dT d0_lastOf 3 rfl) (by decide) ?_
  exact T
abbrev A0_setClass_16 (K : mH → Prop) (b : Int) (x1 x2 x3 x4 x5 : Int) (h : mH) : Prop := At (mPV K) M0_setClass 16 [mR 1 b, mI x1, mI x2, mI x3, mI x4, mI x5] [] h
theorem s0_setClass_16 {K : mH → Prop} {b : Int} {x1 x2 x3 x4 x5 : Int} {h : mH} (T : (mInR x5 ∧ mInR x4) ∧ (x4 < x5 → (K h)) ∧ (¬ x4 < x5 → (OkI M6_slot [mI x1, mI x5] h (fun v1 h1 => (0 ≤ v1 ∧ v1 < 32) ∧ (∀ h2 : mH, h2 = mSet h1 6 b v1 x3 → (A0_setClass_16 K b x1 x2 x3 x4 (x5 + 1) h2)))))) : A0_setClass_16 K b x1 x2 x3 x4 x5 h := by
  refine mw_iload (dT d0_setClass 10 rfl) rfl ?_
  refine mw_iload (dT d0_setClass 11 rfl) rfl ?_
  obtain ⟨z, T1, T2⟩ := T
  refine mw_icmp_gt 41 (dT d0_setClass 12 rfl) (by decide) z (fun z => ?_) (fun z => ?_)
  · have T := T1 z
    exact mw_vret rfl (dT d0_setClass 22 rfl) ⟨rfl, T⟩
  · have T := T2 z
    refine mw_aload_n (dT d0_setClass 13 rfl) rfl (by decide) ?_
    refine mw_getR fl_X0_24 (dT d0_setClass 14 rfl) ?_
    refine mw_iload_n (dT d0_setClass 15 rfl) rfl ?_
    refine mw_iload (dT d0_setClass 16 rfl) rfl ?_
    refine mw_callNI mt_6_slot (host := "RateOffice") (by decide) (by decide) (dT d0_setClass 17 rfl) (as := [mI _, mI _]) rfl rfl T (fun v1 h1 T => ?_)
    refine mw_iload_n (dT d0_setClass 18 rfl) rfl ?_
    obtain ⟨z, T⟩ := T
    have T := T _ rfl
    refine mw_iastore ro_6 (dT d0_setClass 19 rfl) z ?_
    refine mw_iinc (dT d0_setClass 20 rfl) rfl (by decide) ?_
    refine mw_goto 16 (dT d0_setClass 21 rfl) (by decide) ?_
    exact T
theorem s0_setClass {K : mH → Prop} {b : Int} {x1 : Int} {x2 : Int} {x3 : Int} {h : mH} (T : OkI M0_lastOf [mR 1 b, mI x1, mI x2] h (fun v1 h1 => OkI M0_firstOf [mR 1 b, mI x1, mI x2] h1 (fun v2 h2 => A0_setClass_16 K b x1 x2 x3 v1 v2 h2))) : OkV M0_setClass [mR 1 b, mI x1, mI x2, mI x3] h K := by
  refine Ok.of rfl (n := 2) rfl ?_
  show At (mPV K) M0_setClass 0 [mR 1 b, mI x1, mI x2, mI x3, mU, mU] [] h
  refine mw_aload_n (dT d0_setClass 0 rfl) rfl (by decide) ?_
  refine mw_iload_n (dT d0_setClass 1 rfl) rfl ?_
  refine mw_iload_n (dT d0_setClass 2 rfl) rfl ?_
  refine mw_callVI mv_0_lastOf ml_X0_70 (by decide) (dT d0_setClass 3 rfl) (as := [mI _, mI _]) rfl rfl T (fun v1 h1 T => ?_)
  refine mw_istore (dT d0_setClass 4 rfl) (by decide) ?_
  refine mw_aload_n (dT d0_setClass 5 rfl) rfl (by decide) ?_
  refine mw_iload_n (dT d0_setClass 6 rfl) rfl ?_
  refine mw_iload_n (dT d0_setClass 7 rfl) rfl ?_
  refine mw_callVI mv_0_firstOf ml_X0_73 (by decide) (dT d0_setClass 8 rfl) (as := [mI _, mI _]) rfl rfl T (fun v2 h2 T => ?_)
  refine mw_istore (dT d0_setClass 9 rfl) (by decide) ?_
  exact T
abbrev A0_setAll_2 (K : mH → Prop) (b : Int) (x1 x2 x3 : Int) (h : mH) : Prop := At (mPV K) M0_setAll 2 [mR 1 b, mI x1, mI x2, mI x3] [] h
theorem s0_setAll_2 {K : mH → Prop} {b : Int} {x1 x2 x3 : Int} {h : mH} (T : (mInR x3) ∧ (6 ≤ x3 → (K h)) ∧ (¬ 6 ≤ x3 → (OkI M6_slot [mI x1, mI x3] h (fun v1 h1 => (0 ≤ v1 ∧ v1 < 32) ∧ (∀ h2 : mH, h2 = mSet h1 6 b v1 x2 → (A0_setAll_2 K b x1 x2 (x3 + 1) h2)))))) : A0_setAll_2 K b x1 x2 x3 h := by
  refine mw_iload_n (dT d0_setAll 2 rfl) rfl ?_
  refine mw_bipush (by decide) (dT d0_setAll 3 rfl) ?_
  obtain ⟨z, T1, T2⟩ := T
  refine mw_icmp_ge 25 (dT d0_setAll 4 rfl) (by decide) ⟨z, by decide⟩ (fun z => ?_) (fun z => ?_)
  · have T := T1 z
    exact mw_vret rfl (dT d0_setAll 14 rfl) ⟨rfl, T⟩
  · have T := T2 z
    refine mw_aload_n (dT d0_setAll 5 rfl) rfl (by decide) ?_
    refine mw_getR fl_X0_24 (dT d0_setAll 6 rfl) ?_
    refine mw_iload_n (dT d0_setAll 7 rfl) rfl ?_
    refine mw_iload_n (dT d0_setAll 8 rfl) rfl ?_
    refine mw_callNI mt_6_slot (host := "RateOffice") (by decide) (by decide) (dT d0_setAll 9 rfl) (as := [mI _, mI _]) rfl rfl T (fun v1 h1 T => ?_)
    refine mw_iload_n (dT d0_setAll 10 rfl) rfl ?_
    obtain ⟨z, T⟩ := T
    have T := T _ rfl
    refine mw_iastore ro_6 (dT d0_setAll 11 rfl) z ?_
    refine mw_iinc (dT d0_setAll 12 rfl) rfl (by decide) ?_
    refine mw_goto 2 (dT d0_setAll 13 rfl) (by decide) ?_
    exact T
theorem s0_setAll {K : mH → Prop} {b : Int} {x1 : Int} {x2 : Int} {h : mH} (T : A0_setAll_2 K b x1 x2 0 h) : OkV M0_setAll [mR 1 b, mI x1, mI x2] h K := by
  refine Ok.of rfl (n := 1) rfl ?_
  show At (mPV K) M0_setAll 0 [mR 1 b, mI x1, mI x2, mU] [] h
  refine mw_iconst (dT d0_setAll 0 rfl) ?_
  refine mw_istore_n (dT d0_setAll 1 rfl) (by decide) ?_
  exact T
theorem s0_joinToNext {K : mH → Prop} {b : Int} {x1 : Int} {x2 : Int} {h : mH} (T : OkV M0_mark [mR 1 b, mI x1, mI x2] h (fun h1 => OkI M6_slot [mI x1, mI x2] h1 (fun v1 h2 => (0 ≤ v1 ∧ v1 < 32) ∧ (OkV M0_setClass [mR 1 b, mI x1, mI x2, mI (h2 6 b v1)] h2 (fun h3 => K h3))))) : OkV M0_joinToNext [mR 1 b, mI x1, mI x2] h K := by
  refine Ok.of rfl (n := 0) rfl ?_
  show At (mPV K) M0_joinToNext 0 [mR 1 b, mI x1, mI x2] [] h
  refine mw_aload_n (dT d0_joinToNext 0 rfl) rfl (by decide) ?_
  refine mw_iload_n (dT d0_joinToNext 1 rfl) rfl ?_
  refine mw_iload_n (dT d0_joinToNext 2 rfl) rfl ?_
  refine mw_callVV mv_0_mark ml_X0_76 (by decide) (dT d0_joinToNext 3 rfl) (as := [mI _, mI _]) rfl rfl T (fun h1 T => ?_)
  refine mw_aload_n (dT d0_joinToNext 4 rfl) rfl (by decide) ?_
  refine mw_iload_n (dT d0_joinToNext 5 rfl) rfl ?_
  refine mw_iload_n (dT d0_joinToNext 6 rfl) rfl ?_
  refine mw_aload_n (dT d0_joinToNext 7 rfl) rfl (by decide) ?_
  refine mw_getR fl_X0_24 (dT d0_joinToNext 8 rfl) ?_
  refine mw_iload_n (dT d0_joinToNext 9 rfl) rfl ?_
  refine mw_iload_n (dT d0_joinToNext 10 rfl) rfl ?_
  refine mw_callNI mt_6_slot (host := "RateOffice") (by decide) (by decide) (dT d0_joinToNext 11 rfl) (as := [mI _, mI _]) rfl rfl T (fun v1 h2 T => ?_)
  obtain ⟨z, T⟩ := T
  refine mw_iaload ro_6 (dT d0_joinToNext 12 rfl) z ?_
  refine mw_callVV mv_0_setClass ml_X0_80 (by decide) (dT d0_joinToNext 13 rfl) (as := [mI _, mI _, mI _]) rfl rfl T (fun h3 T => ?_)
  exact mw_vret rfl (dT d0_joinToNext 14 rfl) ⟨rfl, T⟩
theorem s0_mark {K : mH → Prop} {b : Int} {x1 : Int} {x2 : Int} {h : mH} (T : OkI M6_slot [mI x1, mI x2] h (fun v1 h1 => ∀ h2 : mH, h2 = mSet h1 1 b 6 (mOr (h 1 b 6) (mShl 1 v1)) → (K h2))) : OkV M0_mark [mR 1 b, mI x1, mI x2] h K := by
  refine Ok.of rfl (n := 0) rfl ?_
  show At (mPV K) M0_mark 0 [mR 1 b, mI x1, mI x2] [] h
  refine mw_aload_n (dT d0_mark 0 rfl) rfl (by decide) ?_
  refine mw_dup (dT d0_mark 1 rfl) (fun _ z => by cases z) ?_
  refine mw_getI fl_X0_49 (dT d0_mark 2 rfl) ?_
  refine mw_iconst (dT d0_mark 3 rfl) ?_
  refine mw_iload_n (dT d0_mark 4 rfl) rfl ?_
  refine mw_iload_n (dT d0_mark 5 rfl) rfl ?_
  refine mw_callNI mt_6_slot (host := "RateOffice") (by decide) (by decide) (dT d0_mark 6 rfl) (as := [mI _, mI _]) rfl rfl T (fun v1 h1 T => ?_)
  refine mw_ishl (dT d0_mark 7 rfl) ?_
  refine mw_ior (dT d0_mark 8 rfl) ?_
  have T := T _ rfl
  refine mw_putI fp_X0_49 (dT d0_mark 9 rfl) ?_
  exact mw_vret rfl (dT d0_mark 10 rfl) ⟨rfl, T⟩
theorem s0_part {K : mH → Prop} {b : Int} {x1 : Int} {x2 : Int} {h : mH} (T : OkI M6_slot [mI x1, mI x2] h (fun v1 h1 => ∀ h2 : mH, h2 = mSet h1 1 b 6 (mAnd (h 1 b 6) (mXor (mShl 1 v1) ((-1)))) → (K h2))) : OkV M0_part [mR 1 b, mI x1, mI x2] h K := by
  refine Ok.of rfl (n := 0) rfl ?_
  show At (mPV K) M0_part 0 [mR 1 b, mI x1, mI x2] [] h
  refine mw_aload_n (dT d0_part 0 rfl) rfl (by decide) ?_
  refine mw_dup (dT d0_part 1 rfl) (fun _ z => by cases z) ?_
  refine mw_getI fl_X0_49 (dT d0_part 2 rfl) ?_
  refine mw_iconst (dT d0_part 3 rfl) ?_
  refine mw_iload_n (dT d0_part 4 rfl) rfl ?_
  refine mw_iload_n (dT d0_part 5 rfl) rfl ?_
  refine mw_callNI mt_6_slot (host := "RateOffice") (by decide) (by decide) (dT d0_part 6 rfl) (as := [mI _, mI _]) rfl rfl T (fun v1 h1 T => ?_)
  refine mw_ishl (dT d0_part 7 rfl) ?_
  refine mw_iconst (dT d0_part 8 rfl) ?_
  refine mw_ixor (dT d0_part 9 rfl) ?_
  refine mw_iand (dT d0_part 10 rfl) ?_
  have T := T _ rfl
  refine mw_putI fp_X0_49 (dT d0_part 11 rfl) ?_
  exact mw_vret rfl (dT d0_part 12 rfl) ⟨rfl, T⟩
abbrev A0_sumOf_5 (K : Int → mH → Prop) (b : Int) (q1 : Nat) (i1 n1 : Int) (x2 x4 : Int) (h : mH) : Prop := At (mPJ K) M0_sumOf 5 [mR 1 b, mR q1 i1, mJ x2, mU, mI x4] [] h
theorem s0_sumOf_5 {K : Int → mH → Prop} {b : Int} {q1 : Nat} {i1 n1 : Int} {x2 x4 : Int} {h : mH} (hq1 : mRo q1 1 n1) (T : (mInR x4 ∧ mInR (h 1 b 0)) ∧ ((h 1 b 0) ≤ x4 → (K x2 h)) ∧ (¬ (h 1 b 0) ≤ x4 → ((mInR x4 ∧ mInR n1) ∧ (n1 ≤ x4 → (K x2 h)) ∧ (¬ n1 ≤ x4 → ((0 ≤ x4 ∧ x4 < n1) ∧ ((mInR (h q1 i1 x4)) ∧ (A0_sumOf_5 K b q1 i1 n1 (x2 + (h q1 i1 x4)) (x4 + 1) h))))))) : A0_sumOf_5 K b q1 i1 n1 x2 x4 h := by
  refine mw_iload (dT d0_sumOf 4 rfl) rfl ?_
  refine mw_aload_n (dT d0_sumOf 5 rfl) rfl (by decide) ?_
  refine mw_getI fl_X0_30 (dT d0_sumOf 6 rfl) ?_
  obtain ⟨z, T1, T2⟩ := T
  refine mw_icmp_ge 35 (dT d0_sumOf 7 rfl) (by decide) z (fun z => ?_) (fun z => ?_)
  · have T := T1 z
    refine mw_lload_n (dT d0_sumOf 21 rfl) rfl ?_
    exact mw_lret rfl (dT d0_sumOf 22 rfl) ⟨_, rfl, T⟩
  · have T := T2 z
    refine mw_iload (dT d0_sumOf 8 rfl) rfl ?_
    refine mw_aload_n (dT d0_sumOf 9 rfl) rfl hq1.ne ?_
    refine mw_alen hq1 (by decide) (dT d0_sumOf 10 rfl) ?_
    obtain ⟨z, T1, T2⟩ := T
    refine mw_icmp_ge 35 (dT d0_sumOf 11 rfl) (by decide) z (fun z => ?_) (fun z => ?_)
    · have T := T1 z
      refine mw_lload_n (dT d0_sumOf 21 rfl) rfl ?_
      exact mw_lret rfl (dT d0_sumOf 22 rfl) ⟨_, rfl, T⟩
    · have T := T2 z
      refine mw_lload_n (dT d0_sumOf 12 rfl) rfl ?_
      refine mw_aload_n (dT d0_sumOf 13 rfl) rfl hq1.ne ?_
      refine mw_iload (dT d0_sumOf 14 rfl) rfl ?_
      obtain ⟨z, T⟩ := T
      refine mw_iaload hq1 (dT d0_sumOf 15 rfl) z ?_
      obtain ⟨z, T⟩ := T
      refine mw_i2l (dT d0_sumOf 16 rfl) z ?_
      refine mw_ladd (dT d0_sumOf 17 rfl) ?_
      refine mw_lstore_n (dT d0_sumOf 18 rfl) (by decide) ?_
      refine mw_iinc (dT d0_sumOf 19 rfl) rfl (by decide) ?_
      refine mw_goto 5 (dT d0_sumOf 20 rfl) (by decide) ?_
      exact T
theorem s0_sumOf {K : Int → mH → Prop} {b : Int} {q1 : Nat} {i1 n1 : Int} {h : mH} (hq1 : mRo q1 1 n1) (T : A0_sumOf_5 K b q1 i1 n1 0 0 h) : OkJ M0_sumOf [mR 1 b, mR q1 i1] h K := by
  refine Ok.of rfl (n := 3) rfl ?_
  show At (mPJ K) M0_sumOf 0 [mR 1 b, mR q1 i1, mU, mU, mU] [] h
  refine mw_lconst (dT d0_sumOf 0 rfl) ?_
  refine mw_lstore_n (dT d0_sumOf 1 rfl) (by decide) ?_
  refine mw_iconst (dT d0_sumOf 2 rfl) ?_
  refine mw_istore (dT d0_sumOf 3 rfl) (by decide) ?_
  exact T
abbrev A0_countFleets_4 (K : Int → mH → Prop) (b : Int) (x1 x2 : Int) (h : mH) : Prop := At (mPI K) M0_countFleets 4 [mR 1 b, mI x1, mI x2] [] h
theorem s0_countFleets_4 {K : Int → mH → Prop} {b : Int} {x1 x2 : Int} {h : mH} (T : (mInR x2 ∧ mInR (h 1 b 0)) ∧ ((h 1 b 0) ≤ x2 → (K x1 h)) ∧ (¬ (h 1 b 0) ≤ x2 → ((0 ≤ x2 ∧ x2 < 40) ∧ ((mInR (h 2 b x2) ∧ mInR (h 1 b 4)) ∧ ((h 2 b x2) < (h 1 b 4) → (A0_countFleets_4 K b x1 (x2 + 1) h)) ∧ (¬ (h 2 b x2) < (h 1 b 4) → (A0_countFleets_4 K b (x1 + 1) (x2 + 1) h)))))) : A0_countFleets_4 K b x1 x2 h := by
  refine mw_iload_n (dT d0_countFleets 4 rfl) rfl ?_
  refine mw_aload_n (dT d0_countFleets 5 rfl) rfl (by decide) ?_
  refine mw_getI fl_X0_30 (dT d0_countFleets 6 rfl) ?_
  obtain ⟨z, T1, T2⟩ := T
  refine mw_icmp_ge 34 (dT d0_countFleets 7 rfl) (by decide) z (fun z => ?_) (fun z => ?_)
  · have T := T1 z
    refine mw_iload_n (dT d0_countFleets 18 rfl) rfl ?_
    exact mw_iret rfl (dT d0_countFleets 19 rfl) ⟨_, rfl, T⟩
  · have T := T2 z
    refine mw_aload_n (dT d0_countFleets 8 rfl) rfl (by decide) ?_
    refine mw_getR fl_X0_9 (dT d0_countFleets 9 rfl) ?_
    refine mw_iload_n (dT d0_countFleets 10 rfl) rfl ?_
    obtain ⟨z, T⟩ := T
    refine mw_iaload ro_2 (dT d0_countFleets 11 rfl) z ?_
    refine mw_aload_n (dT d0_countFleets 12 rfl) rfl (by decide) ?_
    refine mw_getI fl_X0_43 (dT d0_countFleets 13 rfl) ?_
    obtain ⟨z, T1, T2⟩ := T
    refine mw_icmp_lt 28 (dT d0_countFleets 14 rfl) (by decide) z (fun z => ?_) (fun z => ?_)
    · have T := T1 z
      refine mw_iinc (dT d0_countFleets 16 rfl) rfl (by decide) ?_
      refine mw_goto 4 (dT d0_countFleets 17 rfl) (by decide) ?_
      exact T
    · have T := T2 z
      refine mw_iinc (dT d0_countFleets 15 rfl) rfl (by decide) ?_
      refine mw_iinc (dT d0_countFleets 16 rfl) rfl (by decide) ?_
      refine mw_goto 4 (dT d0_countFleets 17 rfl) (by decide) ?_
      exact T
theorem s0_countFleets {K : Int → mH → Prop} {b : Int} {h : mH} (T : A0_countFleets_4 K b 0 0 h) : OkI M0_countFleets [mR 1 b] h K := by
  refine Ok.of rfl (n := 2) rfl ?_
  show At (mPI K) M0_countFleets 0 [mR 1 b, mU, mU] [] h
  refine mw_iconst (dT d0_countFleets 0 rfl) ?_
  refine mw_istore_n (dT d0_countFleets 1 rfl) (by decide) ?_
  refine mw_iconst (dT d0_countFleets 2 rfl) ?_
  refine mw_istore_n (dT d0_countFleets 3 rfl) (by decide) ?_
  exact T
abbrev A0_countKinds_4 (K : Int → mH → Prop) (b : Int) (x1 x2 : Int) (h : mH) : Prop := At (mPI K) M0_countKinds 4 [mR 1 b, mI x1, mI x2] [] h
theorem s0_countKinds_4 {K : Int → mH → Prop} {b : Int} {x1 x2 : Int} {h : mH} (T : (mInR x2 ∧ mInR (h 1 b 0)) ∧ ((h 1 b 0) ≤ x2 → (K x1 h)) ∧ (¬ (h 1 b 0) ≤ x2 → (OkI M0_isFirstOfKind [mR 1 b, mI x2] h (fun v1 h1 => (mInR v1) ∧ (v1 = 0 → (A0_countKinds_4 K b x1 (x2 + 1) h1)) ∧ (¬ v1 = 0 → (A0_countKinds_4 K b (x1 + 1) (x2 + 1) h1)))))) : A0_countKinds_4 K b x1 x2 h := by
  refine mw_iload_n (dT d0_countKinds 4 rfl) rfl ?_
  refine mw_aload_n (dT d0_countKinds 5 rfl) rfl (by decide) ?_
  refine mw_getI fl_X0_30 (dT d0_countKinds 6 rfl) ?_
  obtain ⟨z, T1, T2⟩ := T
  refine mw_icmp_ge 29 (dT d0_countKinds 7 rfl) (by decide) z (fun z => ?_) (fun z => ?_)
  · have T := T1 z
    refine mw_iload_n (dT d0_countKinds 15 rfl) rfl ?_
    exact mw_iret rfl (dT d0_countKinds 16 rfl) ⟨_, rfl, T⟩
  · have T := T2 z
    refine mw_aload_n (dT d0_countKinds 8 rfl) rfl (by decide) ?_
    refine mw_iload_n (dT d0_countKinds 9 rfl) rfl ?_
    refine mw_callVI mv_0_isFirstOfKind ml_X0_84 (by decide) (dT d0_countKinds 10 rfl) (as := [mI _]) rfl rfl T (fun v1 h1 T => ?_)
    obtain ⟨z, T1, T2⟩ := T
    refine mw_if_eq 23 (dT d0_countKinds 11 rfl) (by decide) z (fun z => ?_) (fun z => ?_)
    · have T := T1 z
      refine mw_iinc (dT d0_countKinds 13 rfl) rfl (by decide) ?_
      refine mw_goto 4 (dT d0_countKinds 14 rfl) (by decide) ?_
      exact T
    · have T := T2 z
      refine mw_iinc (dT d0_countKinds 12 rfl) rfl (by decide) ?_
      refine mw_iinc (dT d0_countKinds 13 rfl) rfl (by decide) ?_
      refine mw_goto 4 (dT d0_countKinds 14 rfl) (by decide) ?_
      exact T
theorem s0_countKinds {K : Int → mH → Prop} {b : Int} {h : mH} (T : A0_countKinds_4 K b 0 0 h) : OkI M0_countKinds [mR 1 b] h K := by
  refine Ok.of rfl (n := 2) rfl ?_
  show At (mPI K) M0_countKinds 0 [mR 1 b, mU, mU] [] h
  refine mw_iconst (dT d0_countKinds 0 rfl) ?_
  refine mw_istore_n (dT d0_countKinds 1 rfl) (by decide) ?_
  refine mw_iconst (dT d0_countKinds 2 rfl) ?_
  refine mw_istore_n (dT d0_countKinds 3 rfl) (by decide) ?_
  exact T
abbrev A0_isFirstOfKind_2 (K : Int → mH → Prop) (b : Int) (x1 x2 : Int) (h : mH) : Prop := At (mPI K) M0_isFirstOfKind 2 [mR 1 b, mI x1, mI x2] [] h
theorem s0_isFirstOfKind_2 {K : Int → mH → Prop} {b : Int} {x1 x2 : Int} {h : mH} (T : (mInR x2 ∧ mInR x1) ∧ (x1 ≤ x2 → (K 1 h)) ∧ (¬ x1 ≤ x2 → ((0 ≤ x2 ∧ x2 < 40) ∧ ((0 ≤ x1 ∧ x1 < 40) ∧ ((mInR (h 5 b x2) ∧ mInR (h 5 b x1)) ∧ (¬ (h 5 b x2) = (h 5 b x1) → (A0_isFirstOfKind_2 K b x1 (x2 + 1) h)) ∧ ((h 5 b x2) = (h 5 b x1) → (K 0 h))))))) : A0_isFirstOfKind_2 K b x1 x2 h := by
  refine mw_iload_n (dT d0_isFirstOfKind 2 rfl) rfl ?_
  refine mw_iload_n (dT d0_isFirstOfKind 3 rfl) rfl ?_
  obtain ⟨z, T1, T2⟩ := T
  refine mw_icmp_ge 30 (dT d0_isFirstOfKind 4 rfl) (by decide) z (fun z => ?_) (fun z => ?_)
  · have T := T1 z
    refine mw_iconst (dT d0_isFirstOfKind 18 rfl) ?_
    exact mw_zret rfl (dT d0_isFirstOfKind 19 rfl) (Or.inr rfl) ⟨_, rfl, T⟩
  · have T := T2 z
    refine mw_aload_n (dT d0_isFirstOfKind 5 rfl) rfl (by decide) ?_
    refine mw_getR fl_X0_21 (dT d0_isFirstOfKind 6 rfl) ?_
    refine mw_iload_n (dT d0_isFirstOfKind 7 rfl) rfl ?_
    obtain ⟨z, T⟩ := T
    refine mw_iaload ro_5 (dT d0_isFirstOfKind 8 rfl) z ?_
    refine mw_aload_n (dT d0_isFirstOfKind 9 rfl) rfl (by decide) ?_
    refine mw_getR fl_X0_21 (dT d0_isFirstOfKind 10 rfl) ?_
    refine mw_iload_n (dT d0_isFirstOfKind 11 rfl) rfl ?_
    obtain ⟨z, T⟩ := T
    refine mw_iaload ro_5 (dT d0_isFirstOfKind 12 rfl) z ?_
    obtain ⟨z, T1, T2⟩ := T
    refine mw_icmp_ne 24 (dT d0_isFirstOfKind 13 rfl) (by decide) z (fun z => ?_) (fun z => ?_)
    · have T := T1 z
      refine mw_iinc (dT d0_isFirstOfKind 16 rfl) rfl (by decide) ?_
      refine mw_goto 2 (dT d0_isFirstOfKind 17 rfl) (by decide) ?_
      exact T
    · have T := T2 z
      refine mw_iconst (dT d0_isFirstOfKind 14 rfl) ?_
      exact mw_zret rfl (dT d0_isFirstOfKind 15 rfl) (Or.inl rfl) ⟨_, rfl, T⟩
theorem s0_isFirstOfKind {K : Int → mH → Prop} {b : Int} {x1 : Int} {h : mH} (T : A0_isFirstOfKind_2 K b x1 0 h) : OkI M0_isFirstOfKind [mR 1 b, mI x1] h K := by
  refine Ok.of rfl (n := 1) rfl ?_
  show At (mPI K) M0_isFirstOfKind 0 [mR 1 b, mI x1, mU] [] h
  refine mw_iconst (dT d0_isFirstOfKind 0 rfl) ?_
  refine mw_istore_n (dT d0_isFirstOfKind 1 rfl) (by decide) ?_
  exact T
abbrev A0_drawClaims_7 (K : mH → Prop) (b : Int) (x1 x2 x3 x4 x6 : Int) (h : mH) : Prop := At (mPV K) M0_drawClaims 7 [mR 1 b, mI x1, mI x2, mI x3, mJ x4, mU, mI x6, mU] [] h
theorem s0_drawClaims_7 {K : mH → Prop} {b : Int} {x1 x2 x3 x4 x6 : Int} {h : mH} (T : (mInR x6 ∧ mInR x2) ∧ (x2 ≤ x6 → (K h)) ∧ (¬ x2 ≤ x6 → (OkJ M0_numberBehind [mJ x4] h (fun v1 h1 => OkI M0_drawn [mJ v1, mI (h1 1 b 0)] h1 (fun v2 h2 => OkJ M0_numberBehind [mJ v1] h2 (fun v3 h3 => OkI M0_hasRisk [mR 1 b, mI v2] h3 (fun v4 h4 => (mInR v4) ∧ (v4 = 0 → (A0_drawClaims_7 K b x1 x2 x3 v3 (x6 + 1) h4)) ∧ (¬ v4 = 0 → (OkI M0_drawn [mJ v3, mI x3] h4 (fun v5 h5 => (0 ≤ v2 ∧ v2 < 40) ∧ (∀ h6 : mH, h6 = mSet h5 3 b v2 v5 → (A0_drawClaims_7 K b x1 x2 x3 v3 (x6 + 1) h6)))))))))))) : A0_drawClaims_7 K b x1 x2 x3 x4 x6 h := by
  refine mw_iload (dT d0_drawClaims 5 rfl) rfl ?_
  refine mw_iload_n (dT d0_drawClaims 6 rfl) rfl ?_
  obtain ⟨z, T1, T2⟩ := T
  refine mw_icmp_ge 66 (dT d0_drawClaims 7 rfl) (by decide) z (fun z => ?_) (fun z => ?_)
  · have T := T1 z
    exact mw_vret rfl (dT d0_drawClaims 32 rfl) ⟨rfl, T⟩
  · have T := T2 z
    refine mw_lload (dT d0_drawClaims 8 rfl) rfl ?_
    refine mw_callSJ mt_0_numberBehind ml_X0_87 (by decide) (dT d0_drawClaims 9 rfl) (as := [mJ _]) rfl rfl T (fun v1 h1 T => ?_)
    refine mw_lstore (dT d0_drawClaims 10 rfl) (by decide) ?_
    refine mw_lload (dT d0_drawClaims 11 rfl) rfl ?_
    refine mw_aload_n (dT d0_drawClaims 12 rfl) rfl (by decide) ?_
    refine mw_getI fl_X0_30 (dT d0_drawClaims 13 rfl) ?_
    refine mw_callSI mt_0_drawn ml_X0_91 (by decide) (dT d0_drawClaims 14 rfl) (as := [mJ _, mI _]) rfl rfl T (fun v2 h2 T => ?_)
    refine mw_istore (dT d0_drawClaims 15 rfl) (by decide) ?_
    refine mw_lload (dT d0_drawClaims 16 rfl) rfl ?_
    refine mw_callSJ mt_0_numberBehind ml_X0_87 (by decide) (dT d0_drawClaims 17 rfl) (as := [mJ _]) rfl rfl T (fun v3 h3 T => ?_)
    refine mw_lstore (dT d0_drawClaims 18 rfl) (by decide) ?_
    refine mw_aload_n (dT d0_drawClaims 19 rfl) rfl (by decide) ?_
    refine mw_iload (dT d0_drawClaims 20 rfl) rfl ?_
    refine mw_callVI mv_0_hasRisk ml_X0_58 (by decide) (dT d0_drawClaims 21 rfl) (as := [mI _]) rfl rfl T (fun v4 h4 T => ?_)
    obtain ⟨z, T1, T2⟩ := T
    refine mw_if_eq 60 (dT d0_drawClaims 22 rfl) (by decide) z (fun z => ?_) (fun z => ?_)
    · have T := T1 z
      refine mw_iinc (dT d0_drawClaims 30 rfl) rfl (by decide) ?_
      refine mw_goto 7 (dT d0_drawClaims 31 rfl) (by decide) ?_
      exact At.forget [7] T
    · have T := T2 z
      refine mw_aload_n (dT d0_drawClaims 23 rfl) rfl (by decide) ?_
      refine mw_getR fl_X0_15 (dT d0_drawClaims 24 rfl) ?_
      refine mw_iload (dT d0_drawClaims 25 rfl) rfl ?_
      refine mw_lload (dT d0_drawClaims 26 rfl) rfl ?_
      refine mw_iload_n (dT d0_drawClaims 27 rfl) rfl ?_
      refine mw_callSI mt_0_drawn ml_X0_91 (by decide) (dT d0_drawClaims 28 rfl) (as := [mJ _, mI _]) rfl rfl T (fun v5 h5 T => ?_)
      obtain ⟨z, T⟩ := T
      have T := T _ rfl
      refine mw_iastore ro_3 (dT d0_drawClaims 29 rfl) z ?_
      refine mw_iinc (dT d0_drawClaims 30 rfl) rfl (by decide) ?_
      refine mw_goto 7 (dT d0_drawClaims 31 rfl) (by decide) ?_
      exact At.forget [7] T
theorem s0_drawClaims {K : mH → Prop} {b : Int} {x1 : Int} {x2 : Int} {x3 : Int} {h : mH} (T : (mInR x1) ∧ (A0_drawClaims_7 K b x1 x2 x3 x1 0 h)) : OkV M0_drawClaims [mR 1 b, mI x1, mI x2, mI x3] h K := by
  refine Ok.of rfl (n := 4) rfl ?_
  show At (mPV K) M0_drawClaims 0 [mR 1 b, mI x1, mI x2, mI x3, mU, mU, mU, mU] [] h
  refine mw_iload_n (dT d0_drawClaims 0 rfl) rfl ?_
  obtain ⟨z, T⟩ := T
  refine mw_i2l (dT d0_drawClaims 1 rfl) z ?_
  refine mw_lstore (dT d0_drawClaims 2 rfl) (by decide) ?_
  refine mw_iconst (dT d0_drawClaims 3 rfl) ?_
  refine mw_istore (dT d0_drawClaims 4 rfl) (by decide) ?_
  exact T
theorem s0_numberBehind {K : Int → mH → Prop} {x0 : Int} {h : mH} (T : K (mAndL ((x0 * 1103515245) + 12345) 2147483647) h) : OkJ M0_numberBehind [mJ x0] h K := by
  refine Ok.of rfl (n := 0) rfl ?_
  show At (mPJ K) M0_numberBehind 0 [mJ x0, mU] [] h
  refine mw_lload_n (dT d0_numberBehind 0 rfl) rfl ?_
  refine mw_ldc2 kl_X0_95 (dT d0_numberBehind 1 rfl) ?_
  refine mw_lmul (dT d0_numberBehind 2 rfl) ?_
  refine mw_ldc2 kl_X0_97 (dT d0_numberBehind 3 rfl) ?_
  refine mw_ladd (dT d0_numberBehind 4 rfl) ?_
  refine mw_ldc2 kl_X0_99 (dT d0_numberBehind 5 rfl) ?_
  refine mw_land (dT d0_numberBehind 6 rfl) ?_
  exact mw_lret rfl (dT d0_numberBehind 7 rfl) ⟨_, rfl, T⟩
theorem s0_drawn {K : Int → mH → Prop} {x0 : Int} {x2 : Int} {h : mH} (T : (mInR x2) ∧ (0 < x2 → ((mInR x2) ∧ ((mInL (mShrL x0 16) ∧ mInL x2 ∧ x2 ≠ 0) ∧ (K (Int.tmod (mShrL x0 16) x2) h)))) ∧ (¬ 0 < x2 → (K 0 h))) : OkI M0_drawn [mJ x0, mI x2] h K := by
  refine Ok.of rfl (n := 0) rfl ?_
  show At (mPI K) M0_drawn 0 [mJ x0, mU, mI x2] [] h
  refine mw_iload_n (dT d0_drawn 0 rfl) rfl ?_
  obtain ⟨z, T1, T2⟩ := T
  refine mw_if_gt 8 (dT d0_drawn 1 rfl) (by decide) z (fun z => ?_) (fun z => ?_)
  · have T := T1 z
    refine mw_lload_n (dT d0_drawn 4 rfl) rfl ?_
    refine mw_bipush (by decide) (dT d0_drawn 5 rfl) ?_
    refine mw_lshr (dT d0_drawn 6 rfl) ?_
    refine mw_iload_n (dT d0_drawn 7 rfl) rfl ?_
    obtain ⟨z, T⟩ := T
    refine mw_i2l (dT d0_drawn 8 rfl) z ?_
    obtain ⟨z, T⟩ := T
    refine mw_lrem (dT d0_drawn 9 rfl) z ?_
    refine mw_l2i (dT d0_drawn 10 rfl) ?_
    exact mw_iret rfl (dT d0_drawn 11 rfl) ⟨_, rfl, T⟩
  · have T := T2 z
    refine mw_iconst (dT d0_drawn 2 rfl) ?_
    refine mw_goto 16 (dT d0_drawn 3 rfl) (by decide) ?_
    exact mw_iret rfl (dT d0_drawn 11 rfl) ⟨_, rfl, T⟩
